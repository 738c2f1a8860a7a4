section
/-- a private method of a class that the tables say can be made, by its rows of tables_1 -/
def lw_okq (q : MethodName × Nat) : Prop := (q.1.cls ≠ "java/lang/invoke/MethodHandle" ∧ q.1.cls ≠ "java/lang/invoke/VarHandle") ∧ Cond.instantiable q.1.cls q.2 ∈ tables_1 ∧ Cond.privateMethod q.1 ∈ tables_1 ∧ Cond.instanceMethod q.1 ∈ tables_1
theorem lw_p0 : lw_okq (⟨"LookaheadMill$Text", "fits", "(J)Z"⟩, 2) := ⟨⟨by decide +kernel, by decide +kernel⟩, List.mem_of_getElem? (i := 30) (by decide +kernel), List.mem_of_getElem? (i := 364) (by decide +kernel), List.mem_of_getElem? (i := 365) (by decide +kernel)⟩
theorem lw_p1 : lw_okq (⟨"LookaheadMill$Reader", "clear", "()V"⟩, 7) := ⟨⟨by decide +kernel, by decide +kernel⟩, List.mem_of_getElem? (i := 97) (by decide +kernel), List.mem_of_getElem? (i := 391) (by decide +kernel), List.mem_of_getElem? (i := 392) (by decide +kernel)⟩
theorem lw_p2 : lw_okq (⟨"LookaheadMill$Reader", "readRules", "()I"⟩, 7) := ⟨⟨by decide +kernel, by decide +kernel⟩, List.mem_of_getElem? (i := 97) (by decide +kernel), List.mem_of_getElem? (i := 403) (by decide +kernel), List.mem_of_getElem? (i := 404) (by decide +kernel)⟩
theorem lw_p3 : lw_okq (⟨"LookaheadMill$Reader", "take", "(CI)I"⟩, 7) := ⟨⟨by decide +kernel, by decide +kernel⟩, List.mem_of_getElem? (i := 97) (by decide +kernel), List.mem_of_getElem? (i := 407) (by decide +kernel), List.mem_of_getElem? (i := 408) (by decide +kernel)⟩
theorem lw_p4 : lw_okq (⟨"LookaheadMill$Reader", "beginRule", "(II)I"⟩, 7) := ⟨⟨by decide +kernel, by decide +kernel⟩, List.mem_of_getElem? (i := 97) (by decide +kernel), List.mem_of_getElem? (i := 414) (by decide +kernel), List.mem_of_getElem? (i := 415) (by decide +kernel)⟩
theorem lw_p5 : lw_okq (⟨"LookaheadMill$Reader", "beginAlternative", "()I"⟩, 7) := ⟨⟨by decide +kernel, by decide +kernel⟩, List.mem_of_getElem? (i := 97) (by decide +kernel), List.mem_of_getElem? (i := 422) (by decide +kernel), List.mem_of_getElem? (i := 423) (by decide +kernel)⟩
theorem lw_p6 : lw_okq (⟨"LookaheadMill$Reader", "takeInAlternatives", "(CI)I"⟩, 7) := ⟨⟨by decide +kernel, by decide +kernel⟩, List.mem_of_getElem? (i := 97) (by decide +kernel), List.mem_of_getElem? (i := 434) (by decide +kernel), List.mem_of_getElem? (i := 435) (by decide +kernel)⟩
theorem lw_p7 : lw_okq (⟨"LookaheadMill$Reader", "takeLetter", "(II)I"⟩, 7) := ⟨⟨by decide +kernel, by decide +kernel⟩, List.mem_of_getElem? (i := 97) (by decide +kernel), List.mem_of_getElem? (i := 438) (by decide +kernel), List.mem_of_getElem? (i := 439) (by decide +kernel)⟩
theorem lw_p8 : lw_okq (⟨"LookaheadMill$Reader", "checkRules", "()I"⟩, 7) := ⟨⟨by decide +kernel, by decide +kernel⟩, List.mem_of_getElem? (i := 97) (by decide +kernel), List.mem_of_getElem? (i := 450) (by decide +kernel), List.mem_of_getElem? (i := 451) (by decide +kernel)⟩
theorem lw_p9 : lw_okq (⟨"LookaheadMill$Grammar", "isMadeOf", "(II)Z"⟩, 6) := ⟨⟨by decide +kernel, by decide +kernel⟩, List.mem_of_getElem? (i := 46) (by decide +kernel), List.mem_of_getElem? (i := 459) (by decide +kernel), List.mem_of_getElem? (i := 460) (by decide +kernel)⟩
theorem lw_p10 : lw_okq (⟨"LookaheadMill$Grammar", "symbolsIn", "(I)I"⟩, 6) := ⟨⟨by decide +kernel, by decide +kernel⟩, List.mem_of_getElem? (i := 46) (by decide +kernel), List.mem_of_getElem? (i := 463) (by decide +kernel), List.mem_of_getElem? (i := 464) (by decide +kernel)⟩
theorem lw_p11 : lw_okq (⟨"LookaheadMill$Reader", "checkMarked", "(II)I"⟩, 7) := ⟨⟨by decide +kernel, by decide +kernel⟩, List.mem_of_getElem? (i := 97) (by decide +kernel), List.mem_of_getElem? (i := 471) (by decide +kernel), List.mem_of_getElem? (i := 472) (by decide +kernel)⟩
theorem lw_p12 : lw_okq (⟨"LookaheadMill$States", "findStands", "()V"⟩, 6) := ⟨⟨by decide +kernel, by decide +kernel⟩, List.mem_of_getElem? (i := 151) (by decide +kernel), List.mem_of_getElem? (i := 484) (by decide +kernel), List.mem_of_getElem? (i := 485) (by decide +kernel)⟩
theorem lw_p13 : lw_okq (⟨"LookaheadMill$States", "keepMade", "()I"⟩, 6) := ⟨⟨by decide +kernel, by decide +kernel⟩, List.mem_of_getElem? (i := 151) (by decide +kernel), List.mem_of_getElem? (i := 490) (by decide +kernel), List.mem_of_getElem? (i := 491) (by decide +kernel)⟩
theorem lw_p14 : lw_okq (⟨"LookaheadMill$States", "closeMade", "()V"⟩, 6) := ⟨⟨by decide +kernel, by decide +kernel⟩, List.mem_of_getElem? (i := 151) (by decide +kernel), List.mem_of_getElem? (i := 494) (by decide +kernel), List.mem_of_getElem? (i := 495) (by decide +kernel)⟩
theorem lw_p15 : lw_okq (⟨"LookaheadMill$States", "standsBehindDot", "(I)Z"⟩, 6) := ⟨⟨by decide +kernel, by decide +kernel⟩, List.mem_of_getElem? (i := 151) (by decide +kernel), List.mem_of_getElem? (i := 498) (by decide +kernel), List.mem_of_getElem? (i := 499) (by decide +kernel)⟩
def lw_privs_1 : List (MethodName × Nat) := [(⟨"LookaheadMill$Text", "fits", "(J)Z"⟩, 2), (⟨"LookaheadMill$Reader", "clear", "()V"⟩, 7), (⟨"LookaheadMill$Reader", "readRules", "()I"⟩, 7), (⟨"LookaheadMill$Reader", "take", "(CI)I"⟩, 7), (⟨"LookaheadMill$Reader", "beginRule", "(II)I"⟩, 7), (⟨"LookaheadMill$Reader", "beginAlternative", "()I"⟩, 7), (⟨"LookaheadMill$Reader", "takeInAlternatives", "(CI)I"⟩, 7), (⟨"LookaheadMill$Reader", "takeLetter", "(II)I"⟩, 7), (⟨"LookaheadMill$Reader", "checkRules", "()I"⟩, 7), (⟨"LookaheadMill$Grammar", "isMadeOf", "(II)Z"⟩, 6), (⟨"LookaheadMill$Grammar", "symbolsIn", "(I)I"⟩, 6), (⟨"LookaheadMill$Reader", "checkMarked", "(II)I"⟩, 7), (⟨"LookaheadMill$States", "findStands", "()V"⟩, 6), (⟨"LookaheadMill$States", "keepMade", "()I"⟩, 6), (⟨"LookaheadMill$States", "closeMade", "()V"⟩, 6), (⟨"LookaheadMill$States", "standsBehindDot", "(I)Z"⟩, 6)]
theorem lw_r1 : ∀ q ∈ lw_privs_1, lw_okq q := List.forall_mem_cons.mpr ⟨lw_p0, List.forall_mem_cons.mpr ⟨lw_p1, List.forall_mem_cons.mpr ⟨lw_p2, List.forall_mem_cons.mpr ⟨lw_p3, List.forall_mem_cons.mpr ⟨lw_p4, List.forall_mem_cons.mpr ⟨lw_p5, List.forall_mem_cons.mpr ⟨lw_p6, List.forall_mem_cons.mpr ⟨lw_p7, List.forall_mem_cons.mpr ⟨lw_p8, List.forall_mem_cons.mpr ⟨lw_p9, List.forall_mem_cons.mpr ⟨lw_p10, List.forall_mem_cons.mpr ⟨lw_p11, List.forall_mem_cons.mpr ⟨lw_p12, List.forall_mem_cons.mpr ⟨lw_p13, List.forall_mem_cons.mpr ⟨lw_p14, List.forall_mem_cons.mpr ⟨lw_p15, fun _ h => absurd h List.not_mem_nil⟩⟩⟩⟩⟩⟩⟩⟩⟩⟩⟩⟩⟩⟩⟩⟩
theorem lw_p16 : lw_okq (⟨"LookaheadMill$States", "addProductions", "(I)V"⟩, 6) := ⟨⟨by decide +kernel, by decide +kernel⟩, List.mem_of_getElem? (i := 151) (by decide +kernel), List.mem_of_getElem? (i := 502) (by decide +kernel), List.mem_of_getElem? (i := 503) (by decide +kernel)⟩
theorem lw_p17 : lw_okq (⟨"LookaheadMill$States", "goFrom", "(II)Z"⟩, 6) := ⟨⟨by decide +kernel, by decide +kernel⟩, List.mem_of_getElem? (i := 151) (by decide +kernel), List.mem_of_getElem? (i := 509) (by decide +kernel), List.mem_of_getElem? (i := 510) (by decide +kernel)⟩
theorem lw_p18 : lw_okq (⟨"LookaheadMill$States", "moveDots", "(II)Z"⟩, 6) := ⟨⟨by decide +kernel, by decide +kernel⟩, List.mem_of_getElem? (i := 151) (by decide +kernel), List.mem_of_getElem? (i := 513) (by decide +kernel), List.mem_of_getElem? (i := 514) (by decide +kernel)⟩
theorem lw_p19 : lw_okq (⟨"LookaheadMill$States", "findMade", "()I"⟩, 6) := ⟨⟨by decide +kernel, by decide +kernel⟩, List.mem_of_getElem? (i := 151) (by decide +kernel), List.mem_of_getElem? (i := 517) (by decide +kernel), List.mem_of_getElem? (i := 518) (by decide +kernel)⟩
theorem lw_p20 : lw_okq (⟨"LookaheadMill$States", "isMade", "(I)Z"⟩, 6) := ⟨⟨by decide +kernel, by decide +kernel⟩, List.mem_of_getElem? (i := 151) (by decide +kernel), List.mem_of_getElem? (i := 521) (by decide +kernel), List.mem_of_getElem? (i := 522) (by decide +kernel)⟩
theorem lw_p21 : lw_okq (⟨"LookaheadMill$Sets", "findFirst", "()V"⟩, 5) := ⟨⟨by decide +kernel, by decide +kernel⟩, List.mem_of_getElem? (i := 126) (by decide +kernel), List.mem_of_getElem? (i := 530) (by decide +kernel), List.mem_of_getElem? (i := 531) (by decide +kernel)⟩
theorem lw_p22 : lw_okq (⟨"LookaheadMill$Sets", "firstOfRow", "(II)I"⟩, 5) := ⟨⟨by decide +kernel, by decide +kernel⟩, List.mem_of_getElem? (i := 126) (by decide +kernel), List.mem_of_getElem? (i := 536) (by decide +kernel), List.mem_of_getElem? (i := 537) (by decide +kernel)⟩
theorem lw_p23 : lw_okq (⟨"LookaheadMill$Sets", "findFollow", "()V"⟩, 5) := ⟨⟨by decide +kernel, by decide +kernel⟩, List.mem_of_getElem? (i := 126) (by decide +kernel), List.mem_of_getElem? (i := 545) (by decide +kernel), List.mem_of_getElem? (i := 546) (by decide +kernel)⟩
theorem lw_p24 : lw_okq (⟨"LookaheadMill$Sets", "followIn", "(I)Z"⟩, 5) := ⟨⟨by decide +kernel, by decide +kernel⟩, List.mem_of_getElem? (i := 126) (by decide +kernel), List.mem_of_getElem? (i := 550) (by decide +kernel), List.mem_of_getElem? (i := 551) (by decide +kernel)⟩
theorem lw_p25 : lw_okq (⟨"LookaheadMill$Aheads", "add", "(IIII)V"⟩, 5) := ⟨⟨by decide +kernel, by decide +kernel⟩, List.mem_of_getElem? (i := 179) (by decide +kernel), List.mem_of_getElem? (i := 563) (by decide +kernel), List.mem_of_getElem? (i := 564) (by decide +kernel)⟩
theorem lw_p26 : lw_okq (⟨"LookaheadMill$Aheads", "handOn", "(I)V"⟩, 5) := ⟨⟨by decide +kernel, by decide +kernel⟩, List.mem_of_getElem? (i := 179) (by decide +kernel), List.mem_of_getElem? (i := 569) (by decide +kernel), List.mem_of_getElem? (i := 570) (by decide +kernel)⟩
theorem lw_p27 : lw_okq (⟨"LookaheadMill$Aheads", "handOnItem", "(III)V"⟩, 5) := ⟨⟨by decide +kernel, by decide +kernel⟩, List.mem_of_getElem? (i := 179) (by decide +kernel), List.mem_of_getElem? (i := 577) (by decide +kernel), List.mem_of_getElem? (i := 578) (by decide +kernel)⟩
theorem lw_p28 : lw_okq (⟨"java/lang/Throwable", "fillInStackTrace", "(I)Ljava/lang/Throwable;"⟩, 6) := ⟨⟨by decide +kernel, by decide +kernel⟩, List.mem_of_getElem? (i := 648) (by decide +kernel), List.mem_of_getElem? (i := 646) (by decide +kernel), List.mem_of_getElem? (i := 647) (by decide +kernel)⟩
theorem lw_p29 : lw_okq (⟨"LookaheadMill", "needGrammar", "()V"⟩, 10) := ⟨⟨by decide +kernel, by decide +kernel⟩, List.mem_of_getElem? (i := 22) (by decide +kernel), List.mem_of_getElem? (i := 681) (by decide +kernel), List.mem_of_getElem? (i := 682) (by decide +kernel)⟩
theorem lw_p30 : lw_okq (⟨"LookaheadMill$Cells", "isDecidedBy", "(I)Z"⟩, 5) := ⟨⟨by decide +kernel, by decide +kernel⟩, List.mem_of_getElem? (i := 219) (by decide +kernel), List.mem_of_getElem? (i := 704) (by decide +kernel), List.mem_of_getElem? (i := 705) (by decide +kernel)⟩
theorem lw_p31 : lw_okq (⟨"LookaheadMill$Cells", "isTorn", "(II)Z"⟩, 5) := ⟨⟨by decide +kernel, by decide +kernel⟩, List.mem_of_getElem? (i := 219) (by decide +kernel), List.mem_of_getElem? (i := 708) (by decide +kernel), List.mem_of_getElem? (i := 709) (by decide +kernel)⟩
def lw_privs_2 : List (MethodName × Nat) := [(⟨"LookaheadMill$States", "addProductions", "(I)V"⟩, 6), (⟨"LookaheadMill$States", "goFrom", "(II)Z"⟩, 6), (⟨"LookaheadMill$States", "moveDots", "(II)Z"⟩, 6), (⟨"LookaheadMill$States", "findMade", "()I"⟩, 6), (⟨"LookaheadMill$States", "isMade", "(I)Z"⟩, 6), (⟨"LookaheadMill$Sets", "findFirst", "()V"⟩, 5), (⟨"LookaheadMill$Sets", "firstOfRow", "(II)I"⟩, 5), (⟨"LookaheadMill$Sets", "findFollow", "()V"⟩, 5), (⟨"LookaheadMill$Sets", "followIn", "(I)Z"⟩, 5), (⟨"LookaheadMill$Aheads", "add", "(IIII)V"⟩, 5), (⟨"LookaheadMill$Aheads", "handOn", "(I)V"⟩, 5), (⟨"LookaheadMill$Aheads", "handOnItem", "(III)V"⟩, 5), (⟨"java/lang/Throwable", "fillInStackTrace", "(I)Ljava/lang/Throwable;"⟩, 6), (⟨"LookaheadMill", "needGrammar", "()V"⟩, 10), (⟨"LookaheadMill$Cells", "isDecidedBy", "(I)Z"⟩, 5), (⟨"LookaheadMill$Cells", "isTorn", "(II)Z"⟩, 5)]
theorem lw_r2 : ∀ q ∈ lw_privs_2, lw_okq q := List.forall_mem_cons.mpr ⟨lw_p16, List.forall_mem_cons.mpr ⟨lw_p17, List.forall_mem_cons.mpr ⟨lw_p18, List.forall_mem_cons.mpr ⟨lw_p19, List.forall_mem_cons.mpr ⟨lw_p20, List.forall_mem_cons.mpr ⟨lw_p21, List.forall_mem_cons.mpr ⟨lw_p22, List.forall_mem_cons.mpr ⟨lw_p23, List.forall_mem_cons.mpr ⟨lw_p24, List.forall_mem_cons.mpr ⟨lw_p25, List.forall_mem_cons.mpr ⟨lw_p26, List.forall_mem_cons.mpr ⟨lw_p27, List.forall_mem_cons.mpr ⟨lw_p28, List.forall_mem_cons.mpr ⟨lw_p29, List.forall_mem_cons.mpr ⟨lw_p30, List.forall_mem_cons.mpr ⟨lw_p31, fun _ h => absurd h List.not_mem_nil⟩⟩⟩⟩⟩⟩⟩⟩⟩⟩⟩⟩⟩⟩⟩⟩
theorem lw_p32 : lw_okq (⟨"LookaheadMill$Cells", "shiftTokens", "(I)I"⟩, 5) := ⟨⟨by decide +kernel, by decide +kernel⟩, List.mem_of_getElem? (i := 219) (by decide +kernel), List.mem_of_getElem? (i := 712) (by decide +kernel), List.mem_of_getElem? (i := 713) (by decide +kernel)⟩
theorem lw_p33 : lw_okq (⟨"LookaheadMill$Cells", "shiftGoal", "(II)I"⟩, 5) := ⟨⟨by decide +kernel, by decide +kernel⟩, List.mem_of_getElem? (i := 219) (by decide +kernel), List.mem_of_getElem? (i := 716) (by decide +kernel), List.mem_of_getElem? (i := 717) (by decide +kernel)⟩
theorem lw_p34 : lw_okq (⟨"LookaheadMill$Cells", "isUnsettled", "(II)Z"⟩, 5) := ⟨⟨by decide +kernel, by decide +kernel⟩, List.mem_of_getElem? (i := 219) (by decide +kernel), List.mem_of_getElem? (i := 734) (by decide +kernel), List.mem_of_getElem? (i := 735) (by decide +kernel)⟩
theorem lw_p35 : lw_okq (⟨"LookaheadMill$Cells", "nextReduction", "(III)I"⟩, 5) := ⟨⟨by decide +kernel, by decide +kernel⟩, List.mem_of_getElem? (i := 219) (by decide +kernel), List.mem_of_getElem? (i := 738) (by decide +kernel), List.mem_of_getElem? (i := 739) (by decide +kernel)⟩
theorem lw_p36 : lw_okq (⟨"LookaheadMill$Bindings", "levelOf", "(I)I"⟩, 3) := ⟨⟨by decide +kernel, by decide +kernel⟩, List.mem_of_getElem? (i := 201) (by decide +kernel), List.mem_of_getElem? (i := 746) (by decide +kernel), List.mem_of_getElem? (i := 747) (by decide +kernel)⟩
theorem lw_p37 : lw_okq (⟨"LookaheadMill", "needProduction", "(I)V"⟩, 10) := ⟨⟨by decide +kernel, by decide +kernel⟩, List.mem_of_getElem? (i := 22) (by decide +kernel), List.mem_of_getElem? (i := 759) (by decide +kernel), List.mem_of_getElem? (i := 760) (by decide +kernel)⟩
theorem lw_p38 : lw_okq (⟨"LookaheadMill", "needState", "(I)V"⟩, 10) := ⟨⟨by decide +kernel, by decide +kernel⟩, List.mem_of_getElem? (i := 22) (by decide +kernel), List.mem_of_getElem? (i := 799) (by decide +kernel), List.mem_of_getElem? (i := 800) (by decide +kernel)⟩
theorem lw_p39 : lw_okq (⟨"LookaheadMill$Parse", "doAction", "(II)Z"⟩, 12) := ⟨⟨by decide +kernel, by decide +kernel⟩, List.mem_of_getElem? (i := 241) (by decide +kernel), List.mem_of_getElem? (i := 881) (by decide +kernel), List.mem_of_getElem? (i := 882) (by decide +kernel)⟩
theorem lw_p40 : lw_okq (⟨"LookaheadMill$Parse", "shift", "(II)V"⟩, 12) := ⟨⟨by decide +kernel, by decide +kernel⟩, List.mem_of_getElem? (i := 241) (by decide +kernel), List.mem_of_getElem? (i := 885) (by decide +kernel), List.mem_of_getElem? (i := 886) (by decide +kernel)⟩
theorem lw_p41 : lw_okq (⟨"LookaheadMill$Parse", "hasRoom", "(I)Z"⟩, 12) := ⟨⟨by decide +kernel, by decide +kernel⟩, List.mem_of_getElem? (i := 241) (by decide +kernel), List.mem_of_getElem? (i := 889) (by decide +kernel), List.mem_of_getElem? (i := 890) (by decide +kernel)⟩
theorem lw_p42 : lw_okq (⟨"LookaheadMill$Parse", "push", "(II)V"⟩, 12) := ⟨⟨by decide +kernel, by decide +kernel⟩, List.mem_of_getElem? (i := 241) (by decide +kernel), List.mem_of_getElem? (i := 897) (by decide +kernel), List.mem_of_getElem? (i := 898) (by decide +kernel)⟩
theorem lw_p43 : lw_okq (⟨"LookaheadMill$Parse", "reduce", "(I)V"⟩, 12) := ⟨⟨by decide +kernel, by decide +kernel⟩, List.mem_of_getElem? (i := 241) (by decide +kernel), List.mem_of_getElem? (i := 901) (by decide +kernel), List.mem_of_getElem? (i := 902) (by decide +kernel)⟩
theorem lw_p44 : lw_okq (⟨"LookaheadMill$Parse", "goalFrom", "(II)I"⟩, 12) := ⟨⟨by decide +kernel, by decide +kernel⟩, List.mem_of_getElem? (i := 241) (by decide +kernel), List.mem_of_getElem? (i := 905) (by decide +kernel), List.mem_of_getElem? (i := 906) (by decide +kernel)⟩
theorem lw_p45 : lw_okq (⟨"LookaheadMill", "needNode", "(I)V"⟩, 10) := ⟨⟨by decide +kernel, by decide +kernel⟩, List.mem_of_getElem? (i := 22) (by decide +kernel), List.mem_of_getElem? (i := 942) (by decide +kernel), List.mem_of_getElem? (i := 943) (by decide +kernel)⟩
theorem lw_p46 : lw_okq (⟨"LookaheadMillModel", "readText", "()I"⟩, 39) := ⟨⟨by decide +kernel, by decide +kernel⟩, List.mem_of_getElem? (i := 957) (by decide +kernel), List.mem_of_getElem? (i := 1099) (by decide +kernel), List.mem_of_getElem? (i := 1100) (by decide +kernel)⟩
theorem lw_p47 : lw_okq (⟨"LookaheadMillModel", "fault", "(II)I"⟩, 39) := ⟨⟨by decide +kernel, by decide +kernel⟩, List.mem_of_getElem? (i := 957) (by decide +kernel), List.mem_of_getElem? (i := 1106) (by decide +kernel), List.mem_of_getElem? (i := 1107) (by decide +kernel)⟩
def lw_privs_3 : List (MethodName × Nat) := [(⟨"LookaheadMill$Cells", "shiftTokens", "(I)I"⟩, 5), (⟨"LookaheadMill$Cells", "shiftGoal", "(II)I"⟩, 5), (⟨"LookaheadMill$Cells", "isUnsettled", "(II)Z"⟩, 5), (⟨"LookaheadMill$Cells", "nextReduction", "(III)I"⟩, 5), (⟨"LookaheadMill$Bindings", "levelOf", "(I)I"⟩, 3), (⟨"LookaheadMill", "needProduction", "(I)V"⟩, 10), (⟨"LookaheadMill", "needState", "(I)V"⟩, 10), (⟨"LookaheadMill$Parse", "doAction", "(II)Z"⟩, 12), (⟨"LookaheadMill$Parse", "shift", "(II)V"⟩, 12), (⟨"LookaheadMill$Parse", "hasRoom", "(I)Z"⟩, 12), (⟨"LookaheadMill$Parse", "push", "(II)V"⟩, 12), (⟨"LookaheadMill$Parse", "reduce", "(I)V"⟩, 12), (⟨"LookaheadMill$Parse", "goalFrom", "(II)I"⟩, 12), (⟨"LookaheadMill", "needNode", "(I)V"⟩, 10), (⟨"LookaheadMillModel", "readText", "()I"⟩, 39), (⟨"LookaheadMillModel", "fault", "(II)I"⟩, 39)]
theorem lw_r3 : ∀ q ∈ lw_privs_3, lw_okq q := List.forall_mem_cons.mpr ⟨lw_p32, List.forall_mem_cons.mpr ⟨lw_p33, List.forall_mem_cons.mpr ⟨lw_p34, List.forall_mem_cons.mpr ⟨lw_p35, List.forall_mem_cons.mpr ⟨lw_p36, List.forall_mem_cons.mpr ⟨lw_p37, List.forall_mem_cons.mpr ⟨lw_p38, List.forall_mem_cons.mpr ⟨lw_p39, List.forall_mem_cons.mpr ⟨lw_p40, List.forall_mem_cons.mpr ⟨lw_p41, List.forall_mem_cons.mpr ⟨lw_p42, List.forall_mem_cons.mpr ⟨lw_p43, List.forall_mem_cons.mpr ⟨lw_p44, List.forall_mem_cons.mpr ⟨lw_p45, List.forall_mem_cons.mpr ⟨lw_p46, List.forall_mem_cons.mpr ⟨lw_p47, fun _ h => absurd h List.not_mem_nil⟩⟩⟩⟩⟩⟩⟩⟩⟩⟩⟩⟩⟩⟩⟩⟩
theorem lw_p48 : lw_okq (⟨"LookaheadMillModel", "lookThrough", "()I"⟩, 39) := ⟨⟨by decide +kernel, by decide +kernel⟩, List.mem_of_getElem? (i := 957) (by decide +kernel), List.mem_of_getElem? (i := 1110) (by decide +kernel), List.mem_of_getElem? (i := 1111) (by decide +kernel)⟩
theorem lw_p49 : lw_okq (⟨"LookaheadMillModel", "markMaking", "()V"⟩, 39) := ⟨⟨by decide +kernel, by decide +kernel⟩, List.mem_of_getElem? (i := 957) (by decide +kernel), List.mem_of_getElem? (i := 1114) (by decide +kernel), List.mem_of_getElem? (i := 1115) (by decide +kernel)⟩
theorem lw_p50 : lw_okq (⟨"LookaheadMillModel", "unmarked", "()I"⟩, 39) := ⟨⟨by decide +kernel, by decide +kernel⟩, List.mem_of_getElem? (i := 957) (by decide +kernel), List.mem_of_getElem? (i := 1118) (by decide +kernel), List.mem_of_getElem? (i := 1119) (by decide +kernel)⟩
theorem lw_p51 : lw_okq (⟨"LookaheadMillModel", "markMet", "()V"⟩, 39) := ⟨⟨by decide +kernel, by decide +kernel⟩, List.mem_of_getElem? (i := 957) (by decide +kernel), List.mem_of_getElem? (i := 1122) (by decide +kernel), List.mem_of_getElem? (i := 1123) (by decide +kernel)⟩
theorem lw_p52 : lw_okq (⟨"LookaheadMillModel", "findStates", "()Z"⟩, 39) := ⟨⟨by decide +kernel, by decide +kernel⟩, List.mem_of_getElem? (i := 957) (by decide +kernel), List.mem_of_getElem? (i := 1126) (by decide +kernel), List.mem_of_getElem? (i := 1127) (by decide +kernel)⟩
theorem lw_p53 : lw_okq (⟨"LookaheadMillModel", "numbered", "()I"⟩, 39) := ⟨⟨by decide +kernel, by decide +kernel⟩, List.mem_of_getElem? (i := 957) (by decide +kernel), List.mem_of_getElem? (i := 1130) (by decide +kernel), List.mem_of_getElem? (i := 1131) (by decide +kernel)⟩
theorem lw_p54 : lw_okq (⟨"LookaheadMillModel", "close", "()V"⟩, 39) := ⟨⟨by decide +kernel, by decide +kernel⟩, List.mem_of_getElem? (i := 957) (by decide +kernel), List.mem_of_getElem? (i := 1134) (by decide +kernel), List.mem_of_getElem? (i := 1135) (by decide +kernel)⟩
theorem lw_p55 : lw_okq (⟨"LookaheadMillModel", "move", "(II)Z"⟩, 39) := ⟨⟨by decide +kernel, by decide +kernel⟩, List.mem_of_getElem? (i := 957) (by decide +kernel), List.mem_of_getElem? (i := 1138) (by decide +kernel), List.mem_of_getElem? (i := 1139) (by decide +kernel)⟩
theorem lw_p56 : lw_okq (⟨"LookaheadMillModel", "findSets", "()V"⟩, 39) := ⟨⟨by decide +kernel, by decide +kernel⟩, List.mem_of_getElem? (i := 957) (by decide +kernel), List.mem_of_getElem? (i := 1142) (by decide +kernel), List.mem_of_getElem? (i := 1143) (by decide +kernel)⟩
theorem lw_p57 : lw_okq (⟨"LookaheadMillModel", "isNullable", "(II)Z"⟩, 39) := ⟨⟨by decide +kernel, by decide +kernel⟩, List.mem_of_getElem? (i := 957) (by decide +kernel), List.mem_of_getElem? (i := 1146) (by decide +kernel), List.mem_of_getElem? (i := 1147) (by decide +kernel)⟩
theorem lw_p58 : lw_okq (⟨"LookaheadMillModel", "firstOf", "(II)I"⟩, 39) := ⟨⟨by decide +kernel, by decide +kernel⟩, List.mem_of_getElem? (i := 957) (by decide +kernel), List.mem_of_getElem? (i := 1150) (by decide +kernel), List.mem_of_getElem? (i := 1151) (by decide +kernel)⟩
theorem lw_p59 : lw_okq (⟨"LookaheadMillModel", "findAhead", "()V"⟩, 39) := ⟨⟨by decide +kernel, by decide +kernel⟩, List.mem_of_getElem? (i := 957) (by decide +kernel), List.mem_of_getElem? (i := 1154) (by decide +kernel), List.mem_of_getElem? (i := 1155) (by decide +kernel)⟩
theorem lw_p60 : lw_okq (⟨"LookaheadMillModel", "handOn", "(II)Z"⟩, 39) := ⟨⟨by decide +kernel, by decide +kernel⟩, List.mem_of_getElem? (i := 957) (by decide +kernel), List.mem_of_getElem? (i := 1158) (by decide +kernel), List.mem_of_getElem? (i := 1159) (by decide +kernel)⟩
theorem lw_p61 : lw_okq (⟨"LookaheadMillModel", "widen", "(III)Z"⟩, 39) := ⟨⟨by decide +kernel, by decide +kernel⟩, List.mem_of_getElem? (i := 957) (by decide +kernel), List.mem_of_getElem? (i := 1162) (by decide +kernel), List.mem_of_getElem? (i := 1163) (by decide +kernel)⟩
theorem lw_p62 : lw_okq (⟨"LookaheadMillModel", "kind", "()I"⟩, 39) := ⟨⟨by decide +kernel, by decide +kernel⟩, List.mem_of_getElem? (i := 957) (by decide +kernel), List.mem_of_getElem? (i := 1178) (by decide +kernel), List.mem_of_getElem? (i := 1179) (by decide +kernel)⟩
theorem lw_p63 : lw_okq (⟨"LookaheadMillModel", "reduces", "(III)I"⟩, 39) := ⟨⟨by decide +kernel, by decide +kernel⟩, List.mem_of_getElem? (i := 957) (by decide +kernel), List.mem_of_getElem? (i := 1182) (by decide +kernel), List.mem_of_getElem? (i := 1183) (by decide +kernel)⟩
def lw_privs_4 : List (MethodName × Nat) := [(⟨"LookaheadMillModel", "lookThrough", "()I"⟩, 39), (⟨"LookaheadMillModel", "markMaking", "()V"⟩, 39), (⟨"LookaheadMillModel", "unmarked", "()I"⟩, 39), (⟨"LookaheadMillModel", "markMet", "()V"⟩, 39), (⟨"LookaheadMillModel", "findStates", "()Z"⟩, 39), (⟨"LookaheadMillModel", "numbered", "()I"⟩, 39), (⟨"LookaheadMillModel", "close", "()V"⟩, 39), (⟨"LookaheadMillModel", "move", "(II)Z"⟩, 39), (⟨"LookaheadMillModel", "findSets", "()V"⟩, 39), (⟨"LookaheadMillModel", "isNullable", "(II)Z"⟩, 39), (⟨"LookaheadMillModel", "firstOf", "(II)I"⟩, 39), (⟨"LookaheadMillModel", "findAhead", "()V"⟩, 39), (⟨"LookaheadMillModel", "handOn", "(II)Z"⟩, 39), (⟨"LookaheadMillModel", "widen", "(III)Z"⟩, 39), (⟨"LookaheadMillModel", "kind", "()I"⟩, 39), (⟨"LookaheadMillModel", "reduces", "(III)I"⟩, 39)]
theorem lw_r4 : ∀ q ∈ lw_privs_4, lw_okq q := List.forall_mem_cons.mpr ⟨lw_p48, List.forall_mem_cons.mpr ⟨lw_p49, List.forall_mem_cons.mpr ⟨lw_p50, List.forall_mem_cons.mpr ⟨lw_p51, List.forall_mem_cons.mpr ⟨lw_p52, List.forall_mem_cons.mpr ⟨lw_p53, List.forall_mem_cons.mpr ⟨lw_p54, List.forall_mem_cons.mpr ⟨lw_p55, List.forall_mem_cons.mpr ⟨lw_p56, List.forall_mem_cons.mpr ⟨lw_p57, List.forall_mem_cons.mpr ⟨lw_p58, List.forall_mem_cons.mpr ⟨lw_p59, List.forall_mem_cons.mpr ⟨lw_p60, List.forall_mem_cons.mpr ⟨lw_p61, List.forall_mem_cons.mpr ⟨lw_p62, List.forall_mem_cons.mpr ⟨lw_p63, fun _ h => absurd h List.not_mem_nil⟩⟩⟩⟩⟩⟩⟩⟩⟩⟩⟩⟩⟩⟩⟩⟩
theorem lw_p64 : lw_okq (⟨"LookaheadMillModel", "standsBehind", "(III)I"⟩, 39) := ⟨⟨by decide +kernel, by decide +kernel⟩, List.mem_of_getElem? (i := 957) (by decide +kernel), List.mem_of_getElem? (i := 1186) (by decide +kernel), List.mem_of_getElem? (i := 1187) (by decide +kernel)⟩
theorem lw_p65 : lw_okq (⟨"LookaheadMillModel", "shiftTo", "(II)I"⟩, 39) := ⟨⟨by decide +kernel, by decide +kernel⟩, List.mem_of_getElem? (i := 957) (by decide +kernel), List.mem_of_getElem? (i := 1190) (by decide +kernel), List.mem_of_getElem? (i := 1191) (by decide +kernel)⟩
theorem lw_p66 : lw_okq (⟨"LookaheadMillModel", "cell", "(I)I"⟩, 39) := ⟨⟨by decide +kernel, by decide +kernel⟩, List.mem_of_getElem? (i := 957) (by decide +kernel), List.mem_of_getElem? (i := 1194) (by decide +kernel), List.mem_of_getElem? (i := 1195) (by decide +kernel)⟩
theorem lw_p67 : lw_okq (⟨"LookaheadMillModel", "isUnsettled", "(II)Z"⟩, 39) := ⟨⟨by decide +kernel, by decide +kernel⟩, List.mem_of_getElem? (i := 957) (by decide +kernel), List.mem_of_getElem? (i := 1198) (by decide +kernel), List.mem_of_getElem? (i := 1199) (by decide +kernel)⟩
theorem lw_p68 : lw_okq (⟨"LookaheadMillModel", "least", "(II)I"⟩, 39) := ⟨⟨by decide +kernel, by decide +kernel⟩, List.mem_of_getElem? (i := 957) (by decide +kernel), List.mem_of_getElem? (i := 1202) (by decide +kernel), List.mem_of_getElem? (i := 1203) (by decide +kernel)⟩
theorem lw_p69 : lw_okq (⟨"LookaheadMillModel", "levelOf", "(I)I"⟩, 39) := ⟨⟨by decide +kernel, by decide +kernel⟩, List.mem_of_getElem? (i := 957) (by decide +kernel), List.mem_of_getElem? (i := 1206) (by decide +kernel), List.mem_of_getElem? (i := 1207) (by decide +kernel)⟩
theorem lw_p70 : lw_okq (⟨"LookaheadMillModel", "noProduction", "(I)Z"⟩, 39) := ⟨⟨by decide +kernel, by decide +kernel⟩, List.mem_of_getElem? (i := 957) (by decide +kernel), List.mem_of_getElem? (i := 1214) (by decide +kernel), List.mem_of_getElem? (i := 1215) (by decide +kernel)⟩
theorem lw_p71 : lw_okq (⟨"LookaheadMillModel", "noState", "(I)Z"⟩, 39) := ⟨⟨by decide +kernel, by decide +kernel⟩, List.mem_of_getElem? (i := 957) (by decide +kernel), List.mem_of_getElem? (i := 1229) (by decide +kernel), List.mem_of_getElem? (i := 1230) (by decide +kernel)⟩
theorem lw_p72 : lw_okq (⟨"LookaheadMillModel", "actionOf", "(II)I"⟩, 39) := ⟨⟨by decide +kernel, by decide +kernel⟩, List.mem_of_getElem? (i := 957) (by decide +kernel), List.mem_of_getElem? (i := 1248) (by decide +kernel), List.mem_of_getElem? (i := 1249) (by decide +kernel)⟩
theorem lw_p73 : lw_okq (⟨"LookaheadMillModel", "does", "(II)Z"⟩, 39) := ⟨⟨by decide +kernel, by decide +kernel⟩, List.mem_of_getElem? (i := 957) (by decide +kernel), List.mem_of_getElem? (i := 1264) (by decide +kernel), List.mem_of_getElem? (i := 1265) (by decide +kernel)⟩
theorem lw_p74 : lw_okq (⟨"LookaheadMillModel", "push", "(IIII)V"⟩, 39) := ⟨⟨by decide +kernel, by decide +kernel⟩, List.mem_of_getElem? (i := 957) (by decide +kernel), List.mem_of_getElem? (i := 1268) (by decide +kernel), List.mem_of_getElem? (i := 1269) (by decide +kernel)⟩
def lw_privs_5 : List (MethodName × Nat) := [(⟨"LookaheadMillModel", "standsBehind", "(III)I"⟩, 39), (⟨"LookaheadMillModel", "shiftTo", "(II)I"⟩, 39), (⟨"LookaheadMillModel", "cell", "(I)I"⟩, 39), (⟨"LookaheadMillModel", "isUnsettled", "(II)Z"⟩, 39), (⟨"LookaheadMillModel", "least", "(II)I"⟩, 39), (⟨"LookaheadMillModel", "levelOf", "(I)I"⟩, 39), (⟨"LookaheadMillModel", "noProduction", "(I)Z"⟩, 39), (⟨"LookaheadMillModel", "noState", "(I)Z"⟩, 39), (⟨"LookaheadMillModel", "actionOf", "(II)I"⟩, 39), (⟨"LookaheadMillModel", "does", "(II)Z"⟩, 39), (⟨"LookaheadMillModel", "push", "(IIII)V"⟩, 39)]
theorem lw_r5 : ∀ q ∈ lw_privs_5, lw_okq q := List.forall_mem_cons.mpr ⟨lw_p64, List.forall_mem_cons.mpr ⟨lw_p65, List.forall_mem_cons.mpr ⟨lw_p66, List.forall_mem_cons.mpr ⟨lw_p67, List.forall_mem_cons.mpr ⟨lw_p68, List.forall_mem_cons.mpr ⟨lw_p69, List.forall_mem_cons.mpr ⟨lw_p70, List.forall_mem_cons.mpr ⟨lw_p71, List.forall_mem_cons.mpr ⟨lw_p72, List.forall_mem_cons.mpr ⟨lw_p73, List.forall_mem_cons.mpr ⟨lw_p74, fun _ h => absurd h List.not_mem_nil⟩⟩⟩⟩⟩⟩⟩⟩⟩⟩⟩
def lw_privs : List (MethodName × Nat) := lw_privs_1 ++ (lw_privs_2 ++ (lw_privs_3 ++ (lw_privs_4 ++ (lw_privs_5))))
def lw_tbl : List Cond := k2_sels lw_privs ++ tables_1
theorem lw_privs_ok : ∀ q ∈ lw_privs, lw_okq q := by
  show ∀ q ∈ lw_privs_1 ++ (lw_privs_2 ++ (lw_privs_3 ++ (lw_privs_4 ++ (lw_privs_5)))), lw_okq q
  exact List.forall_mem_append.mpr ⟨lw_r1, List.forall_mem_append.mpr ⟨lw_r2, List.forall_mem_append.mpr ⟨lw_r3, List.forall_mem_append.mpr ⟨lw_r4, lw_r5⟩⟩⟩⟩
end
section
/-! printed by tools/gen.py out of the listing: classes, fields, code, links, shapes -/
def q_n0 : String := "LookaheadMill"
def q_n1 : String := "LookaheadMill$Text"
def q_n2 : String := "LookaheadMill$Grammar"
def q_n3 : String := "LookaheadMill$Reader"
def q_n4 : String := "LookaheadMill$Sets"
def q_n5 : String := "LookaheadMill$States"
def q_n6 : String := "LookaheadMill$Aheads"
def q_n7 : String := "LookaheadMill$Bindings"
def q_n8 : String := "LookaheadMill$Cells"
def q_n9 : String := "LookaheadMill$Parse"
def q_n10 : String := "LookaheadMill$Tree"
def q_n11 : String := "LookaheadMillModel"
def q_n12 : String := "LookaheadMillLaw"
def q_T0 : u_T := fun k => match k with
  | 0 => ("LookaheadMill", "text", "LLookaheadMill$Text;", true)
  | 1 => ("LookaheadMill", "grammar", "LLookaheadMill$Grammar;", true)
  | 2 => ("LookaheadMill", "reader", "LLookaheadMill$Reader;", true)
  | 3 => ("LookaheadMill", "sets", "LLookaheadMill$Sets;", true)
  | 4 => ("LookaheadMill", "states", "LLookaheadMill$States;", true)
  | 5 => ("LookaheadMill", "aheads", "LLookaheadMill$Aheads;", true)
  | 6 => ("LookaheadMill", "bindings", "LLookaheadMill$Bindings;", true)
  | 7 => ("LookaheadMill", "cells", "LLookaheadMill$Cells;", true)
  | 8 => ("LookaheadMill", "parse", "LLookaheadMill$Parse;", true)
  | _ => ("LookaheadMill", "hasGrammar", "Z", false)
def q_T1 : u_T := fun k => match k with
  | 0 => ("LookaheadMill$Text", "characters", "[C", true)
  | _ => ("LookaheadMill$Text", "length", "I", false)
def q_T2 : u_T := fun k => match k with
  | 0 => ("LookaheadMill$Grammar", "left", "[I", true)
  | 1 => ("LookaheadMill$Grammar", "length", "[I", true)
  | 2 => ("LookaheadMill$Grammar", "firstOf", "[I", true)
  | 3 => ("LookaheadMill$Grammar", "lastOf", "[I", true)
  | 4 => ("LookaheadMill$Grammar", "last", "I", false)
  | _ => ("LookaheadMill$Grammar", "letters", "[I", true)
def q_T3 : u_T := fun k => match k with
  | 0 => ("LookaheadMill$Reader", "faultPlace", "I", false)
  | 1 => ("LookaheadMill$Reader", "text", "LLookaheadMill$Text;", true)
  | 2 => ("LookaheadMill$Reader", "grammar", "LLookaheadMill$Grammar;", true)
  | 3 => ("LookaheadMill$Reader", "rulePlace", "[I", true)
  | 4 => ("LookaheadMill$Reader", "usePlace", "[I", true)
  | 5 => ("LookaheadMill$Reader", "phase", "I", false)
  | _ => ("LookaheadMill$Reader", "ruleOf", "I", false)
def q_T4 : u_T := fun k => match k with
  | 0 => ("LookaheadMill$Sets", "first", "[I", true)
  | 1 => ("LookaheadMill$Sets", "follow", "[I", true)
  | 2 => ("LookaheadMill$Sets", "grammar", "LLookaheadMill$Grammar;", true)
  | 3 => ("LookaheadMill$Sets", "rowFirst", "[I", true)
  | _ => ("LookaheadMill$Sets", "nullable", "I", false)
def q_T5 : u_T := fun k => match k with
  | 0 => ("LookaheadMill$States", "count", "I", false)
  | 1 => ("LookaheadMill$States", "grammar", "LLookaheadMill$Grammar;", true)
  | 2 => ("LookaheadMill$States", "dots", "[I", true)
  | 3 => ("LookaheadMill$States", "goals", "[I", true)
  | 4 => ("LookaheadMill$States", "stands", "[I", true)
  | _ => ("LookaheadMill$States", "made", "[I", true)
def q_T6 : u_T := fun k => match k with
  | 0 => ("LookaheadMill$Aheads", "grammar", "LLookaheadMill$Grammar;", true)
  | 1 => ("LookaheadMill$Aheads", "sets", "LLookaheadMill$Sets;", true)
  | 2 => ("LookaheadMill$Aheads", "states", "LLookaheadMill$States;", true)
  | 3 => ("LookaheadMill$Aheads", "aheads", "[I", true)
  | _ => ("LookaheadMill$Aheads", "stale", "J", false)
def q_T7 : u_T := fun k => match k with
  | 0 => ("LookaheadMill$Bindings", "level", "[I", true)
  | 1 => ("LookaheadMill$Bindings", "side", "[I", true)
  | _ => ("LookaheadMill$Bindings", "grammar", "LLookaheadMill$Grammar;", true)
def q_T8 : u_T := fun k => match k with
  | 0 => ("LookaheadMill$Cells", "grammar", "LLookaheadMill$Grammar;", true)
  | 1 => ("LookaheadMill$Cells", "sets", "LLookaheadMill$Sets;", true)
  | 2 => ("LookaheadMill$Cells", "states", "LLookaheadMill$States;", true)
  | 3 => ("LookaheadMill$Cells", "aheads", "LLookaheadMill$Aheads;", true)
  | _ => ("LookaheadMill$Cells", "bindings", "LLookaheadMill$Bindings;", true)
def q_T9 : u_T := fun k => match k with
  | 0 => ("LookaheadMill$Parse", "isOpen", "Z", false)
  | 1 => ("LookaheadMill$Parse", "status", "I", false)
  | 2 => ("LookaheadMill$Parse", "height", "I", false)
  | 3 => ("LookaheadMill$Parse", "taken", "I", false)
  | 4 => ("LookaheadMill$Parse", "tree", "LLookaheadMill$Tree;", true)
  | 5 => ("LookaheadMill$Parse", "stateAt", "[I", true)
  | 6 => ("LookaheadMill$Parse", "nodeAt", "[I", true)
  | 7 => ("LookaheadMill$Parse", "grammar", "LLookaheadMill$Grammar;", true)
  | 8 => ("LookaheadMill$Parse", "states", "LLookaheadMill$States;", true)
  | 9 => ("LookaheadMill$Parse", "cells", "LLookaheadMill$Cells;", true)
  | 10 => ("LookaheadMill$Parse", "stackRoom", "I", false)
  | _ => ("LookaheadMill$Parse", "nodeRoom", "I", false)
def q_T10 : u_T := fun k => match k with
  | 0 => ("LookaheadMill$Tree", "symbol", "[I", true)
  | 1 => ("LookaheadMill$Tree", "production", "[I", true)
  | 2 => ("LookaheadMill$Tree", "begin", "[I", true)
  | 3 => ("LookaheadMill$Tree", "end", "[I", true)
  | 4 => ("LookaheadMill$Tree", "child", "[I", true)
  | 5 => ("LookaheadMill$Tree", "count", "I", false)
  | _ => ("LookaheadMill$Tree", "grammar", "LLookaheadMill$Grammar;", true)
def q_T11 : u_T := fun k => match k with
  | 0 => ("LookaheadMillModel", "failed", "I", false)
  | 1 => ("LookaheadMillModel", "text", "[I", true)
  | 2 => ("LookaheadMillModel", "length", "I", false)
  | 3 => ("LookaheadMillModel", "told", "I", false)
  | 4 => ("LookaheadMillModel", "has", "Z", false)
  | 5 => ("LookaheadMillModel", "productions", "I", false)
  | 6 => ("LookaheadMillModel", "left", "[I", true)
  | 7 => ("LookaheadMillModel", "size", "[I", true)
  | 8 => ("LookaheadMillModel", "right", "[I", true)
  | 9 => ("LookaheadMillModel", "where", "[I", true)
  | 10 => ("LookaheadMillModel", "rules", "I", false)
  | 11 => ("LookaheadMillModel", "rule", "[I", true)
  | 12 => ("LookaheadMillModel", "begins", "[I", true)
  | 13 => ("LookaheadMillModel", "marked", "[Z", true)
  | 14 => ("LookaheadMillModel", "nullable", "[Z", true)
  | 15 => ("LookaheadMillModel", "first", "[I", true)
  | 16 => ("LookaheadMillModel", "follow", "[I", true)
  | 17 => ("LookaheadMillModel", "states", "I", false)
  | 18 => ("LookaheadMillModel", "items", "[Z", true)
  | 19 => ("LookaheadMillModel", "ahead", "[I", true)
  | 20 => ("LookaheadMillModel", "goes", "[I", true)
  | 21 => ("LookaheadMillModel", "next", "[Z", true)
  | 22 => ("LookaheadMillModel", "level", "[I", true)
  | 23 => ("LookaheadMillModel", "side", "[I", true)
  | 24 => ("LookaheadMillModel", "open", "Z", false)
  | 25 => ("LookaheadMillModel", "status", "I", false)
  | 26 => ("LookaheadMillModel", "room", "I", false)
  | 27 => ("LookaheadMillModel", "nodeRoom", "I", false)
  | 28 => ("LookaheadMillModel", "depth", "I", false)
  | 29 => ("LookaheadMillModel", "taken", "I", false)
  | 30 => ("LookaheadMillModel", "nodes", "I", false)
  | 31 => ("LookaheadMillModel", "stackState", "[I", true)
  | 32 => ("LookaheadMillModel", "stackNode", "[I", true)
  | 33 => ("LookaheadMillModel", "nodeSymbol", "[I", true)
  | 34 => ("LookaheadMillModel", "nodeProduction", "[I", true)
  | 35 => ("LookaheadMillModel", "nodeSize", "[I", true)
  | 36 => ("LookaheadMillModel", "nodeBegin", "[I", true)
  | 37 => ("LookaheadMillModel", "nodeEnd", "[I", true)
  | _ => ("LookaheadMillModel", "children", "[I", true)
abbrev q_cls : List vw_C := [(q_n0, q_T0, 10), (q_n1, q_T1, 2), (q_n2, q_T2, 6), (q_n3, q_T3, 7), (q_n4, q_T4, 5), (q_n5, q_T5, 6), (q_n6, q_T6, 5), (q_n7, q_T7, 3), (q_n8, q_T8, 5), (q_n9, q_T9, 12), (q_n10, q_T10, 7), (q_n11, q_T11, 39)]
-- code, a tree a method: pc to instruction and length
def q_t0 (x : Nat) : Option (Instr × Nat) := bif Nat.blt x 4 then (bif Nat.blt x 1 then (bif Nat.beq x 0 then some (.aload_n 0, 1) else none) else (bif Nat.beq x 1 then some (.getfield 12, 3) else none)) else (bif Nat.blt x 5 then (bif Nat.beq x 4 then some (.lload_n 1, 1) else none) else (bif Nat.blt x 8 then (bif Nat.beq x 5 then some (.invokevirtual 86, 3) else none) else (bif Nat.beq x 8 then some (.ireturn, 1) else none)))
def q_t1 (x : Nat) : Option (Instr × Nat) := bif Nat.blt x 4 then (bif Nat.blt x 1 then (bif Nat.beq x 0 then some (.aload_n 0, 1) else none) else (bif Nat.beq x 1 then some (.getfield 12, 3) else none)) else (bif Nat.blt x 7 then (bif Nat.beq x 4 then some (.invokevirtual 90, 3) else none) else (bif Nat.beq x 7 then some (.ireturn, 1) else none))
def q_t2 (x : Nat) : Option (Instr × Nat) := bif Nat.blt x 33 then (bif Nat.blt x 16 then (bif Nat.blt x 8 then (bif Nat.blt x 4 then (bif Nat.blt x 1 then (bif Nat.beq x 0 then some (.aload_n 0, 1) else none) else (bif Nat.beq x 1 then some (.getfield 78, 3) else none)) else (bif Nat.blt x 7 then (bif Nat.beq x 4 then some (.invokevirtual 94, 3) else none) else (bif Nat.beq x 7 then some (.aload_n 0, 1) else none))) else (bif Nat.blt x 14 then (bif Nat.blt x 11 then (bif Nat.beq x 8 then some (.getfield 28, 3) else none) else (bif Nat.beq x 11 then some (.invokevirtual 97, 3) else none)) else (bif Nat.blt x 15 then (bif Nat.beq x 14 then some (.istore_n 1, 1) else none) else (bif Nat.beq x 15 then some (.iload_n 1, 1) else none)))) else (bif Nat.blt x 26 then (bif Nat.blt x 20 then (bif Nat.blt x 19 then (bif Nat.beq x 16 then some (.ifCond .ne 16, 3) else none) else (bif Nat.beq x 19 then some (.aload_n 0, 1) else none)) else (bif Nat.blt x 23 then (bif Nat.beq x 20 then some (.getfield 44, 3) else none) else (bif Nat.beq x 23 then some (.invokevirtual 100, 3) else none))) else (bif Nat.blt x 31 then (bif Nat.blt x 29 then (bif Nat.beq x 26 then some (.ifCond .ne 6, 3) else none) else (bif Nat.beq x 29 then some (.bipush 8, 2) else none)) else (bif Nat.blt x 32 then (bif Nat.beq x 31 then some (.istore_n 1, 1) else none) else (bif Nat.beq x 32 then some (.aload_n 0, 1) else none))))) else (bif Nat.blt x 49 then (bif Nat.blt x 41 then (bif Nat.blt x 37 then (bif Nat.blt x 34 then (bif Nat.beq x 33 then some (.iload_n 1, 1) else none) else (bif Nat.beq x 34 then some (.ifCond .ne 7, 3) else none)) else (bif Nat.blt x 38 then (bif Nat.beq x 37 then some (.iconst 1, 1) else none) else (bif Nat.beq x 38 then some (.goto 4, 3) else none))) else (bif Nat.blt x 45 then (bif Nat.blt x 42 then (bif Nat.beq x 41 then some (.iconst 0, 1) else none) else (bif Nat.beq x 42 then some (.putfield 82, 3) else none)) else (bif Nat.blt x 46 then (bif Nat.beq x 45 then some (.aload_n 0, 1) else none) else (bif Nat.beq x 46 then some (.getfield 82, 3) else none)))) else (bif Nat.blt x 59 then (bif Nat.blt x 53 then (bif Nat.blt x 52 then (bif Nat.beq x 49 then some (.ifCond .eq 17, 3) else none) else (bif Nat.beq x 52 then some (.aload_n 0, 1) else none)) else (bif Nat.blt x 56 then (bif Nat.beq x 53 then some (.getfield 37, 3) else none) else (bif Nat.beq x 56 then some (.invokevirtual 104, 3) else none))) else (bif Nat.blt x 63 then (bif Nat.blt x 60 then (bif Nat.beq x 59 then some (.aload_n 0, 1) else none) else (bif Nat.beq x 60 then some (.getfield 53, 3) else none)) else (bif Nat.blt x 66 then (bif Nat.beq x 63 then some (.invokevirtual 107, 3) else none) else (bif Nat.blt x 67 then (bif Nat.beq x 66 then some (.iload_n 1, 1) else none) else (bif Nat.beq x 67 then some (.ireturn, 1) else none))))))
def q_t3 (x : Nat) : Option (Instr × Nat) := bif Nat.blt x 4 then (bif Nat.blt x 1 then (bif Nat.beq x 0 then some (.aload_n 0, 1) else none) else (bif Nat.beq x 1 then some (.getfield 28, 3) else none)) else (bif Nat.blt x 7 then (bif Nat.beq x 4 then some (.getfield 108, 3) else none) else (bif Nat.beq x 7 then some (.ireturn, 1) else none))
def q_t4 (x : Nat) : Option (Instr × Nat) := bif Nat.blt x 38 then (bif Nat.blt x 19 then (bif Nat.blt x 8 then (bif Nat.blt x 4 then (bif Nat.blt x 1 then (bif Nat.beq x 0 then some (.iload_n 1, 1) else none) else (bif Nat.beq x 1 then some (.invokestatic 112, 3) else none)) else (bif Nat.blt x 6 then (bif Nat.beq x 4 then some (.istore 4, 2) else none) else (bif Nat.beq x 6 then some (.iload 4, 2) else none))) else (bif Nat.blt x 12 then (bif Nat.blt x 9 then (bif Nat.beq x 8 then some (.iconst (-1), 1) else none) else (bif Nat.beq x 9 then some (.if_icmp .eq 29, 3) else none)) else (bif Nat.blt x 14 then (bif Nat.beq x 12 then some (.iload 4, 2) else none) else (bif Nat.blt x 16 then (bif Nat.beq x 14 then some (.bipush 8, 2) else none) else (bif Nat.beq x 16 then some (.if_icmp .eq 22, 3) else none))))) else (bif Nat.blt x 29 then (bif Nat.blt x 23 then (bif Nat.blt x 20 then (bif Nat.beq x 19 then some (.iload_n 2, 1) else none) else (bif Nat.beq x 20 then some (.ifCond .lt 18, 3) else none)) else (bif Nat.blt x 24 then (bif Nat.beq x 23 then some (.iload_n 2, 1) else none) else (bif Nat.blt x 26 then (bif Nat.beq x 24 then some (.bipush 9, 2) else none) else (bif Nat.beq x 26 then some (.if_icmp .gt 12, 3) else none)))) else (bif Nat.blt x 33 then (bif Nat.blt x 30 then (bif Nat.beq x 29 then some (.iload_n 3, 1) else none) else (bif Nat.beq x 30 then some (.ifCond .lt 8, 3) else none)) else (bif Nat.blt x 34 then (bif Nat.beq x 33 then some (.iload_n 3, 1) else none) else (bif Nat.blt x 35 then (bif Nat.beq x 34 then some (.iconst 3, 1) else none) else (bif Nat.beq x 35 then some (.if_icmp .lt 11, 3) else none)))))) else (bif Nat.blt x 57 then (bif Nat.blt x 47 then (bif Nat.blt x 42 then (bif Nat.blt x 41 then (bif Nat.beq x 38 then some (.new 116, 3) else none) else (bif Nat.beq x 41 then some (.dup, 1) else none)) else (bif Nat.blt x 45 then (bif Nat.beq x 42 then some (.invokespecial 118, 3) else none) else (bif Nat.blt x 46 then (bif Nat.beq x 45 then some (.athrow, 1) else none) else (bif Nat.beq x 46 then some (.aload_n 0, 1) else none)))) else (bif Nat.blt x 53 then (bif Nat.blt x 50 then (bif Nat.beq x 47 then some (.getfield 60, 3) else none) else (bif Nat.beq x 50 then some (.getfield 119, 3) else none)) else (bif Nat.blt x 55 then (bif Nat.beq x 53 then some (.iload 4, 2) else none) else (bif Nat.blt x 56 then (bif Nat.beq x 55 then some (.iload_n 2, 1) else none) else (bif Nat.beq x 56 then some (.iastore, 1) else none))))) else (bif Nat.blt x 67 then (bif Nat.blt x 61 then (bif Nat.blt x 58 then (bif Nat.beq x 57 then some (.aload_n 0, 1) else none) else (bif Nat.beq x 58 then some (.getfield 60, 3) else none)) else (bif Nat.blt x 64 then (bif Nat.beq x 61 then some (.getfield 123, 3) else none) else (bif Nat.blt x 66 then (bif Nat.beq x 64 then some (.iload 4, 2) else none) else (bif Nat.beq x 66 then some (.iload_n 3, 1) else none)))) else (bif Nat.blt x 69 then (bif Nat.blt x 68 then (bif Nat.beq x 67 then some (.iastore, 1) else none) else (bif Nat.beq x 68 then some (.aload_n 0, 1) else none)) else (bif Nat.blt x 72 then (bif Nat.beq x 69 then some (.getfield 78, 3) else none) else (bif Nat.blt x 75 then (bif Nat.beq x 72 then some (.invokevirtual 94, 3) else none) else (bif Nat.beq x 75 then some (.return_, 1) else none))))))
def q_t5 (x : Nat) : Option (Instr × Nat) := bif Nat.blt x 52 then (bif Nat.blt x 40 then (bif Nat.blt x 5 then (bif Nat.blt x 1 then (bif Nat.beq x 0 then some (.aload_n 0, 1) else none) else (bif Nat.blt x 4 then (bif Nat.beq x 1 then some (.invokevirtual 126, 3) else none) else (bif Nat.beq x 4 then some (.iload_n 1, 1) else none))) else (bif Nat.blt x 36 then (bif Nat.beq x 5 then some (.tableswitch 63 0 3 #[31, 39, 47, 55], 31) else none) else (bif Nat.blt x 37 then (bif Nat.beq x 36 then some (.aload_n 0, 1) else none) else (bif Nat.beq x 37 then some (.getfield 19, 3) else none)))) else (bif Nat.blt x 45 then (bif Nat.blt x 43 then (bif Nat.beq x 40 then some (.getfield 129, 3) else none) else (bif Nat.blt x 44 then (bif Nat.beq x 43 then some (.ireturn, 1) else none) else (bif Nat.beq x 44 then some (.aload_n 0, 1) else none))) else (bif Nat.blt x 48 then (bif Nat.beq x 45 then some (.getfield 44, 3) else none) else (bif Nat.blt x 51 then (bif Nat.beq x 48 then some (.getfield 132, 3) else none) else (bif Nat.beq x 51 then some (.ireturn, 1) else none))))) else (bif Nat.blt x 64 then (bif Nat.blt x 59 then (bif Nat.blt x 53 then (bif Nat.beq x 52 then some (.aload_n 0, 1) else none) else (bif Nat.blt x 56 then (bif Nat.beq x 53 then some (.getfield 69, 3) else none) else (bif Nat.beq x 56 then some (.invokevirtual 135, 3) else none))) else (bif Nat.blt x 60 then (bif Nat.beq x 59 then some (.ireturn, 1) else none) else (bif Nat.blt x 61 then (bif Nat.beq x 60 then some (.aload_n 0, 1) else none) else (bif Nat.beq x 61 then some (.getfield 69, 3) else none)))) else (bif Nat.blt x 71 then (bif Nat.blt x 67 then (bif Nat.beq x 64 then some (.invokevirtual 138, 3) else none) else (bif Nat.blt x 68 then (bif Nat.beq x 67 then some (.ireturn, 1) else none) else (bif Nat.beq x 68 then some (.new 116, 3) else none))) else (bif Nat.blt x 72 then (bif Nat.beq x 71 then some (.dup, 1) else none) else (bif Nat.blt x 75 then (bif Nat.beq x 72 then some (.invokespecial 118, 3) else none) else (bif Nat.beq x 75 then some (.athrow, 1) else none)))))
def q_t6 (x : Nat) : Option (Instr × Nat) := bif Nat.blt x 35 then (bif Nat.blt x 15 then (bif Nat.blt x 6 then (bif Nat.blt x 4 then (bif Nat.blt x 1 then (bif Nat.beq x 0 then some (.aload_n 0, 1) else none) else (bif Nat.beq x 1 then some (.invokevirtual 126, 3) else none)) else (bif Nat.blt x 5 then (bif Nat.beq x 4 then some (.aload_n 0, 1) else none) else (bif Nat.beq x 5 then some (.iload_n 1, 1) else none))) else (bif Nat.blt x 10 then (bif Nat.blt x 9 then (bif Nat.beq x 6 then some (.invokevirtual 141, 3) else none) else (bif Nat.beq x 9 then some (.iload_n 2, 1) else none)) else (bif Nat.blt x 11 then (bif Nat.beq x 10 then some (.iconst (-1), 1) else none) else (bif Nat.blt x 14 then (bif Nat.beq x 11 then some (.if_icmp .lt 16, 3) else none) else (bif Nat.beq x 14 then some (.iload_n 2, 1) else none))))) else (bif Nat.blt x 24 then (bif Nat.blt x 19 then (bif Nat.blt x 16 then (bif Nat.beq x 15 then some (.aload_n 0, 1) else none) else (bif Nat.beq x 16 then some (.getfield 19, 3) else none)) else (bif Nat.blt x 22 then (bif Nat.beq x 19 then some (.getfield 145, 3) else none) else (bif Nat.blt x 23 then (bif Nat.beq x 22 then some (.iload_n 1, 1) else none) else (bif Nat.beq x 23 then some (.iaload, 1) else none)))) else (bif Nat.blt x 30 then (bif Nat.blt x 27 then (bif Nat.beq x 24 then some (.if_icmp .lt 11, 3) else none) else (bif Nat.beq x 27 then some (.new 148, 3) else none)) else (bif Nat.blt x 31 then (bif Nat.beq x 30 then some (.dup, 1) else none) else (bif Nat.blt x 34 then (bif Nat.beq x 31 then some (.invokespecial 150, 3) else none) else (bif Nat.beq x 34 then some (.athrow, 1) else none)))))) else (bif Nat.blt x 53 then (bif Nat.blt x 44 then (bif Nat.blt x 39 then (bif Nat.blt x 36 then (bif Nat.beq x 35 then some (.iload_n 2, 1) else none) else (bif Nat.beq x 36 then some (.ifCond .lt 16, 3) else none)) else (bif Nat.blt x 40 then (bif Nat.beq x 39 then some (.aload_n 0, 1) else none) else (bif Nat.blt x 43 then (bif Nat.beq x 40 then some (.getfield 19, 3) else none) else (bif Nat.beq x 43 then some (.iload_n 1, 1) else none)))) else (bif Nat.blt x 48 then (bif Nat.blt x 45 then (bif Nat.beq x 44 then some (.iload_n 2, 1) else none) else (bif Nat.beq x 45 then some (.invokevirtual 151, 3) else none)) else (bif Nat.blt x 51 then (bif Nat.beq x 48 then some (.invokestatic 155, 3) else none) else (bif Nat.blt x 52 then (bif Nat.beq x 51 then some (.ireturn, 1) else none) else (bif Nat.beq x 52 then some (.iload_n 1, 1) else none))))) else (bif Nat.blt x 64 then (bif Nat.blt x 57 then (bif Nat.blt x 56 then (bif Nat.beq x 53 then some (.ifCond .ne 7, 3) else none) else (bif Nat.beq x 56 then some (.iconst 0, 1) else none)) else (bif Nat.blt x 60 then (bif Nat.beq x 57 then some (.goto 15, 3) else none) else (bif Nat.blt x 61 then (bif Nat.beq x 60 then some (.aload_n 0, 1) else none) else (bif Nat.beq x 61 then some (.getfield 19, 3) else none)))) else (bif Nat.blt x 68 then (bif Nat.blt x 67 then (bif Nat.beq x 64 then some (.getfield 159, 3) else none) else (bif Nat.beq x 67 then some (.iload_n 1, 1) else none)) else (bif Nat.blt x 69 then (bif Nat.beq x 68 then some (.iaload, 1) else none) else (bif Nat.blt x 72 then (bif Nat.beq x 69 then some (.invokestatic 155, 3) else none) else (bif Nat.beq x 72 then some (.ireturn, 1) else none))))))
def q_t7 (x : Nat) : Option (Instr × Nat) := bif Nat.blt x 69 then (bif Nat.blt x 20 then (bif Nat.blt x 9 then (bif Nat.blt x 4 then (bif Nat.blt x 1 then (bif Nat.beq x 0 then some (.aload_n 0, 1) else none) else (bif Nat.beq x 1 then some (.invokevirtual 126, 3) else none)) else (bif Nat.blt x 5 then (bif Nat.beq x 4 then some (.iload_n 1, 1) else none) else (bif Nat.blt x 8 then (bif Nat.beq x 5 then some (.invokestatic 162, 3) else none) else (bif Nat.beq x 8 then some (.istore_n 3, 1) else none)))) else (bif Nat.blt x 14 then (bif Nat.blt x 10 then (bif Nat.beq x 9 then some (.iload_n 3, 1) else none) else (bif Nat.blt x 11 then (bif Nat.beq x 10 then some (.iconst (-1), 1) else none) else (bif Nat.beq x 11 then some (.if_icmp .eq 20, 3) else none))) else (bif Nat.blt x 15 then (bif Nat.beq x 14 then some (.iload_n 3, 1) else none) else (bif Nat.blt x 17 then (bif Nat.beq x 15 then some (.bipush 8, 2) else none) else (bif Nat.beq x 17 then some (.if_icmp .ge 14, 3) else none))))) else (bif Nat.blt x 34 then (bif Nat.blt x 25 then (bif Nat.blt x 21 then (bif Nat.beq x 20 then some (.aload_n 0, 1) else none) else (bif Nat.blt x 24 then (bif Nat.beq x 21 then some (.getfield 19, 3) else none) else (bif Nat.beq x 24 then some (.iload_n 3, 1) else none))) else (bif Nat.blt x 28 then (bif Nat.beq x 25 then some (.invokevirtual 165, 3) else none) else (bif Nat.blt x 31 then (bif Nat.beq x 28 then some (.ifCond .ne 11, 3) else none) else (bif Nat.beq x 31 then some (.new 116, 3) else none)))) else (bif Nat.blt x 39 then (bif Nat.blt x 35 then (bif Nat.beq x 34 then some (.dup, 1) else none) else (bif Nat.blt x 38 then (bif Nat.beq x 35 then some (.invokespecial 118, 3) else none) else (bif Nat.beq x 38 then some (.athrow, 1) else none))) else (bif Nat.blt x 40 then (bif Nat.beq x 39 then some (.iload_n 2, 1) else none) else (bif Nat.blt x 68 then (bif Nat.beq x 40 then some (.tableswitch 65 0 2 #[28, 45, 55], 28) else none) else (bif Nat.beq x 68 then some (.aload_n 0, 1) else none)))))) else (bif Nat.blt x 93 then (bif Nat.blt x 83 then (bif Nat.blt x 76 then (bif Nat.blt x 72 then (bif Nat.beq x 69 then some (.getfield 37, 3) else none) else (bif Nat.blt x 73 then (bif Nat.beq x 72 then some (.iload_n 3, 1) else none) else (bif Nat.beq x 73 then some (.invokevirtual 169, 3) else none))) else (bif Nat.blt x 79 then (bif Nat.beq x 76 then some (.ifCond .eq 7, 3) else none) else (bif Nat.blt x 80 then (bif Nat.beq x 79 then some (.iconst 1, 1) else none) else (bif Nat.beq x 80 then some (.goto 4, 3) else none)))) else (bif Nat.blt x 86 then (bif Nat.blt x 84 then (bif Nat.beq x 83 then some (.iconst 0, 1) else none) else (bif Nat.blt x 85 then (bif Nat.beq x 84 then some (.ireturn, 1) else none) else (bif Nat.beq x 85 then some (.aload_n 0, 1) else none))) else (bif Nat.blt x 89 then (bif Nat.beq x 86 then some (.getfield 37, 3) else none) else (bif Nat.blt x 92 then (bif Nat.beq x 89 then some (.getfield 172, 3) else none) else (bif Nat.beq x 92 then some (.iload_n 3, 1) else none))))) else (bif Nat.blt x 103 then (bif Nat.blt x 96 then (bif Nat.blt x 94 then (bif Nat.beq x 93 then some (.iaload, 1) else none) else (bif Nat.blt x 95 then (bif Nat.beq x 94 then some (.ireturn, 1) else none) else (bif Nat.beq x 95 then some (.aload_n 0, 1) else none))) else (bif Nat.blt x 99 then (bif Nat.beq x 96 then some (.getfield 37, 3) else none) else (bif Nat.blt x 102 then (bif Nat.beq x 99 then some (.getfield 175, 3) else none) else (bif Nat.beq x 102 then some (.iload_n 3, 1) else none)))) else (bif Nat.blt x 108 then (bif Nat.blt x 104 then (bif Nat.beq x 103 then some (.iaload, 1) else none) else (bif Nat.blt x 105 then (bif Nat.beq x 104 then some (.ireturn, 1) else none) else (bif Nat.beq x 105 then some (.new 116, 3) else none))) else (bif Nat.blt x 109 then (bif Nat.beq x 108 then some (.dup, 1) else none) else (bif Nat.blt x 112 then (bif Nat.beq x 109 then some (.invokespecial 118, 3) else none) else (bif Nat.beq x 112 then some (.athrow, 1) else none))))))
def q_t8 (x : Nat) : Option (Instr × Nat) := bif Nat.blt x 9 then (bif Nat.blt x 4 then (bif Nat.blt x 1 then (bif Nat.beq x 0 then some (.aload_n 0, 1) else none) else (bif Nat.beq x 1 then some (.invokevirtual 126, 3) else none)) else (bif Nat.blt x 5 then (bif Nat.beq x 4 then some (.aload_n 0, 1) else none) else (bif Nat.blt x 6 then (bif Nat.beq x 5 then some (.iload_n 1, 1) else none) else (bif Nat.beq x 6 then some (.invokevirtual 178, 3) else none)))) else (bif Nat.blt x 14 then (bif Nat.blt x 10 then (bif Nat.beq x 9 then some (.aload_n 0, 1) else none) else (bif Nat.blt x 13 then (bif Nat.beq x 10 then some (.getfield 44, 3) else none) else (bif Nat.beq x 13 then some (.iload_n 1, 1) else none))) else (bif Nat.blt x 15 then (bif Nat.beq x 14 then some (.iload_n 2, 1) else none) else (bif Nat.blt x 18 then (bif Nat.beq x 15 then some (.invokevirtual 181, 3) else none) else (bif Nat.beq x 18 then some (.ireturn, 1) else none))))
def q_t9 (x : Nat) : Option (Instr × Nat) := bif Nat.blt x 16 then (bif Nat.blt x 9 then (bif Nat.blt x 4 then (bif Nat.blt x 1 then (bif Nat.beq x 0 then some (.aload_n 0, 1) else none) else (bif Nat.beq x 1 then some (.invokevirtual 126, 3) else none)) else (bif Nat.blt x 5 then (bif Nat.beq x 4 then some (.aload_n 0, 1) else none) else (bif Nat.blt x 6 then (bif Nat.beq x 5 then some (.iload_n 1, 1) else none) else (bif Nat.beq x 6 then some (.invokevirtual 178, 3) else none)))) else (bif Nat.blt x 13 then (bif Nat.blt x 10 then (bif Nat.beq x 9 then some (.iload_n 2, 1) else none) else (bif Nat.beq x 10 then some (.invokestatic 162, 3) else none)) else (bif Nat.blt x 14 then (bif Nat.beq x 13 then some (.istore_n 3, 1) else none) else (bif Nat.blt x 15 then (bif Nat.beq x 14 then some (.iload_n 3, 1) else none) else (bif Nat.beq x 15 then some (.iconst (-1), 1) else none))))) else (bif Nat.blt x 27 then (bif Nat.blt x 22 then (bif Nat.blt x 19 then (bif Nat.beq x 16 then some (.if_icmp .ne 11, 3) else none) else (bif Nat.beq x 19 then some (.new 116, 3) else none)) else (bif Nat.blt x 23 then (bif Nat.beq x 22 then some (.dup, 1) else none) else (bif Nat.blt x 26 then (bif Nat.beq x 23 then some (.invokespecial 118, 3) else none) else (bif Nat.beq x 26 then some (.athrow, 1) else none)))) else (bif Nat.blt x 32 then (bif Nat.blt x 28 then (bif Nat.beq x 27 then some (.aload_n 0, 1) else none) else (bif Nat.blt x 31 then (bif Nat.beq x 28 then some (.getfield 44, 3) else none) else (bif Nat.beq x 31 then some (.iload_n 1, 1) else none))) else (bif Nat.blt x 33 then (bif Nat.beq x 32 then some (.iload_n 3, 1) else none) else (bif Nat.blt x 36 then (bif Nat.beq x 33 then some (.invokevirtual 184, 3) else none) else (bif Nat.beq x 36 then some (.ireturn, 1) else none)))))
def q_t10 (x : Nat) : Option (Instr × Nat) := bif Nat.blt x 20 then (bif Nat.blt x 10 then (bif Nat.blt x 5 then (bif Nat.blt x 1 then (bif Nat.beq x 0 then some (.aload_n 0, 1) else none) else (bif Nat.blt x 4 then (bif Nat.beq x 1 then some (.invokevirtual 126, 3) else none) else (bif Nat.beq x 4 then some (.aload_n 0, 1) else none))) else (bif Nat.blt x 6 then (bif Nat.beq x 5 then some (.iload_n 1, 1) else none) else (bif Nat.blt x 9 then (bif Nat.beq x 6 then some (.invokevirtual 178, 3) else none) else (bif Nat.beq x 9 then some (.aload_n 0, 1) else none)))) else (bif Nat.blt x 15 then (bif Nat.blt x 11 then (bif Nat.beq x 10 then some (.iload_n 2, 1) else none) else (bif Nat.blt x 14 then (bif Nat.beq x 11 then some (.invokevirtual 141, 3) else none) else (bif Nat.beq x 14 then some (.iload_n 3, 1) else none))) else (bif Nat.blt x 18 then (bif Nat.beq x 15 then some (.ifCond .lt 8, 3) else none) else (bif Nat.blt x 19 then (bif Nat.beq x 18 then some (.iload_n 3, 1) else none) else (bif Nat.beq x 19 then some (.iconst 3, 1) else none))))) else (bif Nat.blt x 32 then (bif Nat.blt x 27 then (bif Nat.blt x 23 then (bif Nat.beq x 20 then some (.if_icmp .lt 11, 3) else none) else (bif Nat.blt x 26 then (bif Nat.beq x 23 then some (.new 116, 3) else none) else (bif Nat.beq x 26 then some (.dup, 1) else none))) else (bif Nat.blt x 30 then (bif Nat.beq x 27 then some (.invokespecial 118, 3) else none) else (bif Nat.blt x 31 then (bif Nat.beq x 30 then some (.athrow, 1) else none) else (bif Nat.beq x 31 then some (.aload_n 0, 1) else none)))) else (bif Nat.blt x 37 then (bif Nat.blt x 35 then (bif Nat.beq x 32 then some (.getfield 69, 3) else none) else (bif Nat.blt x 36 then (bif Nat.beq x 35 then some (.iload_n 1, 1) else none) else (bif Nat.beq x 36 then some (.iload_n 2, 1) else none))) else (bif Nat.blt x 38 then (bif Nat.beq x 37 then some (.iload_n 3, 1) else none) else (bif Nat.blt x 41 then (bif Nat.beq x 38 then some (.invokevirtual 187, 3) else none) else (bif Nat.beq x 41 then some (.ireturn, 1) else none)))))
def q_t11 (x : Nat) : Option (Instr × Nat) := bif Nat.blt x 10 then (bif Nat.blt x 5 then (bif Nat.blt x 1 then (bif Nat.beq x 0 then some (.aload_n 0, 1) else none) else (bif Nat.blt x 4 then (bif Nat.beq x 1 then some (.invokevirtual 126, 3) else none) else (bif Nat.beq x 4 then some (.aload_n 0, 1) else none))) else (bif Nat.blt x 6 then (bif Nat.beq x 5 then some (.iload_n 1, 1) else none) else (bif Nat.blt x 9 then (bif Nat.beq x 6 then some (.invokevirtual 178, 3) else none) else (bif Nat.beq x 9 then some (.aload_n 0, 1) else none)))) else (bif Nat.blt x 15 then (bif Nat.blt x 13 then (bif Nat.beq x 10 then some (.getfield 69, 3) else none) else (bif Nat.blt x 14 then (bif Nat.beq x 13 then some (.iload_n 1, 1) else none) else (bif Nat.beq x 14 then some (.iload_n 2, 1) else none))) else (bif Nat.blt x 18 then (bif Nat.beq x 15 then some (.invokestatic 191, 3) else none) else (bif Nat.blt x 21 then (bif Nat.beq x 18 then some (.invokevirtual 194, 3) else none) else (bif Nat.beq x 21 then some (.ireturn, 1) else none))))
def q_t12 (x : Nat) : Option (Instr × Nat) := bif Nat.blt x 5 then (bif Nat.blt x 1 then (bif Nat.beq x 0 then some (.aload_n 0, 1) else none) else (bif Nat.blt x 4 then (bif Nat.beq x 1 then some (.invokevirtual 126, 3) else none) else (bif Nat.beq x 4 then some (.aload_n 0, 1) else none))) else (bif Nat.blt x 9 then (bif Nat.blt x 8 then (bif Nat.beq x 5 then some (.getfield 69, 3) else none) else (bif Nat.beq x 8 then some (.iload_n 1, 1) else none)) else (bif Nat.blt x 12 then (bif Nat.beq x 9 then some (.invokevirtual 197, 3) else none) else (bif Nat.beq x 12 then some (.ireturn, 1) else none)))
def q_t13 (x : Nat) : Option (Instr × Nat) := bif Nat.blt x 20 then (bif Nat.blt x 9 then (bif Nat.blt x 4 then (bif Nat.blt x 1 then (bif Nat.beq x 0 then some (.aload_n 0, 1) else none) else (bif Nat.beq x 1 then some (.invokevirtual 126, 3) else none)) else (bif Nat.blt x 5 then (bif Nat.beq x 4 then some (.iload_n 1, 1) else none) else (bif Nat.blt x 6 then (bif Nat.beq x 5 then some (.iconst 1, 1) else none) else (bif Nat.beq x 6 then some (.if_icmp .lt 19, 3) else none)))) else (bif Nat.blt x 15 then (bif Nat.blt x 10 then (bif Nat.beq x 9 then some (.iload_n 1, 1) else none) else (bif Nat.blt x 12 then (bif Nat.beq x 10 then some (.bipush 24, 2) else none) else (bif Nat.beq x 12 then some (.if_icmp .gt 13, 3) else none))) else (bif Nat.blt x 16 then (bif Nat.beq x 15 then some (.iload_n 2, 1) else none) else (bif Nat.blt x 19 then (bif Nat.beq x 16 then some (.ifCond .lt 9, 3) else none) else (bif Nat.beq x 19 then some (.iload_n 2, 1) else none))))) else (bif Nat.blt x 33 then (bif Nat.blt x 28 then (bif Nat.blt x 22 then (bif Nat.beq x 20 then some (.bipush 60, 2) else none) else (bif Nat.blt x 25 then (bif Nat.beq x 22 then some (.if_icmp .le 11, 3) else none) else (bif Nat.beq x 25 then some (.new 116, 3) else none))) else (bif Nat.blt x 29 then (bif Nat.beq x 28 then some (.dup, 1) else none) else (bif Nat.blt x 32 then (bif Nat.beq x 29 then some (.invokespecial 118, 3) else none) else (bif Nat.beq x 32 then some (.athrow, 1) else none)))) else (bif Nat.blt x 38 then (bif Nat.blt x 34 then (bif Nat.beq x 33 then some (.aload_n 0, 1) else none) else (bif Nat.blt x 37 then (bif Nat.beq x 34 then some (.getfield 78, 3) else none) else (bif Nat.beq x 37 then some (.iload_n 1, 1) else none))) else (bif Nat.blt x 39 then (bif Nat.beq x 38 then some (.iload_n 2, 1) else none) else (bif Nat.blt x 42 then (bif Nat.beq x 39 then some (.invokevirtual 200, 3) else none) else (bif Nat.beq x 42 then some (.return_, 1) else none)))))
def q_t14 (x : Nat) : Option (Instr × Nat) := bif Nat.blt x 23 then (bif Nat.blt x 10 then (bif Nat.blt x 4 then (bif Nat.blt x 1 then (bif Nat.beq x 0 then some (.aload_n 0, 1) else none) else (bif Nat.beq x 1 then some (.getfield 78, 3) else none)) else (bif Nat.blt x 7 then (bif Nat.beq x 4 then some (.getfield 204, 3) else none) else (bif Nat.beq x 7 then some (.ifCond .eq 13, 3) else none))) else (bif Nat.blt x 14 then (bif Nat.blt x 11 then (bif Nat.beq x 10 then some (.aload_n 0, 1) else none) else (bif Nat.beq x 11 then some (.getfield 78, 3) else none)) else (bif Nat.blt x 17 then (bif Nat.beq x 14 then some (.getfield 207, 3) else none) else (bif Nat.blt x 20 then (bif Nat.beq x 17 then some (.ifCond .eq 11, 3) else none) else (bif Nat.beq x 20 then some (.new 210, 3) else none))))) else (bif Nat.blt x 29 then (bif Nat.blt x 27 then (bif Nat.blt x 24 then (bif Nat.beq x 23 then some (.dup, 1) else none) else (bif Nat.beq x 24 then some (.invokespecial 212, 3) else none)) else (bif Nat.blt x 28 then (bif Nat.beq x 27 then some (.athrow, 1) else none) else (bif Nat.beq x 28 then some (.aload_n 0, 1) else none))) else (bif Nat.blt x 33 then (bif Nat.blt x 32 then (bif Nat.beq x 29 then some (.getfield 78, 3) else none) else (bif Nat.beq x 32 then some (.iload_n 1, 1) else none)) else (bif Nat.blt x 36 then (bif Nat.beq x 33 then some (.invokestatic 191, 3) else none) else (bif Nat.blt x 39 then (bif Nat.beq x 36 then some (.invokevirtual 213, 3) else none) else (bif Nat.beq x 39 then some (.ireturn, 1) else none)))))
def q_t15 (x : Nat) : Option (Instr × Nat) := bif Nat.blt x 53 then (bif Nat.blt x 12 then (bif Nat.blt x 7 then (bif Nat.blt x 1 then (bif Nat.beq x 0 then some (.aload_n 0, 1) else none) else (bif Nat.blt x 4 then (bif Nat.beq x 1 then some (.getfield 78, 3) else none) else (bif Nat.beq x 4 then some (.getfield 204, 3) else none))) else (bif Nat.blt x 10 then (bif Nat.beq x 7 then some (.ifCond .ne 5, 3) else none) else (bif Nat.blt x 11 then (bif Nat.beq x 10 then some (.iconst (-1), 1) else none) else (bif Nat.beq x 11 then some (.ireturn, 1) else none)))) else (bif Nat.blt x 45 then (bif Nat.blt x 13 then (bif Nat.beq x 12 then some (.iload_n 1, 1) else none) else (bif Nat.blt x 44 then (bif Nat.beq x 13 then some (.tableswitch 66 0 3 #[31, 39, 47, 55], 31) else none) else (bif Nat.beq x 44 then some (.aload_n 0, 1) else none))) else (bif Nat.blt x 51 then (bif Nat.blt x 48 then (bif Nat.beq x 45 then some (.getfield 78, 3) else none) else (bif Nat.beq x 48 then some (.getfield 207, 3) else none)) else (bif Nat.blt x 52 then (bif Nat.beq x 51 then some (.ireturn, 1) else none) else (bif Nat.beq x 52 then some (.aload_n 0, 1) else none))))) else (bif Nat.blt x 68 then (bif Nat.blt x 60 then (bif Nat.blt x 56 then (bif Nat.beq x 53 then some (.getfield 78, 3) else none) else (bif Nat.blt x 59 then (bif Nat.beq x 56 then some (.getfield 216, 3) else none) else (bif Nat.beq x 59 then some (.ireturn, 1) else none))) else (bif Nat.blt x 64 then (bif Nat.blt x 61 then (bif Nat.beq x 60 then some (.aload_n 0, 1) else none) else (bif Nat.beq x 61 then some (.getfield 78, 3) else none)) else (bif Nat.blt x 67 then (bif Nat.beq x 64 then some (.getfield 219, 3) else none) else (bif Nat.beq x 67 then some (.ireturn, 1) else none)))) else (bif Nat.blt x 75 then (bif Nat.blt x 69 then (bif Nat.beq x 68 then some (.aload_n 0, 1) else none) else (bif Nat.blt x 72 then (bif Nat.beq x 69 then some (.getfield 78, 3) else none) else (bif Nat.beq x 72 then some (.getfield 222, 3) else none))) else (bif Nat.blt x 79 then (bif Nat.blt x 78 then (bif Nat.beq x 75 then some (.getfield 226, 3) else none) else (bif Nat.beq x 78 then some (.ireturn, 1) else none)) else (bif Nat.blt x 80 then (bif Nat.beq x 79 then some (.iconst (-1), 1) else none) else (bif Nat.beq x 80 then some (.ireturn, 1) else none)))))
def q_t16 (x : Nat) : Option (Instr × Nat) := bif Nat.blt x 22 then (bif Nat.blt x 11 then (bif Nat.blt x 4 then (bif Nat.blt x 1 then (bif Nat.beq x 0 then some (.aload_n 0, 1) else none) else (bif Nat.beq x 1 then some (.getfield 78, 3) else none)) else (bif Nat.blt x 7 then (bif Nat.beq x 4 then some (.getfield 204, 3) else none) else (bif Nat.blt x 10 then (bif Nat.beq x 7 then some (.ifCond .eq 18, 3) else none) else (bif Nat.beq x 10 then some (.iload_n 1, 1) else none)))) else (bif Nat.blt x 15 then (bif Nat.blt x 14 then (bif Nat.beq x 11 then some (.ifCond .lt 14, 3) else none) else (bif Nat.beq x 14 then some (.iload_n 1, 1) else none)) else (bif Nat.blt x 16 then (bif Nat.beq x 15 then some (.aload_n 0, 1) else none) else (bif Nat.blt x 19 then (bif Nat.beq x 16 then some (.getfield 78, 3) else none) else (bif Nat.beq x 19 then some (.getfield 216, 3) else none))))) else (bif Nat.blt x 33 then (bif Nat.blt x 28 then (bif Nat.blt x 25 then (bif Nat.beq x 22 then some (.if_icmp .lt 11, 3) else none) else (bif Nat.beq x 25 then some (.new 148, 3) else none)) else (bif Nat.blt x 29 then (bif Nat.beq x 28 then some (.dup, 1) else none) else (bif Nat.blt x 32 then (bif Nat.beq x 29 then some (.invokespecial 150, 3) else none) else (bif Nat.beq x 32 then some (.athrow, 1) else none)))) else (bif Nat.blt x 40 then (bif Nat.blt x 34 then (bif Nat.beq x 33 then some (.aload_n 0, 1) else none) else (bif Nat.blt x 37 then (bif Nat.beq x 34 then some (.getfield 78, 3) else none) else (bif Nat.beq x 37 then some (.getfield 229, 3) else none))) else (bif Nat.blt x 41 then (bif Nat.beq x 40 then some (.iload_n 1, 1) else none) else (bif Nat.blt x 42 then (bif Nat.beq x 41 then some (.iaload, 1) else none) else (bif Nat.beq x 42 then some (.ireturn, 1) else none)))))
def q_t17 (x : Nat) : Option (Instr × Nat) := bif Nat.blt x 17 then (bif Nat.blt x 7 then (bif Nat.blt x 1 then (bif Nat.beq x 0 then some (.aload_n 0, 1) else none) else (bif Nat.blt x 4 then (bif Nat.beq x 1 then some (.getfield 78, 3) else none) else (bif Nat.beq x 4 then some (.getfield 204, 3) else none))) else (bif Nat.blt x 13 then (bif Nat.blt x 10 then (bif Nat.beq x 7 then some (.ifCond .ne 11, 3) else none) else (bif Nat.beq x 10 then some (.new 210, 3) else none)) else (bif Nat.blt x 14 then (bif Nat.beq x 13 then some (.dup, 1) else none) else (bif Nat.beq x 14 then some (.invokespecial 212, 3) else none)))) else (bif Nat.blt x 23 then (bif Nat.blt x 19 then (bif Nat.blt x 18 then (bif Nat.beq x 17 then some (.athrow, 1) else none) else (bif Nat.beq x 18 then some (.aload_n 0, 1) else none)) else (bif Nat.blt x 22 then (bif Nat.beq x 19 then some (.getfield 69, 3) else none) else (bif Nat.beq x 22 then some (.aload_n 0, 1) else none))) else (bif Nat.blt x 29 then (bif Nat.blt x 26 then (bif Nat.beq x 23 then some (.getfield 78, 3) else none) else (bif Nat.beq x 26 then some (.invokevirtual 232, 3) else none)) else (bif Nat.blt x 32 then (bif Nat.beq x 29 then some (.invokevirtual 235, 3) else none) else (bif Nat.beq x 32 then some (.ireturn, 1) else none))))
def q_t18 (x : Nat) : Option (Instr × Nat) := bif Nat.blt x 73 then (bif Nat.blt x 52 then (bif Nat.blt x 40 then (bif Nat.blt x 2 then (bif Nat.blt x 1 then (bif Nat.beq x 0 then some (.aload_n 0, 1) else none) else (bif Nat.beq x 1 then some (.iload_n 1, 1) else none)) else (bif Nat.blt x 5 then (bif Nat.beq x 2 then some (.invokevirtual 238, 3) else none) else (bif Nat.blt x 6 then (bif Nat.beq x 5 then some (.iload_n 2, 1) else none) else (bif Nat.beq x 6 then some (.tableswitch 101 0 4 #[34, 50, 63, 75, 88], 34) else none)))) else (bif Nat.blt x 47 then (bif Nat.blt x 41 then (bif Nat.beq x 40 then some (.aload_n 0, 1) else none) else (bif Nat.blt x 44 then (bif Nat.beq x 41 then some (.getfield 78, 3) else none) else (bif Nat.beq x 44 then some (.getfield 222, 3) else none))) else (bif Nat.blt x 50 then (bif Nat.beq x 47 then some (.getfield 241, 3) else none) else (bif Nat.blt x 51 then (bif Nat.beq x 50 then some (.iload_n 1, 1) else none) else (bif Nat.beq x 51 then some (.iaload, 1) else none))))) else (bif Nat.blt x 63 then (bif Nat.blt x 56 then (bif Nat.blt x 55 then (bif Nat.beq x 52 then some (.invokestatic 155, 3) else none) else (bif Nat.beq x 55 then some (.ireturn, 1) else none)) else (bif Nat.blt x 57 then (bif Nat.beq x 56 then some (.aload_n 0, 1) else none) else (bif Nat.blt x 60 then (bif Nat.beq x 57 then some (.getfield 78, 3) else none) else (bif Nat.beq x 60 then some (.getfield 222, 3) else none)))) else (bif Nat.blt x 68 then (bif Nat.blt x 66 then (bif Nat.beq x 63 then some (.getfield 244, 3) else none) else (bif Nat.blt x 67 then (bif Nat.beq x 66 then some (.iload_n 1, 1) else none) else (bif Nat.beq x 67 then some (.iaload, 1) else none))) else (bif Nat.blt x 69 then (bif Nat.beq x 68 then some (.ireturn, 1) else none) else (bif Nat.blt x 70 then (bif Nat.beq x 69 then some (.aload_n 0, 1) else none) else (bif Nat.beq x 70 then some (.getfield 78, 3) else none)))))) else (bif Nat.blt x 94 then (bif Nat.blt x 82 then (bif Nat.blt x 77 then (bif Nat.blt x 76 then (bif Nat.beq x 73 then some (.getfield 222, 3) else none) else (bif Nat.beq x 76 then some (.iload_n 1, 1) else none)) else (bif Nat.blt x 80 then (bif Nat.beq x 77 then some (.invokevirtual 247, 3) else none) else (bif Nat.blt x 81 then (bif Nat.beq x 80 then some (.ireturn, 1) else none) else (bif Nat.beq x 81 then some (.aload_n 0, 1) else none)))) else (bif Nat.blt x 91 then (bif Nat.blt x 85 then (bif Nat.beq x 82 then some (.getfield 78, 3) else none) else (bif Nat.blt x 88 then (bif Nat.beq x 85 then some (.getfield 222, 3) else none) else (bif Nat.beq x 88 then some (.getfield 250, 3) else none))) else (bif Nat.blt x 92 then (bif Nat.beq x 91 then some (.iload_n 1, 1) else none) else (bif Nat.blt x 93 then (bif Nat.beq x 92 then some (.iaload, 1) else none) else (bif Nat.beq x 93 then some (.ireturn, 1) else none))))) else (bif Nat.blt x 105 then (bif Nat.blt x 98 then (bif Nat.blt x 95 then (bif Nat.beq x 94 then some (.aload_n 0, 1) else none) else (bif Nat.beq x 95 then some (.getfield 78, 3) else none)) else (bif Nat.blt x 101 then (bif Nat.beq x 98 then some (.getfield 222, 3) else none) else (bif Nat.blt x 104 then (bif Nat.beq x 101 then some (.getfield 252, 3) else none) else (bif Nat.beq x 104 then some (.iload_n 1, 1) else none)))) else (bif Nat.blt x 110 then (bif Nat.blt x 106 then (bif Nat.beq x 105 then some (.iaload, 1) else none) else (bif Nat.blt x 107 then (bif Nat.beq x 106 then some (.ireturn, 1) else none) else (bif Nat.beq x 107 then some (.new 116, 3) else none))) else (bif Nat.blt x 111 then (bif Nat.beq x 110 then some (.dup, 1) else none) else (bif Nat.blt x 114 then (bif Nat.beq x 111 then some (.invokespecial 118, 3) else none) else (bif Nat.beq x 114 then some (.athrow, 1) else none))))))
def q_t19 (x : Nat) : Option (Instr × Nat) := bif Nat.blt x 27 then (bif Nat.blt x 10 then (bif Nat.blt x 5 then (bif Nat.blt x 1 then (bif Nat.beq x 0 then some (.aload_n 0, 1) else none) else (bif Nat.blt x 2 then (bif Nat.beq x 1 then some (.iload_n 1, 1) else none) else (bif Nat.beq x 2 then some (.invokevirtual 238, 3) else none))) else (bif Nat.blt x 6 then (bif Nat.beq x 5 then some (.iload_n 2, 1) else none) else (bif Nat.blt x 9 then (bif Nat.beq x 6 then some (.ifCond .lt 18, 3) else none) else (bif Nat.beq x 9 then some (.iload_n 2, 1) else none)))) else (bif Nat.blt x 17 then (bif Nat.blt x 11 then (bif Nat.beq x 10 then some (.aload_n 0, 1) else none) else (bif Nat.blt x 14 then (bif Nat.beq x 11 then some (.getfield 78, 3) else none) else (bif Nat.beq x 14 then some (.getfield 222, 3) else none))) else (bif Nat.blt x 21 then (bif Nat.blt x 18 then (bif Nat.beq x 17 then some (.iload_n 1, 1) else none) else (bif Nat.beq x 18 then some (.invokevirtual 247, 3) else none)) else (bif Nat.blt x 24 then (bif Nat.beq x 21 then some (.if_icmp .lt 11, 3) else none) else (bif Nat.beq x 24 then some (.new 148, 3) else none))))) else (bif Nat.blt x 42 then (bif Nat.blt x 32 then (bif Nat.blt x 28 then (bif Nat.beq x 27 then some (.dup, 1) else none) else (bif Nat.blt x 31 then (bif Nat.beq x 28 then some (.invokespecial 150, 3) else none) else (bif Nat.beq x 31 then some (.athrow, 1) else none))) else (bif Nat.blt x 36 then (bif Nat.blt x 33 then (bif Nat.beq x 32 then some (.aload_n 0, 1) else none) else (bif Nat.beq x 33 then some (.getfield 78, 3) else none)) else (bif Nat.blt x 39 then (bif Nat.beq x 36 then some (.getfield 222, 3) else none) else (bif Nat.beq x 39 then some (.getfield 255, 3) else none)))) else (bif Nat.blt x 45 then (bif Nat.blt x 43 then (bif Nat.beq x 42 then some (.iload_n 1, 1) else none) else (bif Nat.blt x 44 then (bif Nat.beq x 43 then some (.iconst 4, 1) else none) else (bif Nat.beq x 44 then some (.imul, 1) else none))) else (bif Nat.blt x 47 then (bif Nat.blt x 46 then (bif Nat.beq x 45 then some (.iload_n 2, 1) else none) else (bif Nat.beq x 46 then some (.iadd, 1) else none)) else (bif Nat.blt x 48 then (bif Nat.beq x 47 then some (.iaload, 1) else none) else (bif Nat.beq x 48 then some (.ireturn, 1) else none)))))
def q_t20 (x : Nat) : Option (Instr × Nat) := bif Nat.blt x 10 then (bif Nat.blt x 4 then (bif Nat.blt x 1 then (bif Nat.beq x 0 then some (.aload_n 0, 1) else none) else (bif Nat.beq x 1 then some (.getfield 82, 3) else none)) else (bif Nat.blt x 7 then (bif Nat.beq x 4 then some (.ifCond .ne 11, 3) else none) else (bif Nat.beq x 7 then some (.new 210, 3) else none))) else (bif Nat.blt x 14 then (bif Nat.blt x 11 then (bif Nat.beq x 10 then some (.dup, 1) else none) else (bif Nat.beq x 11 then some (.invokespecial 212, 3) else none)) else (bif Nat.blt x 15 then (bif Nat.beq x 14 then some (.athrow, 1) else none) else (bif Nat.beq x 15 then some (.return_, 1) else none)))
def q_t21 (x : Nat) : Option (Instr × Nat) := bif Nat.blt x 12 then (bif Nat.blt x 5 then (bif Nat.blt x 1 then (bif Nat.beq x 0 then some (.iload_n 1, 1) else none) else (bif Nat.blt x 4 then (bif Nat.beq x 1 then some (.ifCond .lt 14, 3) else none) else (bif Nat.beq x 4 then some (.iload_n 1, 1) else none))) else (bif Nat.blt x 6 then (bif Nat.beq x 5 then some (.aload_n 0, 1) else none) else (bif Nat.blt x 9 then (bif Nat.beq x 6 then some (.getfield 44, 3) else none) else (bif Nat.beq x 9 then some (.getfield 132, 3) else none)))) else (bif Nat.blt x 19 then (bif Nat.blt x 15 then (bif Nat.beq x 12 then some (.if_icmp .lt 11, 3) else none) else (bif Nat.blt x 18 then (bif Nat.beq x 15 then some (.new 148, 3) else none) else (bif Nat.beq x 18 then some (.dup, 1) else none))) else (bif Nat.blt x 22 then (bif Nat.beq x 19 then some (.invokespecial 150, 3) else none) else (bif Nat.blt x 23 then (bif Nat.beq x 22 then some (.athrow, 1) else none) else (bif Nat.beq x 23 then some (.return_, 1) else none))))
def q_t22 (x : Nat) : Option (Instr × Nat) := bif Nat.blt x 12 then (bif Nat.blt x 5 then (bif Nat.blt x 1 then (bif Nat.beq x 0 then some (.iload_n 1, 1) else none) else (bif Nat.blt x 4 then (bif Nat.beq x 1 then some (.ifCond .lt 14, 3) else none) else (bif Nat.beq x 4 then some (.iload_n 1, 1) else none))) else (bif Nat.blt x 6 then (bif Nat.beq x 5 then some (.aload_n 0, 1) else none) else (bif Nat.blt x 9 then (bif Nat.beq x 6 then some (.getfield 19, 3) else none) else (bif Nat.beq x 9 then some (.getfield 129, 3) else none)))) else (bif Nat.blt x 19 then (bif Nat.blt x 15 then (bif Nat.beq x 12 then some (.if_icmp .le 11, 3) else none) else (bif Nat.blt x 18 then (bif Nat.beq x 15 then some (.new 148, 3) else none) else (bif Nat.beq x 18 then some (.dup, 1) else none))) else (bif Nat.blt x 22 then (bif Nat.beq x 19 then some (.invokespecial 150, 3) else none) else (bif Nat.blt x 23 then (bif Nat.beq x 22 then some (.athrow, 1) else none) else (bif Nat.beq x 23 then some (.return_, 1) else none))))
def q_t23 (x : Nat) : Option (Instr × Nat) := bif Nat.blt x 16 then (bif Nat.blt x 10 then (bif Nat.blt x 4 then (bif Nat.blt x 1 then (bif Nat.beq x 0 then some (.aload_n 0, 1) else none) else (bif Nat.beq x 1 then some (.getfield 78, 3) else none)) else (bif Nat.blt x 7 then (bif Nat.beq x 4 then some (.getfield 204, 3) else none) else (bif Nat.beq x 7 then some (.ifCond .eq 21, 3) else none))) else (bif Nat.blt x 14 then (bif Nat.blt x 11 then (bif Nat.beq x 10 then some (.iload_n 1, 1) else none) else (bif Nat.beq x 11 then some (.ifCond .lt 17, 3) else none)) else (bif Nat.blt x 15 then (bif Nat.beq x 14 then some (.iload_n 1, 1) else none) else (bif Nat.beq x 15 then some (.aload_n 0, 1) else none)))) else (bif Nat.blt x 28 then (bif Nat.blt x 22 then (bif Nat.blt x 19 then (bif Nat.beq x 16 then some (.getfield 78, 3) else none) else (bif Nat.beq x 19 then some (.getfield 222, 3) else none)) else (bif Nat.blt x 25 then (bif Nat.beq x 22 then some (.getfield 226, 3) else none) else (bif Nat.beq x 25 then some (.if_icmp .lt 11, 3) else none))) else (bif Nat.blt x 32 then (bif Nat.blt x 31 then (bif Nat.beq x 28 then some (.new 148, 3) else none) else (bif Nat.beq x 31 then some (.dup, 1) else none)) else (bif Nat.blt x 35 then (bif Nat.beq x 32 then some (.invokespecial 150, 3) else none) else (bif Nat.blt x 36 then (bif Nat.beq x 35 then some (.athrow, 1) else none) else (bif Nat.beq x 36 then some (.return_, 1) else none)))))
def q_t24 (x : Nat) : Option (Instr × Nat) := bif Nat.blt x 10 then (bif Nat.blt x 5 then (bif Nat.blt x 1 then (bif Nat.beq x 0 then some (.iload_n 0, 1) else none) else (bif Nat.blt x 4 then (bif Nat.beq x 1 then some (.invokestatic 112, 3) else none) else (bif Nat.beq x 4 then some (.istore_n 1, 1) else none))) else (bif Nat.blt x 6 then (bif Nat.beq x 5 then some (.iload_n 1, 1) else none) else (bif Nat.blt x 7 then (bif Nat.beq x 6 then some (.iconst (-1), 1) else none) else (bif Nat.beq x 7 then some (.if_icmp .ne 11, 3) else none)))) else (bif Nat.blt x 17 then (bif Nat.blt x 13 then (bif Nat.beq x 10 then some (.new 116, 3) else none) else (bif Nat.blt x 14 then (bif Nat.beq x 13 then some (.dup, 1) else none) else (bif Nat.beq x 14 then some (.invokespecial 118, 3) else none))) else (bif Nat.blt x 18 then (bif Nat.beq x 17 then some (.athrow, 1) else none) else (bif Nat.blt x 19 then (bif Nat.beq x 18 then some (.iload_n 1, 1) else none) else (bif Nat.beq x 19 then some (.ireturn, 1) else none))))
def q_t25 (x : Nat) : Option (Instr × Nat) := bif Nat.blt x 20 then (bif Nat.blt x 12 then (bif Nat.blt x 6 then (bif Nat.blt x 1 then (bif Nat.beq x 0 then some (.iload_n 0, 1) else none) else (bif Nat.blt x 3 then (bif Nat.beq x 1 then some (.bipush 65, 2) else none) else (bif Nat.beq x 3 then some (.if_icmp .lt 14, 3) else none))) else (bif Nat.blt x 7 then (bif Nat.beq x 6 then some (.iload_n 0, 1) else none) else (bif Nat.blt x 9 then (bif Nat.beq x 7 then some (.bipush 72, 2) else none) else (bif Nat.beq x 9 then some (.if_icmp .gt 8, 3) else none)))) else (bif Nat.blt x 16 then (bif Nat.blt x 13 then (bif Nat.beq x 12 then some (.iload_n 0, 1) else none) else (bif Nat.blt x 15 then (bif Nat.beq x 13 then some (.bipush 65, 2) else none) else (bif Nat.beq x 15 then some (.isub, 1) else none))) else (bif Nat.blt x 17 then (bif Nat.beq x 16 then some (.ireturn, 1) else none) else (bif Nat.blt x 18 then (bif Nat.beq x 17 then some (.iload_n 0, 1) else none) else (bif Nat.beq x 18 then some (.bipush 97, 2) else none))))) else (bif Nat.blt x 32 then (bif Nat.blt x 26 then (bif Nat.blt x 23 then (bif Nat.beq x 20 then some (.if_icmp .lt 17, 3) else none) else (bif Nat.blt x 24 then (bif Nat.beq x 23 then some (.iload_n 0, 1) else none) else (bif Nat.beq x 24 then some (.bipush 104, 2) else none))) else (bif Nat.blt x 29 then (bif Nat.beq x 26 then some (.if_icmp .gt 11, 3) else none) else (bif Nat.blt x 31 then (bif Nat.beq x 29 then some (.bipush 8, 2) else none) else (bif Nat.beq x 31 then some (.iload_n 0, 1) else none)))) else (bif Nat.blt x 36 then (bif Nat.blt x 33 then (bif Nat.beq x 32 then some (.iadd, 1) else none) else (bif Nat.blt x 35 then (bif Nat.beq x 33 then some (.bipush 97, 2) else none) else (bif Nat.beq x 35 then some (.isub, 1) else none))) else (bif Nat.blt x 37 then (bif Nat.beq x 36 then some (.ireturn, 1) else none) else (bif Nat.blt x 38 then (bif Nat.beq x 37 then some (.iconst (-1), 1) else none) else (bif Nat.beq x 38 then some (.ireturn, 1) else none)))))
def q_t26 (x : Nat) : Option (Instr × Nat) := bif Nat.blt x 15 then (bif Nat.blt x 8 then (bif Nat.blt x 3 then (bif Nat.blt x 1 then (bif Nat.beq x 0 then some (.iload_n 0, 1) else none) else (bif Nat.beq x 1 then some (.bipush 46, 2) else none)) else (bif Nat.blt x 6 then (bif Nat.beq x 3 then some (.if_icmp .ne 6, 3) else none) else (bif Nat.beq x 6 then some (.bipush 8, 2) else none))) else (bif Nat.blt x 10 then (bif Nat.blt x 9 then (bif Nat.beq x 8 then some (.ireturn, 1) else none) else (bif Nat.beq x 9 then some (.iload_n 0, 1) else none)) else (bif Nat.blt x 12 then (bif Nat.beq x 10 then some (.bipush 97, 2) else none) else (bif Nat.beq x 12 then some (.if_icmp .lt 16, 3) else none)))) else (bif Nat.blt x 22 then (bif Nat.blt x 18 then (bif Nat.blt x 16 then (bif Nat.beq x 15 then some (.iload_n 0, 1) else none) else (bif Nat.beq x 16 then some (.bipush 104, 2) else none)) else (bif Nat.blt x 21 then (bif Nat.beq x 18 then some (.if_icmp .gt 10, 3) else none) else (bif Nat.beq x 21 then some (.iload_n 0, 1) else none))) else (bif Nat.blt x 25 then (bif Nat.blt x 24 then (bif Nat.beq x 22 then some (.bipush 97, 2) else none) else (bif Nat.beq x 24 then some (.isub, 1) else none)) else (bif Nat.blt x 28 then (bif Nat.beq x 25 then some (.goto 4, 3) else none) else (bif Nat.blt x 29 then (bif Nat.beq x 28 then some (.iconst (-1), 1) else none) else (bif Nat.beq x 29 then some (.ireturn, 1) else none)))))
def q_t27 (x : Nat) : Option (Instr × Nat) := bif Nat.blt x 10 then (bif Nat.blt x 6 then (bif Nat.blt x 1 then (bif Nat.beq x 0 then some (.iload_n 0, 1) else none) else (bif Nat.blt x 3 then (bif Nat.beq x 1 then some (.bipush 8, 2) else none) else (bif Nat.beq x 3 then some (.if_icmp .ge 10, 3) else none))) else (bif Nat.blt x 8 then (bif Nat.beq x 6 then some (.bipush 65, 2) else none) else (bif Nat.blt x 9 then (bif Nat.beq x 8 then some (.iload_n 0, 1) else none) else (bif Nat.beq x 9 then some (.iadd, 1) else none)))) else (bif Nat.blt x 16 then (bif Nat.blt x 13 then (bif Nat.beq x 10 then some (.goto 10, 3) else none) else (bif Nat.blt x 15 then (bif Nat.beq x 13 then some (.bipush 97, 2) else none) else (bif Nat.beq x 15 then some (.iload_n 0, 1) else none))) else (bif Nat.blt x 19 then (bif Nat.blt x 17 then (bif Nat.beq x 16 then some (.iadd, 1) else none) else (bif Nat.beq x 17 then some (.bipush 8, 2) else none)) else (bif Nat.blt x 20 then (bif Nat.beq x 19 then some (.isub, 1) else none) else (bif Nat.beq x 20 then some (.ireturn, 1) else none))))
def q_t28 (x : Nat) : Option (Instr × Nat) := bif Nat.blt x 1 then (bif Nat.beq x 0 then some (.aload_n 0, 1) else none) else (bif Nat.blt x 4 then (bif Nat.beq x 1 then some (.getfield 90, 3) else none) else (bif Nat.beq x 4 then some (.ireturn, 1) else none))
def q_t29 (x : Nat) : Option (Instr × Nat) := bif Nat.blt x 22 then (bif Nat.blt x 12 then (bif Nat.blt x 6 then (bif Nat.blt x 1 then (bif Nat.beq x 0 then some (.iload_n 0, 1) else none) else (bif Nat.blt x 3 then (bif Nat.beq x 1 then some (.bipush 65, 2) else none) else (bif Nat.beq x 3 then some (.if_icmp .lt 16, 3) else none))) else (bif Nat.blt x 7 then (bif Nat.beq x 6 then some (.iload_n 0, 1) else none) else (bif Nat.blt x 9 then (bif Nat.beq x 7 then some (.bipush 72, 2) else none) else (bif Nat.beq x 9 then some (.if_icmp .gt 10, 3) else none)))) else (bif Nat.blt x 16 then (bif Nat.blt x 13 then (bif Nat.beq x 12 then some (.iload_n 0, 1) else none) else (bif Nat.blt x 15 then (bif Nat.beq x 13 then some (.bipush 65, 2) else none) else (bif Nat.beq x 15 then some (.isub, 1) else none))) else (bif Nat.blt x 19 then (bif Nat.beq x 16 then some (.goto 26, 3) else none) else (bif Nat.blt x 20 then (bif Nat.beq x 19 then some (.iload_n 0, 1) else none) else (bif Nat.beq x 20 then some (.bipush 97, 2) else none))))) else (bif Nat.blt x 34 then (bif Nat.blt x 28 then (bif Nat.blt x 25 then (bif Nat.beq x 22 then some (.if_icmp .lt 19, 3) else none) else (bif Nat.blt x 26 then (bif Nat.beq x 25 then some (.iload_n 0, 1) else none) else (bif Nat.beq x 26 then some (.bipush 104, 2) else none))) else (bif Nat.blt x 31 then (bif Nat.beq x 28 then some (.if_icmp .gt 13, 3) else none) else (bif Nat.blt x 32 then (bif Nat.beq x 31 then some (.iload_n 0, 1) else none) else (bif Nat.beq x 32 then some (.bipush 97, 2) else none)))) else (bif Nat.blt x 38 then (bif Nat.blt x 35 then (bif Nat.beq x 34 then some (.isub, 1) else none) else (bif Nat.blt x 37 then (bif Nat.beq x 35 then some (.bipush 8, 2) else none) else (bif Nat.beq x 37 then some (.iadd, 1) else none))) else (bif Nat.blt x 41 then (bif Nat.beq x 38 then some (.goto 4, 3) else none) else (bif Nat.blt x 42 then (bif Nat.beq x 41 then some (.iconst (-1), 1) else none) else (bif Nat.beq x 42 then some (.ireturn, 1) else none)))))
def q_t30 (x : Nat) : Option (Instr × Nat) := bif Nat.blt x 10 then (bif Nat.blt x 6 then (bif Nat.blt x 1 then (bif Nat.beq x 0 then some (.iload_n 0, 1) else none) else (bif Nat.blt x 3 then (bif Nat.beq x 1 then some (.bipush 8, 2) else none) else (bif Nat.beq x 3 then some (.if_icmp .ge 10, 3) else none))) else (bif Nat.blt x 8 then (bif Nat.beq x 6 then some (.bipush 65, 2) else none) else (bif Nat.blt x 9 then (bif Nat.beq x 8 then some (.iload_n 0, 1) else none) else (bif Nat.beq x 9 then some (.iadd, 1) else none)))) else (bif Nat.blt x 16 then (bif Nat.blt x 13 then (bif Nat.beq x 10 then some (.goto 10, 3) else none) else (bif Nat.blt x 15 then (bif Nat.beq x 13 then some (.bipush 97, 2) else none) else (bif Nat.beq x 15 then some (.iload_n 0, 1) else none))) else (bif Nat.blt x 19 then (bif Nat.blt x 17 then (bif Nat.beq x 16 then some (.iadd, 1) else none) else (bif Nat.beq x 17 then some (.bipush 8, 2) else none)) else (bif Nat.blt x 20 then (bif Nat.beq x 19 then some (.isub, 1) else none) else (bif Nat.beq x 20 then some (.ireturn, 1) else none))))
def q_t31 (x : Nat) : Option (Instr × Nat) := bif Nat.blt x 17 then (bif Nat.blt x 8 then (bif Nat.blt x 3 then (bif Nat.blt x 1 then (bif Nat.beq x 0 then some (.iload_n 0, 1) else none) else (bif Nat.beq x 1 then some (.bipush 46, 2) else none)) else (bif Nat.blt x 6 then (bif Nat.beq x 3 then some (.if_icmp .ne 8, 3) else none) else (bif Nat.beq x 6 then some (.bipush 8, 2) else none))) else (bif Nat.blt x 12 then (bif Nat.blt x 11 then (bif Nat.beq x 8 then some (.goto 23, 3) else none) else (bif Nat.beq x 11 then some (.iload_n 0, 1) else none)) else (bif Nat.blt x 14 then (bif Nat.beq x 12 then some (.bipush 97, 2) else none) else (bif Nat.beq x 14 then some (.if_icmp .lt 16, 3) else none)))) else (bif Nat.blt x 24 then (bif Nat.blt x 20 then (bif Nat.blt x 18 then (bif Nat.beq x 17 then some (.iload_n 0, 1) else none) else (bif Nat.beq x 18 then some (.bipush 104, 2) else none)) else (bif Nat.blt x 23 then (bif Nat.beq x 20 then some (.if_icmp .gt 10, 3) else none) else (bif Nat.beq x 23 then some (.iload_n 0, 1) else none))) else (bif Nat.blt x 27 then (bif Nat.blt x 26 then (bif Nat.beq x 24 then some (.bipush 97, 2) else none) else (bif Nat.beq x 26 then some (.isub, 1) else none)) else (bif Nat.blt x 30 then (bif Nat.beq x 27 then some (.goto 4, 3) else none) else (bif Nat.blt x 31 then (bif Nat.beq x 30 then some (.iconst (-1), 1) else none) else (bif Nat.beq x 31 then some (.ireturn, 1) else none)))))
def q_t32 (x : Nat) : Option (Instr × Nat) := bif Nat.blt x 81 then (bif Nat.blt x 36 then (bif Nat.blt x 17 then (bif Nat.blt x 7 then (bif Nat.blt x 2 then (bif Nat.blt x 1 then (bif Nat.beq x 0 then some (.aload_n 0, 1) else none) else (bif Nat.beq x 1 then some (.iconst 0, 1) else none)) else (bif Nat.blt x 5 then (bif Nat.beq x 2 then some (.putfield 90, 3) else none) else (bif Nat.blt x 6 then (bif Nat.beq x 5 then some (.iconst 0, 1) else none) else (bif Nat.beq x 6 then some (.istore_n 3, 1) else none)))) else (bif Nat.blt x 11 then (bif Nat.blt x 8 then (bif Nat.beq x 7 then some (.iconst 1, 1) else none) else (bif Nat.blt x 10 then (bif Nat.beq x 8 then some (.istore 4, 2) else none) else (bif Nat.beq x 10 then some (.iconst 0, 1) else none))) else (bif Nat.blt x 13 then (bif Nat.beq x 11 then some (.istore 5, 2) else none) else (bif Nat.blt x 15 then (bif Nat.beq x 13 then some (.iload 5, 2) else none) else (bif Nat.beq x 15 then some (.bipush 8, 2) else none))))) else (bif Nat.blt x 26 then (bif Nat.blt x 21 then (bif Nat.blt x 20 then (bif Nat.beq x 17 then some (.if_icmp .ge 67, 3) else none) else (bif Nat.beq x 20 then some (.lload_n 1, 1) else none)) else (bif Nat.blt x 23 then (bif Nat.beq x 21 then some (.bipush 8, 2) else none) else (bif Nat.blt x 25 then (bif Nat.beq x 23 then some (.iload 5, 2) else none) else (bif Nat.beq x 25 then some (.imul, 1) else none)))) else (bif Nat.blt x 31 then (bif Nat.blt x 27 then (bif Nat.beq x 26 then some (.lshr, 1) else none) else (bif Nat.blt x 30 then (bif Nat.beq x 27 then some (.ldc2_w 93, 3) else none) else (bif Nat.beq x 30 then some (.land, 1) else none))) else (bif Nat.blt x 32 then (bif Nat.beq x 31 then some (.l2i, 1) else none) else (bif Nat.blt x 34 then (bif Nat.beq x 32 then some (.istore 6, 2) else none) else (bif Nat.beq x 34 then some (.iload 4, 2) else none)))))) else (bif Nat.blt x 62 then (bif Nat.blt x 48 then (bif Nat.blt x 41 then (bif Nat.blt x 39 then (bif Nat.beq x 36 then some (.ifCond .eq 26, 3) else none) else (bif Nat.beq x 39 then some (.iload 6, 2) else none)) else (bif Nat.blt x 44 then (bif Nat.beq x 41 then some (.ifCond .eq 17, 3) else none) else (bif Nat.blt x 46 then (bif Nat.beq x 44 then some (.iload 6, 2) else none) else (bif Nat.beq x 46 then some (.bipush 32, 2) else none)))) else (bif Nat.blt x 55 then (bif Nat.blt x 51 then (bif Nat.beq x 48 then some (.if_icmp .lt 14, 3) else none) else (bif Nat.blt x 53 then (bif Nat.beq x 51 then some (.iload 6, 2) else none) else (bif Nat.beq x 53 then some (.bipush 126, 2) else none))) else (bif Nat.blt x 58 then (bif Nat.beq x 55 then some (.if_icmp .gt 7, 3) else none) else (bif Nat.blt x 59 then (bif Nat.beq x 58 then some (.iconst 1, 1) else none) else (bif Nat.beq x 59 then some (.goto 4, 3) else none))))) else (bif Nat.blt x 71 then (bif Nat.blt x 65 then (bif Nat.blt x 63 then (bif Nat.beq x 62 then some (.iconst 0, 1) else none) else (bif Nat.beq x 63 then some (.istore 4, 2) else none)) else (bif Nat.blt x 67 then (bif Nat.beq x 65 then some (.iload 6, 2) else none) else (bif Nat.blt x 70 then (bif Nat.beq x 67 then some (.ifCond .ne 7, 3) else none) else (bif Nat.beq x 70 then some (.iload_n 3, 1) else none)))) else (bif Nat.blt x 76 then (bif Nat.blt x 74 then (bif Nat.beq x 71 then some (.goto 6, 3) else none) else (bif Nat.blt x 75 then (bif Nat.beq x 74 then some (.iload_n 3, 1) else none) else (bif Nat.beq x 75 then some (.iconst 1, 1) else none))) else (bif Nat.blt x 77 then (bif Nat.beq x 76 then some (.iadd, 1) else none) else (bif Nat.blt x 78 then (bif Nat.beq x 77 then some (.istore_n 3, 1) else none) else (bif Nat.beq x 78 then some (.iinc 5 1, 3) else none))))))) else (bif Nat.blt x 123 then (bif Nat.blt x 103 then (bif Nat.blt x 93 then (bif Nat.blt x 86 then (bif Nat.blt x 84 then (bif Nat.beq x 81 then some (.goto (-68), 3) else none) else (bif Nat.beq x 84 then some (.iload 4, 2) else none)) else (bif Nat.blt x 89 then (bif Nat.beq x 86 then some (.ifCond .eq 15, 3) else none) else (bif Nat.blt x 90 then (bif Nat.beq x 89 then some (.aload_n 0, 1) else none) else (bif Nat.beq x 90 then some (.getfield 95, 3) else none)))) else (bif Nat.blt x 98 then (bif Nat.blt x 94 then (bif Nat.beq x 93 then some (.iload_n 3, 1) else none) else (bif Nat.blt x 95 then (bif Nat.beq x 94 then some (.iadd, 1) else none) else (bif Nat.beq x 95 then some (.sipush 200, 3) else none))) else (bif Nat.blt x 101 then (bif Nat.beq x 98 then some (.if_icmp .le 5, 3) else none) else (bif Nat.blt x 102 then (bif Nat.beq x 101 then some (.iconst (-1), 1) else none) else (bif Nat.beq x 102 then some (.ireturn, 1) else none))))) else (bif Nat.blt x 113 then (bif Nat.blt x 106 then (bif Nat.blt x 104 then (bif Nat.beq x 103 then some (.iconst 0, 1) else none) else (bif Nat.beq x 104 then some (.istore 5, 2) else none)) else (bif Nat.blt x 108 then (bif Nat.beq x 106 then some (.iload 5, 2) else none) else (bif Nat.blt x 110 then (bif Nat.beq x 108 then some (.bipush 8, 2) else none) else (bif Nat.beq x 110 then some (.if_icmp .ge 49, 3) else none)))) else (bif Nat.blt x 118 then (bif Nat.blt x 114 then (bif Nat.beq x 113 then some (.lload_n 1, 1) else none) else (bif Nat.blt x 116 then (bif Nat.beq x 114 then some (.bipush 8, 2) else none) else (bif Nat.beq x 116 then some (.iload 5, 2) else none))) else (bif Nat.blt x 119 then (bif Nat.beq x 118 then some (.imul, 1) else none) else (bif Nat.blt x 120 then (bif Nat.beq x 119 then some (.lshr, 1) else none) else (bif Nat.beq x 120 then some (.ldc2_w 93, 3) else none)))))) else (bif Nat.blt x 143 then (bif Nat.blt x 132 then (bif Nat.blt x 125 then (bif Nat.blt x 124 then (bif Nat.beq x 123 then some (.land, 1) else none) else (bif Nat.beq x 124 then some (.l2i, 1) else none)) else (bif Nat.blt x 127 then (bif Nat.beq x 125 then some (.istore 6, 2) else none) else (bif Nat.blt x 129 then (bif Nat.beq x 127 then some (.iload 6, 2) else none) else (bif Nat.beq x 129 then some (.ifCond .eq 24, 3) else none)))) else (bif Nat.blt x 137 then (bif Nat.blt x 133 then (bif Nat.beq x 132 then some (.aload_n 0, 1) else none) else (bif Nat.blt x 136 then (bif Nat.beq x 133 then some (.getfield 7, 3) else none) else (bif Nat.beq x 136 then some (.aload_n 0, 1) else none))) else (bif Nat.blt x 140 then (bif Nat.beq x 137 then some (.getfield 95, 3) else none) else (bif Nat.blt x 142 then (bif Nat.beq x 140 then some (.iload 6, 2) else none) else (bif Nat.beq x 142 then some (.iastore, 1) else none))))) else (bif Nat.blt x 150 then (bif Nat.blt x 145 then (bif Nat.blt x 144 then (bif Nat.beq x 143 then some (.aload_n 0, 1) else none) else (bif Nat.beq x 144 then some (.dup, 1) else none)) else (bif Nat.blt x 148 then (bif Nat.beq x 145 then some (.getfield 95, 3) else none) else (bif Nat.blt x 149 then (bif Nat.beq x 148 then some (.iconst 1, 1) else none) else (bif Nat.beq x 149 then some (.iadd, 1) else none)))) else (bif Nat.blt x 159 then (bif Nat.blt x 153 then (bif Nat.beq x 150 then some (.putfield 95, 3) else none) else (bif Nat.blt x 156 then (bif Nat.beq x 153 then some (.iinc 5 1, 3) else none) else (bif Nat.beq x 156 then some (.goto (-50), 3) else none))) else (bif Nat.blt x 160 then (bif Nat.beq x 159 then some (.aload_n 0, 1) else none) else (bif Nat.blt x 163 then (bif Nat.beq x 160 then some (.getfield 95, 3) else none) else (bif Nat.beq x 163 then some (.ireturn, 1) else none)))))))
def q_t33 (x : Nat) : Option (Instr × Nat) := bif Nat.blt x 9 then (bif Nat.blt x 2 then (bif Nat.blt x 1 then (bif Nat.beq x 0 then some (.aload_n 0, 1) else none) else (bif Nat.beq x 1 then some (.iconst 0, 1) else none)) else (bif Nat.blt x 5 then (bif Nat.beq x 2 then some (.putfield 90, 3) else none) else (bif Nat.blt x 6 then (bif Nat.beq x 5 then some (.aload_n 0, 1) else none) else (bif Nat.beq x 6 then some (.getfield 95, 3) else none)))) else (bif Nat.blt x 12 then (bif Nat.blt x 10 then (bif Nat.beq x 9 then some (.istore_n 1, 1) else none) else (bif Nat.blt x 11 then (bif Nat.beq x 10 then some (.aload_n 0, 1) else none) else (bif Nat.beq x 11 then some (.iconst 0, 1) else none))) else (bif Nat.blt x 15 then (bif Nat.beq x 12 then some (.putfield 95, 3) else none) else (bif Nat.blt x 16 then (bif Nat.beq x 15 then some (.iload_n 1, 1) else none) else (bif Nat.beq x 16 then some (.ireturn, 1) else none))))
def q_t34 (x : Nat) : Option (Instr × Nat) := bif Nat.blt x 2 then (bif Nat.blt x 1 then (bif Nat.beq x 0 then some (.aload_n 0, 1) else none) else (bif Nat.beq x 1 then some (.iload_n 2, 1) else none)) else (bif Nat.blt x 5 then (bif Nat.beq x 2 then some (.putfield 13, 3) else none) else (bif Nat.blt x 6 then (bif Nat.beq x 5 then some (.iload_n 1, 1) else none) else (bif Nat.beq x 6 then some (.ireturn, 1) else none)))
def q_t35 (x : Nat) : Option (Instr × Nat) := bif Nat.blt x 189 then (bif Nat.blt x 93 then (bif Nat.blt x 38 then (bif Nat.blt x 19 then (bif Nat.blt x 10 then (bif Nat.blt x 5 then (bif Nat.blt x 1 then (bif Nat.beq x 0 then some (.aload_n 0, 1) else none) else (bif Nat.blt x 2 then (bif Nat.beq x 1 then some (.iconst 0, 1) else none) else (bif Nat.beq x 2 then some (.putfield 98, 3) else none))) else (bif Nat.blt x 6 then (bif Nat.beq x 5 then some (.aload_n 0, 1) else none) else (bif Nat.blt x 7 then (bif Nat.beq x 6 then some (.iconst 0, 1) else none) else (bif Nat.beq x 7 then some (.putfield 101, 3) else none)))) else (bif Nat.blt x 13 then (bif Nat.blt x 11 then (bif Nat.beq x 10 then some (.iconst 0, 1) else none) else (bif Nat.blt x 12 then (bif Nat.beq x 11 then some (.istore_n 1, 1) else none) else (bif Nat.beq x 12 then some (.iload_n 1, 1) else none))) else (bif Nat.blt x 15 then (bif Nat.beq x 13 then some (.bipush 8, 2) else none) else (bif Nat.blt x 18 then (bif Nat.beq x 15 then some (.if_icmp .ge 16, 3) else none) else (bif Nat.beq x 18 then some (.aload_n 0, 1) else none))))) else (bif Nat.blt x 31 then (bif Nat.blt x 24 then (bif Nat.blt x 22 then (bif Nat.beq x 19 then some (.getfield 32, 3) else none) else (bif Nat.blt x 23 then (bif Nat.beq x 22 then some (.iload_n 1, 1) else none) else (bif Nat.beq x 23 then some (.iconst (-1), 1) else none))) else (bif Nat.blt x 25 then (bif Nat.beq x 24 then some (.iastore, 1) else none) else (bif Nat.blt x 28 then (bif Nat.beq x 25 then some (.iinc 1 1, 3) else none) else (bif Nat.beq x 28 then some (.goto (-16), 3) else none)))) else (bif Nat.blt x 34 then (bif Nat.blt x 32 then (bif Nat.beq x 31 then some (.iconst 0, 1) else none) else (bif Nat.blt x 33 then (bif Nat.beq x 32 then some (.istore_n 1, 1) else none) else (bif Nat.beq x 33 then some (.iconst 0, 1) else none))) else (bif Nat.blt x 36 then (bif Nat.blt x 35 then (bif Nat.beq x 34 then some (.istore_n 2, 1) else none) else (bif Nat.beq x 35 then some (.iconst 0, 1) else none)) else (bif Nat.blt x 37 then (bif Nat.beq x 36 then some (.istore_n 3, 1) else none) else (bif Nat.beq x 37 then some (.iload_n 3, 1) else none)))))) else (bif Nat.blt x 64 then (bif Nat.blt x 50 then (bif Nat.blt x 45 then (bif Nat.blt x 39 then (bif Nat.beq x 38 then some (.aload_n 0, 1) else none) else (bif Nat.blt x 42 then (bif Nat.beq x 39 then some (.getfield 95, 3) else none) else (bif Nat.beq x 42 then some (.if_icmp .ge 305, 3) else none))) else (bif Nat.blt x 46 then (bif Nat.beq x 45 then some (.aload_n 0, 1) else none) else (bif Nat.blt x 49 then (bif Nat.beq x 46 then some (.getfield 7, 3) else none) else (bif Nat.beq x 49 then some (.iload_n 3, 1) else none)))) else (bif Nat.blt x 55 then (bif Nat.blt x 51 then (bif Nat.beq x 50 then some (.iaload, 1) else none) else (bif Nat.blt x 53 then (bif Nat.beq x 51 then some (.istore 4, 2) else none) else (bif Nat.beq x 53 then some (.iload 4, 2) else none))) else (bif Nat.blt x 60 then (bif Nat.blt x 58 then (bif Nat.beq x 55 then some (.invokestatic 104, 3) else none) else (bif Nat.beq x 58 then some (.istore 5, 2) else none)) else (bif Nat.blt x 62 then (bif Nat.beq x 60 then some (.iload 4, 2) else none) else (bif Nat.beq x 62 then some (.bipush 32, 2) else none))))) else (bif Nat.blt x 79 then (bif Nat.blt x 71 then (bif Nat.blt x 67 then (bif Nat.beq x 64 then some (.if_icmp .ne 6, 3) else none) else (bif Nat.blt x 70 then (bif Nat.beq x 67 then some (.goto 274, 3) else none) else (bif Nat.beq x 70 then some (.iload_n 1, 1) else none))) else (bif Nat.blt x 74 then (bif Nat.beq x 71 then some (.ifCond .ne 85, 3) else none) else (bif Nat.blt x 76 then (bif Nat.beq x 74 then some (.iload 5, 2) else none) else (bif Nat.beq x 76 then some (.ifCond .lt 20, 3) else none)))) else (bif Nat.blt x 86 then (bif Nat.blt x 81 then (bif Nat.beq x 79 then some (.iload 5, 2) else none) else (bif Nat.blt x 83 then (bif Nat.beq x 81 then some (.bipush 7, 2) else none) else (bif Nat.beq x 83 then some (.if_icmp .gt 13, 3) else none))) else (bif Nat.blt x 90 then (bif Nat.blt x 87 then (bif Nat.beq x 86 then some (.aload_n 0, 1) else none) else (bif Nat.beq x 87 then some (.getfield 32, 3) else none)) else (bif Nat.blt x 92 then (bif Nat.beq x 90 then some (.iload 5, 2) else none) else (bif Nat.beq x 92 then some (.iaload, 1) else none))))))) else (bif Nat.blt x 139 then (bif Nat.blt x 118 then (bif Nat.blt x 106 then (bif Nat.blt x 99 then (bif Nat.blt x 96 then (bif Nat.beq x 93 then some (.ifCond .lt 26, 3) else none) else (bif Nat.blt x 97 then (bif Nat.beq x 96 then some (.aload_n 0, 1) else none) else (bif Nat.beq x 97 then some (.iload 5, 2) else none))) else (bif Nat.blt x 102 then (bif Nat.beq x 99 then some (.ifCond .lt 10, 3) else none) else (bif Nat.blt x 104 then (bif Nat.beq x 102 then some (.iload 5, 2) else none) else (bif Nat.beq x 104 then some (.bipush 7, 2) else none)))) else (bif Nat.blt x 113 then (bif Nat.blt x 109 then (bif Nat.beq x 106 then some (.if_icmp .le 7, 3) else none) else (bif Nat.blt x 110 then (bif Nat.beq x 109 then some (.iconst 1, 1) else none) else (bif Nat.beq x 110 then some (.goto 4, 3) else none))) else (bif Nat.blt x 114 then (bif Nat.beq x 113 then some (.iconst 2, 1) else none) else (bif Nat.blt x 115 then (bif Nat.beq x 114 then some (.iload_n 3, 1) else none) else (bif Nat.beq x 115 then some (.invokevirtual 108, 3) else none))))) else (bif Nat.blt x 127 then (bif Nat.blt x 123 then (bif Nat.blt x 119 then (bif Nat.beq x 118 then some (.ireturn, 1) else none) else (bif Nat.blt x 120 then (bif Nat.beq x 119 then some (.aload_n 0, 1) else none) else (bif Nat.beq x 120 then some (.getfield 32, 3) else none))) else (bif Nat.blt x 125 then (bif Nat.beq x 123 then some (.iload 5, 2) else none) else (bif Nat.blt x 126 then (bif Nat.beq x 125 then some (.iload_n 3, 1) else none) else (bif Nat.beq x 126 then some (.iastore, 1) else none)))) else (bif Nat.blt x 132 then (bif Nat.blt x 128 then (bif Nat.beq x 127 then some (.aload_n 0, 1) else none) else (bif Nat.blt x 131 then (bif Nat.beq x 128 then some (.getfield 29, 3) else none) else (bif Nat.beq x 131 then some (.aload_n 0, 1) else none))) else (bif Nat.blt x 137 then (bif Nat.blt x 135 then (bif Nat.beq x 132 then some (.getfield 101, 3) else none) else (bif Nat.beq x 135 then some (.iload 5, 2) else none)) else (bif Nat.blt x 138 then (bif Nat.beq x 137 then some (.iastore, 1) else none) else (bif Nat.beq x 138 then some (.aload_n 0, 1) else none)))))) else (bif Nat.blt x 161 then (bif Nat.blt x 150 then (bif Nat.blt x 144 then (bif Nat.blt x 140 then (bif Nat.beq x 139 then some (.dup, 1) else none) else (bif Nat.blt x 143 then (bif Nat.beq x 140 then some (.getfield 101, 3) else none) else (bif Nat.beq x 143 then some (.iconst 1, 1) else none))) else (bif Nat.blt x 145 then (bif Nat.beq x 144 then some (.iadd, 1) else none) else (bif Nat.blt x 148 then (bif Nat.beq x 145 then some (.putfield 101, 3) else none) else (bif Nat.beq x 148 then some (.iload 5, 2) else none)))) else (bif Nat.blt x 153 then (bif Nat.blt x 151 then (bif Nat.beq x 150 then some (.istore_n 2, 1) else none) else (bif Nat.blt x 152 then (bif Nat.beq x 151 then some (.iconst 1, 1) else none) else (bif Nat.beq x 152 then some (.istore_n 1, 1) else none))) else (bif Nat.blt x 157 then (bif Nat.blt x 156 then (bif Nat.beq x 153 then some (.goto 188, 3) else none) else (bif Nat.beq x 156 then some (.iload_n 1, 1) else none)) else (bif Nat.blt x 158 then (bif Nat.beq x 157 then some (.iconst 1, 1) else none) else (bif Nat.beq x 158 then some (.if_icmp .eq 10, 3) else none))))) else (bif Nat.blt x 173 then (bif Nat.blt x 168 then (bif Nat.blt x 163 then (bif Nat.beq x 161 then some (.iload 4, 2) else none) else (bif Nat.blt x 165 then (bif Nat.beq x 163 then some (.bipush 124, 2) else none) else (bif Nat.beq x 165 then some (.if_icmp .ne 82, 3) else none))) else (bif Nat.blt x 169 then (bif Nat.beq x 168 then some (.iload_n 1, 1) else none) else (bif Nat.blt x 170 then (bif Nat.beq x 169 then some (.iconst 1, 1) else none) else (bif Nat.beq x 170 then some (.if_icmp .ne 10, 3) else none)))) else (bif Nat.blt x 180 then (bif Nat.blt x 175 then (bif Nat.beq x 173 then some (.iload 4, 2) else none) else (bif Nat.blt x 177 then (bif Nat.beq x 175 then some (.bipush 58, 2) else none) else (bif Nat.beq x 177 then some (.if_icmp .ne 12, 3) else none))) else (bif Nat.blt x 184 then (bif Nat.blt x 181 then (bif Nat.beq x 180 then some (.aload_n 0, 1) else none) else (bif Nat.beq x 181 then some (.getfield 98, 3) else none)) else (bif Nat.blt x 186 then (bif Nat.beq x 184 then some (.bipush 15, 2) else none) else (bif Nat.beq x 186 then some (.if_icmp .ne 26, 3) else none)))))))) else (bif Nat.blt x 281 then (bif Nat.blt x 232 then (bif Nat.blt x 211 then (bif Nat.blt x 199 then (bif Nat.blt x 192 then (bif Nat.blt x 190 then (bif Nat.beq x 189 then some (.aload_n 0, 1) else none) else (bif Nat.blt x 191 then (bif Nat.beq x 190 then some (.iload_n 1, 1) else none) else (bif Nat.beq x 191 then some (.iconst 1, 1) else none))) else (bif Nat.blt x 195 then (bif Nat.beq x 192 then some (.if_icmp .ne 14, 3) else none) else (bif Nat.blt x 197 then (bif Nat.beq x 195 then some (.iload 4, 2) else none) else (bif Nat.beq x 197 then some (.bipush 58, 2) else none)))) else (bif Nat.blt x 206 then (bif Nat.blt x 202 then (bif Nat.beq x 199 then some (.if_icmp .eq 7, 3) else none) else (bif Nat.blt x 203 then (bif Nat.beq x 202 then some (.iconst 1, 1) else none) else (bif Nat.beq x 203 then some (.goto 4, 3) else none))) else (bif Nat.blt x 207 then (bif Nat.beq x 206 then some (.iconst 4, 1) else none) else (bif Nat.blt x 208 then (bif Nat.beq x 207 then some (.iload_n 3, 1) else none) else (bif Nat.beq x 208 then some (.invokevirtual 108, 3) else none))))) else (bif Nat.blt x 219 then (bif Nat.blt x 214 then (bif Nat.blt x 212 then (bif Nat.beq x 211 then some (.ireturn, 1) else none) else (bif Nat.blt x 213 then (bif Nat.beq x 212 then some (.aload_n 0, 1) else none) else (bif Nat.beq x 213 then some (.dup, 1) else none))) else (bif Nat.blt x 217 then (bif Nat.beq x 214 then some (.getfield 98, 3) else none) else (bif Nat.blt x 218 then (bif Nat.beq x 217 then some (.iconst 1, 1) else none) else (bif Nat.beq x 218 then some (.iadd, 1) else none)))) else (bif Nat.blt x 226 then (bif Nat.blt x 222 then (bif Nat.beq x 219 then some (.putfield 98, 3) else none) else (bif Nat.blt x 223 then (bif Nat.beq x 222 then some (.aload_n 0, 1) else none) else (bif Nat.beq x 223 then some (.getfield 17, 3) else none))) else (bif Nat.blt x 230 then (bif Nat.blt x 227 then (bif Nat.beq x 226 then some (.aload_n 0, 1) else none) else (bif Nat.beq x 227 then some (.getfield 98, 3) else none)) else (bif Nat.blt x 231 then (bif Nat.beq x 230 then some (.iload_n 2, 1) else none) else (bif Nat.beq x 231 then some (.iastore, 1) else none)))))) else (bif Nat.blt x 255 then (bif Nat.blt x 242 then (bif Nat.blt x 237 then (bif Nat.blt x 233 then (bif Nat.beq x 232 then some (.aload_n 0, 1) else none) else (bif Nat.blt x 236 then (bif Nat.beq x 233 then some (.getfield 20, 3) else none) else (bif Nat.beq x 236 then some (.aload_n 0, 1) else none))) else (bif Nat.blt x 240 then (bif Nat.beq x 237 then some (.getfield 98, 3) else none) else (bif Nat.blt x 241 then (bif Nat.beq x 240 then some (.iconst 0, 1) else none) else (bif Nat.beq x 241 then some (.iastore, 1) else none)))) else (bif Nat.blt x 247 then (bif Nat.blt x 243 then (bif Nat.beq x 242 then some (.iconst 2, 1) else none) else (bif Nat.blt x 244 then (bif Nat.beq x 243 then some (.istore_n 1, 1) else none) else (bif Nat.beq x 244 then some (.goto 97, 3) else none))) else (bif Nat.blt x 251 then (bif Nat.blt x 249 then (bif Nat.beq x 247 then some (.iload 4, 2) else none) else (bif Nat.beq x 249 then some (.bipush 59, 2) else none)) else (bif Nat.blt x 254 then (bif Nat.beq x 251 then some (.if_icmp .ne 8, 3) else none) else (bif Nat.beq x 254 then some (.iconst 0, 1) else none))))) else (bif Nat.blt x 267 then (bif Nat.blt x 260 then (bif Nat.blt x 256 then (bif Nat.beq x 255 then some (.istore_n 1, 1) else none) else (bif Nat.blt x 259 then (bif Nat.beq x 256 then some (.goto 85, 3) else none) else (bif Nat.beq x 259 then some (.aload_n 0, 1) else none))) else (bif Nat.blt x 263 then (bif Nat.beq x 260 then some (.getfield 20, 3) else none) else (bif Nat.blt x 264 then (bif Nat.beq x 263 then some (.aload_n 0, 1) else none) else (bif Nat.beq x 264 then some (.getfield 98, 3) else none)))) else (bif Nat.blt x 272 then (bif Nat.blt x 268 then (bif Nat.beq x 267 then some (.iaload, 1) else none) else (bif Nat.blt x 270 then (bif Nat.beq x 268 then some (.istore 6, 2) else none) else (bif Nat.beq x 270 then some (.iload 5, 2) else none))) else (bif Nat.blt x 277 then (bif Nat.blt x 275 then (bif Nat.beq x 272 then some (.ifCond .lt 9, 3) else none) else (bif Nat.beq x 275 then some (.iload 6, 2) else none)) else (bif Nat.blt x 278 then (bif Nat.beq x 277 then some (.iconst 4, 1) else none) else (bif Nat.beq x 278 then some (.if_icmp .ne 19, 3) else none))))))) else (bif Nat.blt x 325 then (bif Nat.blt x 303 then (bif Nat.blt x 292 then (bif Nat.blt x 287 then (bif Nat.blt x 282 then (bif Nat.beq x 281 then some (.aload_n 0, 1) else none) else (bif Nat.blt x 284 then (bif Nat.beq x 282 then some (.iload 5, 2) else none) else (bif Nat.beq x 284 then some (.ifCond .ge 7, 3) else none))) else (bif Nat.blt x 288 then (bif Nat.beq x 287 then some (.iconst 1, 1) else none) else (bif Nat.blt x 291 then (bif Nat.beq x 288 then some (.goto 4, 3) else none) else (bif Nat.beq x 291 then some (.iconst 3, 1) else none)))) else (bif Nat.blt x 297 then (bif Nat.blt x 293 then (bif Nat.beq x 292 then some (.iload_n 3, 1) else none) else (bif Nat.blt x 296 then (bif Nat.beq x 293 then some (.invokevirtual 108, 3) else none) else (bif Nat.beq x 296 then some (.ireturn, 1) else none))) else (bif Nat.blt x 301 then (bif Nat.blt x 298 then (bif Nat.beq x 297 then some (.aload_n 0, 1) else none) else (bif Nat.beq x 298 then some (.getfield 23, 3) else none)) else (bif Nat.blt x 302 then (bif Nat.beq x 301 then some (.iconst 4, 1) else none) else (bif Nat.beq x 302 then some (.aload_n 0, 1) else none))))) else (bif Nat.blt x 313 then (bif Nat.blt x 309 then (bif Nat.blt x 306 then (bif Nat.beq x 303 then some (.getfield 98, 3) else none) else (bif Nat.blt x 307 then (bif Nat.beq x 306 then some (.imul, 1) else none) else (bif Nat.beq x 307 then some (.iload 6, 2) else none))) else (bif Nat.blt x 310 then (bif Nat.beq x 309 then some (.iadd, 1) else none) else (bif Nat.blt x 312 then (bif Nat.beq x 310 then some (.iload 5, 2) else none) else (bif Nat.beq x 312 then some (.iastore, 1) else none)))) else (bif Nat.blt x 318 then (bif Nat.blt x 314 then (bif Nat.beq x 313 then some (.aload_n 0, 1) else none) else (bif Nat.blt x 317 then (bif Nat.beq x 314 then some (.getfield 26, 3) else none) else (bif Nat.beq x 317 then some (.iconst 4, 1) else none))) else (bif Nat.blt x 322 then (bif Nat.blt x 319 then (bif Nat.beq x 318 then some (.aload_n 0, 1) else none) else (bif Nat.beq x 319 then some (.getfield 98, 3) else none)) else (bif Nat.blt x 323 then (bif Nat.beq x 322 then some (.imul, 1) else none) else (bif Nat.beq x 323 then some (.iload 6, 2) else none)))))) else (bif Nat.blt x 347 then (bif Nat.blt x 333 then (bif Nat.blt x 328 then (bif Nat.blt x 326 then (bif Nat.beq x 325 then some (.iadd, 1) else none) else (bif Nat.blt x 327 then (bif Nat.beq x 326 then some (.iload_n 3, 1) else none) else (bif Nat.beq x 327 then some (.iastore, 1) else none))) else (bif Nat.blt x 329 then (bif Nat.beq x 328 then some (.aload_n 0, 1) else none) else (bif Nat.blt x 332 then (bif Nat.beq x 329 then some (.getfield 20, 3) else none) else (bif Nat.beq x 332 then some (.aload_n 0, 1) else none)))) else (bif Nat.blt x 339 then (bif Nat.blt x 336 then (bif Nat.beq x 333 then some (.getfield 98, 3) else none) else (bif Nat.blt x 338 then (bif Nat.beq x 336 then some (.iload 6, 2) else none) else (bif Nat.beq x 338 then some (.iconst 1, 1) else none))) else (bif Nat.blt x 341 then (bif Nat.blt x 340 then (bif Nat.beq x 339 then some (.iadd, 1) else none) else (bif Nat.beq x 340 then some (.iastore, 1) else none)) else (bif Nat.blt x 344 then (bif Nat.beq x 341 then some (.iinc 3 1, 3) else none) else (bif Nat.beq x 344 then some (.goto (-307), 3) else none))))) else (bif Nat.blt x 359 then (bif Nat.blt x 352 then (bif Nat.blt x 348 then (bif Nat.beq x 347 then some (.iload_n 1, 1) else none) else (bif Nat.blt x 351 then (bif Nat.beq x 348 then some (.ifCond .ne 14, 3) else none) else (bif Nat.beq x 351 then some (.aload_n 0, 1) else none))) else (bif Nat.blt x 355 then (bif Nat.beq x 352 then some (.getfield 101, 3) else none) else (bif Nat.blt x 358 then (bif Nat.beq x 355 then some (.ifCond .le 7, 3) else none) else (bif Nat.beq x 358 then some (.iconst 0, 1) else none)))) else (bif Nat.blt x 364 then (bif Nat.blt x 362 then (bif Nat.beq x 359 then some (.goto 12, 3) else none) else (bif Nat.blt x 363 then (bif Nat.beq x 362 then some (.aload_n 0, 1) else none) else (bif Nat.beq x 363 then some (.iconst 1, 1) else none))) else (bif Nat.blt x 368 then (bif Nat.blt x 365 then (bif Nat.beq x 364 then some (.aload_n 0, 1) else none) else (bif Nat.beq x 365 then some (.getfield 95, 3) else none)) else (bif Nat.blt x 371 then (bif Nat.beq x 368 then some (.invokevirtual 108, 3) else none) else (bif Nat.beq x 371 then some (.ireturn, 1) else none))))))))
def q_t36 (x : Nat) : Option (Instr × Nat) := bif Nat.blt x 72 then (bif Nat.blt x 36 then (bif Nat.blt x 18 then (bif Nat.blt x 8 then (bif Nat.blt x 2 then (bif Nat.blt x 1 then (bif Nat.beq x 0 then some (.iconst 0, 1) else none) else (bif Nat.beq x 1 then some (.istore_n 1, 1) else none)) else (bif Nat.blt x 3 then (bif Nat.beq x 2 then some (.iload_n 1, 1) else none) else (bif Nat.blt x 5 then (bif Nat.beq x 3 then some (.bipush 8, 2) else none) else (bif Nat.beq x 5 then some (.if_icmp .ge 16, 3) else none)))) else (bif Nat.blt x 13 then (bif Nat.blt x 9 then (bif Nat.beq x 8 then some (.aload_n 0, 1) else none) else (bif Nat.blt x 12 then (bif Nat.beq x 9 then some (.getfield 35, 3) else none) else (bif Nat.beq x 12 then some (.iload_n 1, 1) else none))) else (bif Nat.blt x 14 then (bif Nat.beq x 13 then some (.iconst 0, 1) else none) else (bif Nat.blt x 15 then (bif Nat.beq x 14 then some (.bastore, 1) else none) else (bif Nat.beq x 15 then some (.iinc 1 1, 3) else none))))) else (bif Nat.blt x 26 then (bif Nat.blt x 22 then (bif Nat.blt x 21 then (bif Nat.beq x 18 then some (.goto (-16), 3) else none) else (bif Nat.beq x 21 then some (.iconst 0, 1) else none)) else (bif Nat.blt x 23 then (bif Nat.beq x 22 then some (.istore_n 1, 1) else none) else (bif Nat.blt x 24 then (bif Nat.beq x 23 then some (.iload_n 1, 1) else none) else (bif Nat.beq x 24 then some (.bipush 8, 2) else none)))) else (bif Nat.blt x 31 then (bif Nat.blt x 29 then (bif Nat.beq x 26 then some (.if_icmp .ge 126, 3) else none) else (bif Nat.blt x 30 then (bif Nat.beq x 29 then some (.iconst 1, 1) else none) else (bif Nat.beq x 30 then some (.istore_n 2, 1) else none))) else (bif Nat.blt x 32 then (bif Nat.beq x 31 then some (.iload_n 2, 1) else none) else (bif Nat.blt x 33 then (bif Nat.beq x 32 then some (.aload_n 0, 1) else none) else (bif Nat.beq x 33 then some (.getfield 98, 3) else none)))))) else (bif Nat.blt x 55 then (bif Nat.blt x 44 then (bif Nat.blt x 40 then (bif Nat.blt x 39 then (bif Nat.beq x 36 then some (.if_icmp .gt 110, 3) else none) else (bif Nat.beq x 39 then some (.iconst 1, 1) else none)) else (bif Nat.blt x 41 then (bif Nat.beq x 40 then some (.istore_n 3, 1) else none) else (bif Nat.blt x 42 then (bif Nat.beq x 41 then some (.iconst 0, 1) else none) else (bif Nat.beq x 42 then some (.istore 4, 2) else none)))) else (bif Nat.blt x 50 then (bif Nat.blt x 46 then (bif Nat.beq x 44 then some (.iload 4, 2) else none) else (bif Nat.blt x 47 then (bif Nat.beq x 46 then some (.aload_n 0, 1) else none) else (bif Nat.beq x 47 then some (.getfield 20, 3) else none))) else (bif Nat.blt x 51 then (bif Nat.beq x 50 then some (.iload_n 2, 1) else none) else (bif Nat.blt x 52 then (bif Nat.beq x 51 then some (.iaload, 1) else none) else (bif Nat.beq x 52 then some (.if_icmp .ge 54, 3) else none))))) else (bif Nat.blt x 64 then (bif Nat.blt x 59 then (bif Nat.blt x 56 then (bif Nat.beq x 55 then some (.iload_n 3, 1) else none) else (bif Nat.beq x 56 then some (.ifCond .eq 42, 3) else none)) else (bif Nat.blt x 60 then (bif Nat.beq x 59 then some (.aload_n 0, 1) else none) else (bif Nat.blt x 63 then (bif Nat.beq x 60 then some (.getfield 23, 3) else none) else (bif Nat.beq x 63 then some (.iconst 4, 1) else none)))) else (bif Nat.blt x 68 then (bif Nat.blt x 65 then (bif Nat.beq x 64 then some (.iload_n 2, 1) else none) else (bif Nat.blt x 66 then (bif Nat.beq x 65 then some (.imul, 1) else none) else (bif Nat.beq x 66 then some (.iload 4, 2) else none))) else (bif Nat.blt x 69 then (bif Nat.beq x 68 then some (.iadd, 1) else none) else (bif Nat.blt x 70 then (bif Nat.beq x 69 then some (.iaload, 1) else none) else (bif Nat.beq x 70 then some (.bipush 7, 2) else none))))))) else (bif Nat.blt x 111 then (bif Nat.blt x 90 then (bif Nat.blt x 83 then (bif Nat.blt x 76 then (bif Nat.blt x 75 then (bif Nat.beq x 72 then some (.if_icmp .gt 22, 3) else none) else (bif Nat.beq x 75 then some (.aload_n 0, 1) else none)) else (bif Nat.blt x 79 then (bif Nat.beq x 76 then some (.getfield 35, 3) else none) else (bif Nat.blt x 80 then (bif Nat.beq x 79 then some (.aload_n 0, 1) else none) else (bif Nat.beq x 80 then some (.getfield 23, 3) else none)))) else (bif Nat.blt x 86 then (bif Nat.blt x 84 then (bif Nat.beq x 83 then some (.iconst 4, 1) else none) else (bif Nat.blt x 85 then (bif Nat.beq x 84 then some (.iload_n 2, 1) else none) else (bif Nat.beq x 85 then some (.imul, 1) else none))) else (bif Nat.blt x 88 then (bif Nat.beq x 86 then some (.iload 4, 2) else none) else (bif Nat.blt x 89 then (bif Nat.beq x 88 then some (.iadd, 1) else none) else (bif Nat.beq x 89 then some (.iaload, 1) else none))))) else (bif Nat.blt x 99 then (bif Nat.blt x 94 then (bif Nat.blt x 91 then (bif Nat.beq x 90 then some (.baload, 1) else none) else (bif Nat.beq x 91 then some (.ifCond .eq 7, 3) else none)) else (bif Nat.blt x 95 then (bif Nat.beq x 94 then some (.iconst 1, 1) else none) else (bif Nat.blt x 98 then (bif Nat.beq x 95 then some (.goto 4, 3) else none) else (bif Nat.beq x 98 then some (.iconst 0, 1) else none)))) else (bif Nat.blt x 106 then (bif Nat.blt x 100 then (bif Nat.beq x 99 then some (.istore_n 3, 1) else none) else (bif Nat.blt x 103 then (bif Nat.beq x 100 then some (.iinc 4 1, 3) else none) else (bif Nat.beq x 103 then some (.goto (-59), 3) else none))) else (bif Nat.blt x 107 then (bif Nat.beq x 106 then some (.aload_n 0, 1) else none) else (bif Nat.blt x 110 then (bif Nat.beq x 107 then some (.getfield 35, 3) else none) else (bif Nat.beq x 110 then some (.aload_n 0, 1) else none)))))) else (bif Nat.blt x 130 then (bif Nat.blt x 120 then (bif Nat.blt x 115 then (bif Nat.blt x 114 then (bif Nat.beq x 111 then some (.getfield 17, 3) else none) else (bif Nat.beq x 114 then some (.iload_n 2, 1) else none)) else (bif Nat.blt x 116 then (bif Nat.beq x 115 then some (.iaload, 1) else none) else (bif Nat.blt x 117 then (bif Nat.beq x 116 then some (.aload_n 0, 1) else none) else (bif Nat.beq x 117 then some (.getfield 35, 3) else none)))) else (bif Nat.blt x 125 then (bif Nat.blt x 121 then (bif Nat.beq x 120 then some (.aload_n 0, 1) else none) else (bif Nat.blt x 124 then (bif Nat.beq x 121 then some (.getfield 17, 3) else none) else (bif Nat.beq x 124 then some (.iload_n 2, 1) else none))) else (bif Nat.blt x 126 then (bif Nat.beq x 125 then some (.iaload, 1) else none) else (bif Nat.blt x 127 then (bif Nat.beq x 126 then some (.baload, 1) else none) else (bif Nat.beq x 127 then some (.ifCond .ne 7, 3) else none))))) else (bif Nat.blt x 139 then (bif Nat.blt x 134 then (bif Nat.blt x 131 then (bif Nat.beq x 130 then some (.iload_n 3, 1) else none) else (bif Nat.beq x 131 then some (.ifCond .eq 7, 3) else none)) else (bif Nat.blt x 135 then (bif Nat.beq x 134 then some (.iconst 1, 1) else none) else (bif Nat.blt x 138 then (bif Nat.beq x 135 then some (.goto 4, 3) else none) else (bif Nat.beq x 138 then some (.iconst 0, 1) else none)))) else (bif Nat.blt x 146 then (bif Nat.blt x 140 then (bif Nat.beq x 139 then some (.bastore, 1) else none) else (bif Nat.blt x 143 then (bif Nat.beq x 140 then some (.iinc 2 1, 3) else none) else (bif Nat.beq x 143 then some (.goto (-112), 3) else none))) else (bif Nat.blt x 149 then (bif Nat.beq x 146 then some (.iinc 1 1, 3) else none) else (bif Nat.blt x 152 then (bif Nat.beq x 149 then some (.goto (-126), 3) else none) else (bif Nat.beq x 152 then some (.return_, 1) else none)))))))
def q_t37 (x : Nat) : Option (Instr × Nat) := bif Nat.blt x 62 then (bif Nat.blt x 32 then (bif Nat.blt x 14 then (bif Nat.blt x 5 then (bif Nat.blt x 2 then (bif Nat.blt x 1 then (bif Nat.beq x 0 then some (.iconst 0, 1) else none) else (bif Nat.beq x 1 then some (.istore_n 1, 1) else none)) else (bif Nat.blt x 3 then (bif Nat.beq x 2 then some (.iload_n 1, 1) else none) else (bif Nat.beq x 3 then some (.bipush 8, 2) else none))) else (bif Nat.blt x 9 then (bif Nat.blt x 8 then (bif Nat.beq x 5 then some (.if_icmp .ge 30, 3) else none) else (bif Nat.beq x 8 then some (.aload_n 0, 1) else none)) else (bif Nat.blt x 12 then (bif Nat.beq x 9 then some (.getfield 35, 3) else none) else (bif Nat.blt x 13 then (bif Nat.beq x 12 then some (.iload_n 1, 1) else none) else (bif Nat.beq x 13 then some (.iload_n 1, 1) else none))))) else (bif Nat.blt x 23 then (bif Nat.blt x 18 then (bif Nat.blt x 15 then (bif Nat.beq x 14 then some (.aload_n 0, 1) else none) else (bif Nat.beq x 15 then some (.getfield 29, 3) else none)) else (bif Nat.blt x 19 then (bif Nat.beq x 18 then some (.iconst 0, 1) else none) else (bif Nat.blt x 20 then (bif Nat.beq x 19 then some (.iaload, 1) else none) else (bif Nat.beq x 20 then some (.if_icmp .ne 7, 3) else none)))) else (bif Nat.blt x 27 then (bif Nat.blt x 24 then (bif Nat.beq x 23 then some (.iconst 1, 1) else none) else (bif Nat.beq x 24 then some (.goto 4, 3) else none)) else (bif Nat.blt x 28 then (bif Nat.beq x 27 then some (.iconst 0, 1) else none) else (bif Nat.blt x 29 then (bif Nat.beq x 28 then some (.bastore, 1) else none) else (bif Nat.beq x 29 then some (.iinc 1 1, 3) else none)))))) else (bif Nat.blt x 46 then (bif Nat.blt x 38 then (bif Nat.blt x 36 then (bif Nat.blt x 35 then (bif Nat.beq x 32 then some (.goto (-30), 3) else none) else (bif Nat.beq x 35 then some (.iconst 0, 1) else none)) else (bif Nat.blt x 37 then (bif Nat.beq x 36 then some (.istore_n 1, 1) else none) else (bif Nat.beq x 37 then some (.iload_n 1, 1) else none))) else (bif Nat.blt x 43 then (bif Nat.blt x 40 then (bif Nat.beq x 38 then some (.bipush 8, 2) else none) else (bif Nat.beq x 40 then some (.if_icmp .ge 88, 3) else none)) else (bif Nat.blt x 44 then (bif Nat.beq x 43 then some (.iconst 1, 1) else none) else (bif Nat.blt x 45 then (bif Nat.beq x 44 then some (.istore_n 2, 1) else none) else (bif Nat.beq x 45 then some (.iload_n 2, 1) else none))))) else (bif Nat.blt x 55 then (bif Nat.blt x 50 then (bif Nat.blt x 47 then (bif Nat.beq x 46 then some (.aload_n 0, 1) else none) else (bif Nat.beq x 47 then some (.getfield 98, 3) else none)) else (bif Nat.blt x 53 then (bif Nat.beq x 50 then some (.if_icmp .gt 72, 3) else none) else (bif Nat.blt x 54 then (bif Nat.beq x 53 then some (.iconst 0, 1) else none) else (bif Nat.beq x 54 then some (.istore_n 3, 1) else none)))) else (bif Nat.blt x 57 then (bif Nat.blt x 56 then (bif Nat.beq x 55 then some (.iload_n 3, 1) else none) else (bif Nat.beq x 56 then some (.aload_n 0, 1) else none)) else (bif Nat.blt x 60 then (bif Nat.beq x 57 then some (.getfield 20, 3) else none) else (bif Nat.blt x 61 then (bif Nat.beq x 60 then some (.iload_n 2, 1) else none) else (bif Nat.beq x 61 then some (.iaload, 1) else none))))))) else (bif Nat.blt x 94 then (bif Nat.blt x 79 then (bif Nat.blt x 70 then (bif Nat.blt x 66 then (bif Nat.blt x 65 then (bif Nat.beq x 62 then some (.if_icmp .ge 54, 3) else none) else (bif Nat.beq x 65 then some (.aload_n 0, 1) else none)) else (bif Nat.blt x 69 then (bif Nat.beq x 66 then some (.getfield 35, 3) else none) else (bif Nat.beq x 69 then some (.aload_n 0, 1) else none))) else (bif Nat.blt x 74 then (bif Nat.blt x 73 then (bif Nat.beq x 70 then some (.getfield 17, 3) else none) else (bif Nat.beq x 73 then some (.iload_n 2, 1) else none)) else (bif Nat.blt x 75 then (bif Nat.beq x 74 then some (.iaload, 1) else none) else (bif Nat.blt x 76 then (bif Nat.beq x 75 then some (.baload, 1) else none) else (bif Nat.beq x 76 then some (.ifCond .eq 34, 3) else none))))) else (bif Nat.blt x 86 then (bif Nat.blt x 83 then (bif Nat.blt x 80 then (bif Nat.beq x 79 then some (.aload_n 0, 1) else none) else (bif Nat.beq x 80 then some (.getfield 23, 3) else none)) else (bif Nat.blt x 84 then (bif Nat.beq x 83 then some (.iconst 4, 1) else none) else (bif Nat.blt x 85 then (bif Nat.beq x 84 then some (.iload_n 2, 1) else none) else (bif Nat.beq x 85 then some (.imul, 1) else none)))) else (bif Nat.blt x 88 then (bif Nat.blt x 87 then (bif Nat.beq x 86 then some (.iload_n 3, 1) else none) else (bif Nat.beq x 87 then some (.iadd, 1) else none)) else (bif Nat.blt x 89 then (bif Nat.beq x 88 then some (.iaload, 1) else none) else (bif Nat.blt x 91 then (bif Nat.beq x 89 then some (.bipush 8, 2) else none) else (bif Nat.beq x 91 then some (.if_icmp .ge 19, 3) else none)))))) else (bif Nat.blt x 107 then (bif Nat.blt x 102 then (bif Nat.blt x 98 then (bif Nat.blt x 95 then (bif Nat.beq x 94 then some (.aload_n 0, 1) else none) else (bif Nat.beq x 95 then some (.getfield 35, 3) else none)) else (bif Nat.blt x 99 then (bif Nat.beq x 98 then some (.aload_n 0, 1) else none) else (bif Nat.beq x 99 then some (.getfield 23, 3) else none))) else (bif Nat.blt x 104 then (bif Nat.blt x 103 then (bif Nat.beq x 102 then some (.iconst 4, 1) else none) else (bif Nat.beq x 103 then some (.iload_n 2, 1) else none)) else (bif Nat.blt x 105 then (bif Nat.beq x 104 then some (.imul, 1) else none) else (bif Nat.blt x 106 then (bif Nat.beq x 105 then some (.iload_n 3, 1) else none) else (bif Nat.beq x 106 then some (.iadd, 1) else none))))) else (bif Nat.blt x 116 then (bif Nat.blt x 109 then (bif Nat.blt x 108 then (bif Nat.beq x 107 then some (.iaload, 1) else none) else (bif Nat.beq x 108 then some (.iconst 1, 1) else none)) else (bif Nat.blt x 110 then (bif Nat.beq x 109 then some (.bastore, 1) else none) else (bif Nat.blt x 113 then (bif Nat.beq x 110 then some (.iinc 3 1, 3) else none) else (bif Nat.beq x 113 then some (.goto (-58), 3) else none)))) else (bif Nat.blt x 122 then (bif Nat.blt x 119 then (bif Nat.beq x 116 then some (.iinc 2 1, 3) else none) else (bif Nat.beq x 119 then some (.goto (-74), 3) else none)) else (bif Nat.blt x 125 then (bif Nat.beq x 122 then some (.iinc 1 1, 3) else none) else (bif Nat.blt x 128 then (bif Nat.beq x 125 then some (.goto (-88), 3) else none) else (bif Nat.beq x 128 then some (.return_, 1) else none)))))))
def q_t38 (x : Nat) : Option (Instr × Nat) := bif Nat.blt x 21 then (bif Nat.blt x 10 then (bif Nat.blt x 3 then (bif Nat.blt x 1 then (bif Nat.beq x 0 then some (.iconst 0, 1) else none) else (bif Nat.blt x 2 then (bif Nat.beq x 1 then some (.istore_n 1, 1) else none) else (bif Nat.beq x 2 then some (.iload_n 1, 1) else none))) else (bif Nat.blt x 4 then (bif Nat.beq x 3 then some (.aload_n 0, 1) else none) else (bif Nat.blt x 7 then (bif Nat.beq x 4 then some (.getfield 101, 3) else none) else (bif Nat.beq x 7 then some (.if_icmp .ge 35, 3) else none)))) else (bif Nat.blt x 15 then (bif Nat.blt x 11 then (bif Nat.beq x 10 then some (.aload_n 0, 1) else none) else (bif Nat.blt x 14 then (bif Nat.beq x 11 then some (.getfield 35, 3) else none) else (bif Nat.beq x 14 then some (.aload_n 0, 1) else none))) else (bif Nat.blt x 19 then (bif Nat.blt x 18 then (bif Nat.beq x 15 then some (.getfield 29, 3) else none) else (bif Nat.beq x 18 then some (.iload_n 1, 1) else none)) else (bif Nat.blt x 20 then (bif Nat.beq x 19 then some (.iaload, 1) else none) else (bif Nat.beq x 20 then some (.baload, 1) else none))))) else (bif Nat.blt x 33 then (bif Nat.blt x 28 then (bif Nat.blt x 24 then (bif Nat.beq x 21 then some (.ifCond .ne 15, 3) else none) else (bif Nat.blt x 25 then (bif Nat.beq x 24 then some (.aload_n 0, 1) else none) else (bif Nat.beq x 25 then some (.getfield 32, 3) else none))) else (bif Nat.blt x 29 then (bif Nat.beq x 28 then some (.aload_n 0, 1) else none) else (bif Nat.blt x 32 then (bif Nat.beq x 29 then some (.getfield 29, 3) else none) else (bif Nat.beq x 32 then some (.iload_n 1, 1) else none)))) else (bif Nat.blt x 36 then (bif Nat.blt x 34 then (bif Nat.beq x 33 then some (.iaload, 1) else none) else (bif Nat.blt x 35 then (bif Nat.beq x 34 then some (.iaload, 1) else none) else (bif Nat.beq x 35 then some (.ireturn, 1) else none))) else (bif Nat.blt x 42 then (bif Nat.blt x 39 then (bif Nat.beq x 36 then some (.iinc 1 1, 3) else none) else (bif Nat.beq x 39 then some (.goto (-37), 3) else none)) else (bif Nat.blt x 43 then (bif Nat.beq x 42 then some (.iconst (-1), 1) else none) else (bif Nat.beq x 43 then some (.ireturn, 1) else none)))))
def q_t39 (x : Nat) : Option (Instr × Nat) := bif Nat.blt x 58 then (bif Nat.blt x 29 then (bif Nat.blt x 13 then (bif Nat.blt x 4 then (bif Nat.blt x 2 then (bif Nat.blt x 1 then (bif Nat.beq x 0 then some (.iconst 1, 1) else none) else (bif Nat.beq x 1 then some (.istore_n 1, 1) else none)) else (bif Nat.blt x 3 then (bif Nat.beq x 2 then some (.iload_n 1, 1) else none) else (bif Nat.beq x 3 then some (.aload_n 0, 1) else none))) else (bif Nat.blt x 10 then (bif Nat.blt x 7 then (bif Nat.beq x 4 then some (.getfield 98, 3) else none) else (bif Nat.beq x 7 then some (.if_icmp .gt 76, 3) else none)) else (bif Nat.blt x 11 then (bif Nat.beq x 10 then some (.iconst 0, 1) else none) else (bif Nat.blt x 12 then (bif Nat.beq x 11 then some (.istore_n 2, 1) else none) else (bif Nat.beq x 12 then some (.iload_n 2, 1) else none))))) else (bif Nat.blt x 22 then (bif Nat.blt x 17 then (bif Nat.blt x 14 then (bif Nat.beq x 13 then some (.aload_n 0, 1) else none) else (bif Nat.beq x 14 then some (.getfield 20, 3) else none)) else (bif Nat.blt x 18 then (bif Nat.beq x 17 then some (.iload_n 1, 1) else none) else (bif Nat.blt x 19 then (bif Nat.beq x 18 then some (.iaload, 1) else none) else (bif Nat.beq x 19 then some (.if_icmp .ge 58, 3) else none)))) else (bif Nat.blt x 26 then (bif Nat.blt x 23 then (bif Nat.beq x 22 then some (.aload_n 0, 1) else none) else (bif Nat.beq x 23 then some (.getfield 23, 3) else none)) else (bif Nat.blt x 27 then (bif Nat.beq x 26 then some (.iconst 4, 1) else none) else (bif Nat.blt x 28 then (bif Nat.beq x 27 then some (.iload_n 1, 1) else none) else (bif Nat.beq x 28 then some (.imul, 1) else none)))))) else (bif Nat.blt x 46 then (bif Nat.blt x 37 then (bif Nat.blt x 31 then (bif Nat.blt x 30 then (bif Nat.beq x 29 then some (.iload_n 2, 1) else none) else (bif Nat.beq x 30 then some (.iadd, 1) else none)) else (bif Nat.blt x 32 then (bif Nat.beq x 31 then some (.iaload, 1) else none) else (bif Nat.blt x 34 then (bif Nat.beq x 32 then some (.bipush 8, 2) else none) else (bif Nat.beq x 34 then some (.if_icmp .ge 37, 3) else none)))) else (bif Nat.blt x 41 then (bif Nat.blt x 38 then (bif Nat.beq x 37 then some (.aload_n 0, 1) else none) else (bif Nat.beq x 38 then some (.getfield 32, 3) else none)) else (bif Nat.blt x 42 then (bif Nat.beq x 41 then some (.aload_n 0, 1) else none) else (bif Nat.blt x 45 then (bif Nat.beq x 42 then some (.getfield 23, 3) else none) else (bif Nat.beq x 45 then some (.iconst 4, 1) else none))))) else (bif Nat.blt x 51 then (bif Nat.blt x 48 then (bif Nat.blt x 47 then (bif Nat.beq x 46 then some (.iload_n 1, 1) else none) else (bif Nat.beq x 47 then some (.imul, 1) else none)) else (bif Nat.blt x 49 then (bif Nat.beq x 48 then some (.iload_n 2, 1) else none) else (bif Nat.blt x 50 then (bif Nat.beq x 49 then some (.iadd, 1) else none) else (bif Nat.beq x 50 then some (.iaload, 1) else none)))) else (bif Nat.blt x 55 then (bif Nat.blt x 52 then (bif Nat.beq x 51 then some (.iaload, 1) else none) else (bif Nat.beq x 52 then some (.ifCond .ge 19, 3) else none)) else (bif Nat.blt x 56 then (bif Nat.beq x 55 then some (.aload_n 0, 1) else none) else (bif Nat.blt x 57 then (bif Nat.beq x 56 then some (.iconst 5, 1) else none) else (bif Nat.beq x 57 then some (.aload_n 0, 1) else none))))))) else (bif Nat.blt x 93 then (bif Nat.blt x 71 then (bif Nat.blt x 64 then (bif Nat.blt x 62 then (bif Nat.blt x 61 then (bif Nat.beq x 58 then some (.getfield 26, 3) else none) else (bif Nat.beq x 61 then some (.iconst 4, 1) else none)) else (bif Nat.blt x 63 then (bif Nat.beq x 62 then some (.iload_n 1, 1) else none) else (bif Nat.beq x 63 then some (.imul, 1) else none))) else (bif Nat.blt x 66 then (bif Nat.blt x 65 then (bif Nat.beq x 64 then some (.iload_n 2, 1) else none) else (bif Nat.beq x 65 then some (.iadd, 1) else none)) else (bif Nat.blt x 67 then (bif Nat.beq x 66 then some (.iaload, 1) else none) else (bif Nat.blt x 70 then (bif Nat.beq x 67 then some (.invokevirtual 108, 3) else none) else (bif Nat.beq x 70 then some (.ireturn, 1) else none))))) else (bif Nat.blt x 84 then (bif Nat.blt x 77 then (bif Nat.blt x 74 then (bif Nat.beq x 71 then some (.iinc 2 1, 3) else none) else (bif Nat.beq x 74 then some (.goto (-62), 3) else none)) else (bif Nat.blt x 80 then (bif Nat.beq x 77 then some (.iinc 1 1, 3) else none) else (bif Nat.blt x 83 then (bif Nat.beq x 80 then some (.goto (-78), 3) else none) else (bif Nat.beq x 83 then some (.aload_n 0, 1) else none)))) else (bif Nat.blt x 88 then (bif Nat.blt x 87 then (bif Nat.beq x 84 then some (.invokevirtual 112, 3) else none) else (bif Nat.beq x 87 then some (.aload_n 0, 1) else none)) else (bif Nat.blt x 91 then (bif Nat.beq x 88 then some (.invokevirtual 115, 3) else none) else (bif Nat.blt x 92 then (bif Nat.beq x 91 then some (.istore_n 1, 1) else none) else (bif Nat.beq x 92 then some (.iload_n 1, 1) else none)))))) else (bif Nat.blt x 112 then (bif Nat.blt x 103 then (bif Nat.blt x 97 then (bif Nat.blt x 96 then (bif Nat.beq x 93 then some (.ifCond .lt 11, 3) else none) else (bif Nat.beq x 96 then some (.aload_n 0, 1) else none)) else (bif Nat.blt x 99 then (bif Nat.beq x 97 then some (.bipush 6, 2) else none) else (bif Nat.blt x 100 then (bif Nat.beq x 99 then some (.iload_n 1, 1) else none) else (bif Nat.beq x 100 then some (.invokevirtual 108, 3) else none)))) else (bif Nat.blt x 105 then (bif Nat.blt x 104 then (bif Nat.beq x 103 then some (.ireturn, 1) else none) else (bif Nat.beq x 104 then some (.aload_n 0, 1) else none)) else (bif Nat.blt x 108 then (bif Nat.beq x 105 then some (.invokevirtual 119, 3) else none) else (bif Nat.blt x 109 then (bif Nat.beq x 108 then some (.aload_n 0, 1) else none) else (bif Nat.beq x 109 then some (.invokevirtual 115, 3) else none))))) else (bif Nat.blt x 120 then (bif Nat.blt x 114 then (bif Nat.blt x 113 then (bif Nat.beq x 112 then some (.istore_n 1, 1) else none) else (bif Nat.beq x 113 then some (.iload_n 1, 1) else none)) else (bif Nat.blt x 117 then (bif Nat.beq x 114 then some (.ifCond .lt 13, 3) else none) else (bif Nat.blt x 118 then (bif Nat.beq x 117 then some (.aload_n 0, 1) else none) else (bif Nat.beq x 118 then some (.bipush 7, 2) else none)))) else (bif Nat.blt x 124 then (bif Nat.blt x 121 then (bif Nat.beq x 120 then some (.iload_n 1, 1) else none) else (bif Nat.beq x 121 then some (.invokevirtual 108, 3) else none)) else (bif Nat.blt x 127 then (bif Nat.beq x 124 then some (.goto 4, 3) else none) else (bif Nat.blt x 128 then (bif Nat.beq x 127 then some (.iconst 0, 1) else none) else (bif Nat.beq x 128 then some (.ireturn, 1) else none)))))))
def q_t40 (x : Nat) : Option (Instr × Nat) := bif Nat.blt x 49 then (bif Nat.blt x 24 then (bif Nat.blt x 11 then (bif Nat.blt x 5 then (bif Nat.blt x 1 then (bif Nat.beq x 0 then some (.aload_n 0, 1) else none) else (bif Nat.blt x 2 then (bif Nat.beq x 1 then some (.iconst 0, 1) else none) else (bif Nat.beq x 2 then some (.putfield 90, 3) else none))) else (bif Nat.blt x 7 then (bif Nat.blt x 6 then (bif Nat.beq x 5 then some (.aload_n 0, 1) else none) else (bif Nat.beq x 6 then some (.iconst 0, 1) else none)) else (bif Nat.blt x 10 then (bif Nat.beq x 7 then some (.putfield 122, 3) else none) else (bif Nat.beq x 10 then some (.aload_n 0, 1) else none)))) else (bif Nat.blt x 16 then (bif Nat.blt x 12 then (bif Nat.beq x 11 then some (.iconst 0, 1) else none) else (bif Nat.blt x 15 then (bif Nat.beq x 12 then some (.putfield 126, 3) else none) else (bif Nat.beq x 15 then some (.aload_n 0, 1) else none))) else (bif Nat.blt x 20 then (bif Nat.blt x 17 then (bif Nat.beq x 16 then some (.iconst (-1), 1) else none) else (bif Nat.beq x 17 then some (.putfield 13, 3) else none)) else (bif Nat.blt x 21 then (bif Nat.beq x 20 then some (.aload_n 0, 1) else none) else (bif Nat.beq x 21 then some (.invokevirtual 129, 3) else none))))) else (bif Nat.blt x 37 then (bif Nat.blt x 29 then (bif Nat.blt x 25 then (bif Nat.beq x 24 then some (.istore_n 1, 1) else none) else (bif Nat.blt x 26 then (bif Nat.beq x 25 then some (.iload_n 1, 1) else none) else (bif Nat.beq x 26 then some (.ifCond .ne 10, 3) else none))) else (bif Nat.blt x 33 then (bif Nat.blt x 30 then (bif Nat.beq x 29 then some (.aload_n 0, 1) else none) else (bif Nat.beq x 30 then some (.invokevirtual 132, 3) else none)) else (bif Nat.blt x 36 then (bif Nat.beq x 33 then some (.goto 4, 3) else none) else (bif Nat.beq x 36 then some (.iload_n 1, 1) else none)))) else (bif Nat.blt x 43 then (bif Nat.blt x 39 then (bif Nat.blt x 38 then (bif Nat.beq x 37 then some (.istore_n 1, 1) else none) else (bif Nat.beq x 38 then some (.iload_n 1, 1) else none)) else (bif Nat.blt x 42 then (bif Nat.beq x 39 then some (.ifCond .eq 5, 3) else none) else (bif Nat.beq x 42 then some (.iload_n 1, 1) else none))) else (bif Nat.blt x 45 then (bif Nat.blt x 44 then (bif Nat.beq x 43 then some (.ireturn, 1) else none) else (bif Nat.beq x 44 then some (.aload_n 0, 1) else none)) else (bif Nat.blt x 48 then (bif Nat.beq x 45 then some (.getfield 17, 3) else none) else (bif Nat.beq x 48 then some (.iconst 0, 1) else none)))))) else (bif Nat.blt x 69 then (bif Nat.blt x 58 then (bif Nat.blt x 52 then (bif Nat.blt x 50 then (bif Nat.beq x 49 then some (.iconst (-1), 1) else none) else (bif Nat.blt x 51 then (bif Nat.beq x 50 then some (.iastore, 1) else none) else (bif Nat.beq x 51 then some (.aload_n 0, 1) else none))) else (bif Nat.blt x 56 then (bif Nat.blt x 55 then (bif Nat.beq x 52 then some (.getfield 20, 3) else none) else (bif Nat.beq x 55 then some (.iconst 0, 1) else none)) else (bif Nat.blt x 57 then (bif Nat.beq x 56 then some (.iconst 1, 1) else none) else (bif Nat.beq x 57 then some (.iastore, 1) else none)))) else (bif Nat.blt x 63 then (bif Nat.blt x 59 then (bif Nat.beq x 58 then some (.aload_n 0, 1) else none) else (bif Nat.blt x 62 then (bif Nat.beq x 59 then some (.getfield 23, 3) else none) else (bif Nat.beq x 62 then some (.iconst 0, 1) else none))) else (bif Nat.blt x 67 then (bif Nat.blt x 64 then (bif Nat.beq x 63 then some (.aload_n 0, 1) else none) else (bif Nat.beq x 64 then some (.getfield 29, 3) else none)) else (bif Nat.blt x 68 then (bif Nat.beq x 67 then some (.iconst 0, 1) else none) else (bif Nat.beq x 68 then some (.iaload, 1) else none))))) else (bif Nat.blt x 81 then (bif Nat.blt x 74 then (bif Nat.blt x 70 then (bif Nat.beq x 69 then some (.iastore, 1) else none) else (bif Nat.blt x 71 then (bif Nat.beq x 70 then some (.aload_n 0, 1) else none) else (bif Nat.beq x 71 then some (.invokevirtual 135, 3) else none))) else (bif Nat.blt x 79 then (bif Nat.blt x 77 then (bif Nat.beq x 74 then some (.ifCond .ne 6, 3) else none) else (bif Nat.beq x 77 then some (.bipush 8, 2) else none)) else (bif Nat.blt x 80 then (bif Nat.beq x 79 then some (.ireturn, 1) else none) else (bif Nat.beq x 80 then some (.aload_n 0, 1) else none)))) else (bif Nat.blt x 89 then (bif Nat.blt x 85 then (bif Nat.blt x 84 then (bif Nat.beq x 81 then some (.invokevirtual 139, 3) else none) else (bif Nat.beq x 84 then some (.aload_n 0, 1) else none)) else (bif Nat.blt x 88 then (bif Nat.beq x 85 then some (.invokevirtual 142, 3) else none) else (bif Nat.beq x 88 then some (.aload_n 0, 1) else none))) else (bif Nat.blt x 93 then (bif Nat.blt x 90 then (bif Nat.beq x 89 then some (.iconst 1, 1) else none) else (bif Nat.beq x 90 then some (.putfield 126, 3) else none)) else (bif Nat.blt x 94 then (bif Nat.beq x 93 then some (.iconst 0, 1) else none) else (bif Nat.beq x 94 then some (.ireturn, 1) else none))))))
def q_t41 (x : Nat) : Option (Instr × Nat) := bif Nat.blt x 5 then (bif Nat.blt x 1 then (bif Nat.beq x 0 then some (.aload_n 0, 1) else none) else (bif Nat.blt x 2 then (bif Nat.beq x 1 then some (.iconst 0, 1) else none) else (bif Nat.beq x 2 then some (.putfield 90, 3) else none))) else (bif Nat.blt x 6 then (bif Nat.beq x 5 then some (.aload_n 0, 1) else none) else (bif Nat.blt x 9 then (bif Nat.beq x 6 then some (.getfield 13, 3) else none) else (bif Nat.beq x 9 then some (.ireturn, 1) else none)))
def q_t42 (x : Nat) : Option (Instr × Nat) := bif Nat.blt x 60 then (bif Nat.blt x 28 then (bif Nat.blt x 11 then (bif Nat.blt x 6 then (bif Nat.blt x 2 then (bif Nat.blt x 1 then (bif Nat.beq x 0 then some (.iconst 1, 1) else none) else (bif Nat.beq x 1 then some (.istore_n 1, 1) else none)) else (bif Nat.blt x 3 then (bif Nat.beq x 2 then some (.iload_n 1, 1) else none) else (bif Nat.beq x 3 then some (.ifCond .eq 133, 3) else none))) else (bif Nat.blt x 8 then (bif Nat.blt x 7 then (bif Nat.beq x 6 then some (.iconst 0, 1) else none) else (bif Nat.beq x 7 then some (.istore_n 1, 1) else none)) else (bif Nat.blt x 9 then (bif Nat.beq x 8 then some (.iconst 0, 1) else none) else (bif Nat.blt x 10 then (bif Nat.beq x 9 then some (.istore_n 2, 1) else none) else (bif Nat.beq x 10 then some (.iload_n 2, 1) else none))))) else (bif Nat.blt x 21 then (bif Nat.blt x 17 then (bif Nat.blt x 14 then (bif Nat.beq x 11 then some (.sipush 128, 3) else none) else (bif Nat.beq x 14 then some (.if_icmp .ge 119, 3) else none)) else (bif Nat.blt x 18 then (bif Nat.beq x 17 then some (.iload_n 2, 1) else none) else (bif Nat.blt x 20 then (bif Nat.beq x 18 then some (.bipush 8, 2) else none) else (bif Nat.beq x 20 then some (.idiv, 1) else none)))) else (bif Nat.blt x 23 then (bif Nat.blt x 22 then (bif Nat.beq x 21 then some (.istore_n 3, 1) else none) else (bif Nat.beq x 22 then some (.aload_n 0, 1) else none)) else (bif Nat.blt x 26 then (bif Nat.beq x 23 then some (.getfield 57, 3) else none) else (bif Nat.blt x 27 then (bif Nat.beq x 26 then some (.iload_n 2, 1) else none) else (bif Nat.beq x 27 then some (.baload, 1) else none)))))) else (bif Nat.blt x 45 then (bif Nat.blt x 36 then (bif Nat.blt x 32 then (bif Nat.blt x 31 then (bif Nat.beq x 28 then some (.ifCond .eq 32, 3) else none) else (bif Nat.beq x 31 then some (.iload_n 2, 1) else none)) else (bif Nat.blt x 34 then (bif Nat.beq x 32 then some (.bipush 8, 2) else none) else (bif Nat.blt x 35 then (bif Nat.beq x 34 then some (.irem, 1) else none) else (bif Nat.beq x 35 then some (.aload_n 0, 1) else none)))) else (bif Nat.blt x 40 then (bif Nat.blt x 39 then (bif Nat.beq x 36 then some (.getfield 20, 3) else none) else (bif Nat.beq x 39 then some (.iload_n 3, 1) else none)) else (bif Nat.blt x 41 then (bif Nat.beq x 40 then some (.iaload, 1) else none) else (bif Nat.blt x 44 then (bif Nat.beq x 41 then some (.if_icmp .ge 19, 3) else none) else (bif Nat.beq x 44 then some (.aload_n 0, 1) else none))))) else (bif Nat.blt x 52 then (bif Nat.blt x 49 then (bif Nat.blt x 48 then (bif Nat.beq x 45 then some (.getfield 23, 3) else none) else (bif Nat.beq x 48 then some (.iconst 4, 1) else none)) else (bif Nat.blt x 50 then (bif Nat.beq x 49 then some (.iload_n 3, 1) else none) else (bif Nat.blt x 51 then (bif Nat.beq x 50 then some (.imul, 1) else none) else (bif Nat.beq x 51 then some (.iload_n 2, 1) else none)))) else (bif Nat.blt x 55 then (bif Nat.blt x 54 then (bif Nat.beq x 52 then some (.bipush 8, 2) else none) else (bif Nat.beq x 54 then some (.irem, 1) else none)) else (bif Nat.blt x 56 then (bif Nat.beq x 55 then some (.iadd, 1) else none) else (bif Nat.blt x 57 then (bif Nat.beq x 56 then some (.iaload, 1) else none) else (bif Nat.beq x 57 then some (.goto 5, 3) else none))))))) else (bif Nat.blt x 99 then (bif Nat.blt x 78 then (bif Nat.blt x 67 then (bif Nat.blt x 64 then (bif Nat.blt x 62 then (bif Nat.beq x 60 then some (.bipush 8, 2) else none) else (bif Nat.beq x 62 then some (.istore 4, 2) else none)) else (bif Nat.blt x 65 then (bif Nat.beq x 64 then some (.iconst 1, 1) else none) else (bif Nat.beq x 65 then some (.istore 5, 2) else none))) else (bif Nat.blt x 70 then (bif Nat.blt x 69 then (bif Nat.beq x 67 then some (.iload 5, 2) else none) else (bif Nat.beq x 69 then some (.aload_n 0, 1) else none)) else (bif Nat.blt x 73 then (bif Nat.beq x 70 then some (.getfield 98, 3) else none) else (bif Nat.blt x 76 then (bif Nat.beq x 73 then some (.if_icmp .gt 54, 3) else none) else (bif Nat.beq x 76 then some (.iload 4, 2) else none))))) else (bif Nat.blt x 89 then (bif Nat.blt x 83 then (bif Nat.blt x 80 then (bif Nat.beq x 78 then some (.bipush 8, 2) else none) else (bif Nat.beq x 80 then some (.if_icmp .ge 47, 3) else none)) else (bif Nat.blt x 84 then (bif Nat.beq x 83 then some (.aload_n 0, 1) else none) else (bif Nat.blt x 87 then (bif Nat.beq x 84 then some (.getfield 17, 3) else none) else (bif Nat.beq x 87 then some (.iload 5, 2) else none)))) else (bif Nat.blt x 92 then (bif Nat.blt x 90 then (bif Nat.beq x 89 then some (.iaload, 1) else none) else (bif Nat.beq x 90 then some (.iload 4, 2) else none)) else (bif Nat.blt x 95 then (bif Nat.beq x 92 then some (.if_icmp .ne 29, 3) else none) else (bif Nat.blt x 96 then (bif Nat.beq x 95 then some (.aload_n 0, 1) else none) else (bif Nat.beq x 96 then some (.getfield 57, 3) else none)))))) else (bif Nat.blt x 117 then (bif Nat.blt x 108 then (bif Nat.blt x 103 then (bif Nat.blt x 101 then (bif Nat.beq x 99 then some (.bipush 8, 2) else none) else (bif Nat.beq x 101 then some (.iload 5, 2) else none)) else (bif Nat.blt x 104 then (bif Nat.beq x 103 then some (.imul, 1) else none) else (bif Nat.blt x 105 then (bif Nat.beq x 104 then some (.baload, 1) else none) else (bif Nat.beq x 105 then some (.ifCond .ne 16, 3) else none)))) else (bif Nat.blt x 112 then (bif Nat.blt x 109 then (bif Nat.beq x 108 then some (.aload_n 0, 1) else none) else (bif Nat.beq x 109 then some (.getfield 57, 3) else none)) else (bif Nat.blt x 114 then (bif Nat.beq x 112 then some (.bipush 8, 2) else none) else (bif Nat.blt x 116 then (bif Nat.beq x 114 then some (.iload 5, 2) else none) else (bif Nat.beq x 116 then some (.imul, 1) else none))))) else (bif Nat.blt x 124 then (bif Nat.blt x 119 then (bif Nat.blt x 118 then (bif Nat.beq x 117 then some (.iconst 1, 1) else none) else (bif Nat.beq x 118 then some (.bastore, 1) else none)) else (bif Nat.blt x 120 then (bif Nat.beq x 119 then some (.iconst 1, 1) else none) else (bif Nat.blt x 121 then (bif Nat.beq x 120 then some (.istore_n 1, 1) else none) else (bif Nat.beq x 121 then some (.iinc 5 1, 3) else none)))) else (bif Nat.blt x 130 then (bif Nat.blt x 127 then (bif Nat.beq x 124 then some (.goto (-57), 3) else none) else (bif Nat.beq x 127 then some (.iinc 2 1, 3) else none)) else (bif Nat.blt x 133 then (bif Nat.beq x 130 then some (.goto (-120), 3) else none) else (bif Nat.blt x 136 then (bif Nat.beq x 133 then some (.goto (-131), 3) else none) else (bif Nat.beq x 136 then some (.return_, 1) else none)))))))
def q_t43 (x : Nat) : Option (Instr × Nat) := bif Nat.blt x 67 then (bif Nat.blt x 33 then (bif Nat.blt x 15 then (bif Nat.blt x 6 then (bif Nat.blt x 4 then (bif Nat.blt x 1 then (bif Nat.beq x 0 then some (.aload_n 0, 1) else none) else (bif Nat.beq x 1 then some (.invokevirtual 145, 3) else none)) else (bif Nat.blt x 5 then (bif Nat.beq x 4 then some (.iconst 0, 1) else none) else (bif Nat.beq x 5 then some (.istore_n 1, 1) else none))) else (bif Nat.blt x 8 then (bif Nat.blt x 7 then (bif Nat.beq x 6 then some (.iload_n 1, 1) else none) else (bif Nat.beq x 7 then some (.aload_n 0, 1) else none)) else (bif Nat.blt x 11 then (bif Nat.beq x 8 then some (.getfield 148, 3) else none) else (bif Nat.blt x 14 then (bif Nat.beq x 11 then some (.if_icmp .ge 63, 3) else none) else (bif Nat.beq x 14 then some (.iconst 1, 1) else none))))) else (bif Nat.blt x 22 then (bif Nat.blt x 17 then (bif Nat.blt x 16 then (bif Nat.beq x 15 then some (.istore_n 2, 1) else none) else (bif Nat.beq x 16 then some (.iconst 0, 1) else none)) else (bif Nat.blt x 18 then (bif Nat.beq x 17 then some (.istore_n 3, 1) else none) else (bif Nat.blt x 19 then (bif Nat.beq x 18 then some (.iload_n 3, 1) else none) else (bif Nat.beq x 19 then some (.sipush 128, 3) else none)))) else (bif Nat.blt x 26 then (bif Nat.blt x 25 then (bif Nat.beq x 22 then some (.if_icmp .ge 40, 3) else none) else (bif Nat.beq x 25 then some (.iload_n 2, 1) else none)) else (bif Nat.blt x 29 then (bif Nat.beq x 26 then some (.ifCond .eq 28, 3) else none) else (bif Nat.blt x 30 then (bif Nat.beq x 29 then some (.aload_n 0, 1) else none) else (bif Nat.beq x 30 then some (.getfield 48, 3) else none)))))) else (bif Nat.blt x 47 then (bif Nat.blt x 40 then (bif Nat.blt x 37 then (bif Nat.blt x 36 then (bif Nat.beq x 33 then some (.sipush 128, 3) else none) else (bif Nat.beq x 36 then some (.iload_n 1, 1) else none)) else (bif Nat.blt x 38 then (bif Nat.beq x 37 then some (.imul, 1) else none) else (bif Nat.blt x 39 then (bif Nat.beq x 38 then some (.iload_n 3, 1) else none) else (bif Nat.beq x 39 then some (.iadd, 1) else none)))) else (bif Nat.blt x 42 then (bif Nat.blt x 41 then (bif Nat.beq x 40 then some (.baload, 1) else none) else (bif Nat.beq x 41 then some (.aload_n 0, 1) else none)) else (bif Nat.blt x 45 then (bif Nat.beq x 42 then some (.getfield 57, 3) else none) else (bif Nat.blt x 46 then (bif Nat.beq x 45 then some (.iload_n 3, 1) else none) else (bif Nat.beq x 46 then some (.baload, 1) else none))))) else (bif Nat.blt x 56 then (bif Nat.blt x 51 then (bif Nat.blt x 50 then (bif Nat.beq x 47 then some (.if_icmp .ne 7, 3) else none) else (bif Nat.beq x 50 then some (.iconst 1, 1) else none)) else (bif Nat.blt x 54 then (bif Nat.beq x 51 then some (.goto 4, 3) else none) else (bif Nat.blt x 55 then (bif Nat.beq x 54 then some (.iconst 0, 1) else none) else (bif Nat.beq x 55 then some (.istore_n 2, 1) else none)))) else (bif Nat.blt x 62 then (bif Nat.blt x 59 then (bif Nat.beq x 56 then some (.iinc 3 1, 3) else none) else (bif Nat.beq x 59 then some (.goto (-41), 3) else none)) else (bif Nat.blt x 63 then (bif Nat.beq x 62 then some (.iload_n 2, 1) else none) else (bif Nat.blt x 66 then (bif Nat.beq x 63 then some (.ifCond .eq 5, 3) else none) else (bif Nat.beq x 66 then some (.iload_n 1, 1) else none))))))) else (bif Nat.blt x 106 then (bif Nat.blt x 86 then (bif Nat.blt x 78 then (bif Nat.blt x 71 then (bif Nat.blt x 68 then (bif Nat.beq x 67 then some (.ireturn, 1) else none) else (bif Nat.beq x 68 then some (.iinc 1 1, 3) else none)) else (bif Nat.blt x 74 then (bif Nat.beq x 71 then some (.goto (-65), 3) else none) else (bif Nat.blt x 75 then (bif Nat.beq x 74 then some (.aload_n 0, 1) else none) else (bif Nat.beq x 75 then some (.getfield 148, 3) else none)))) else (bif Nat.blt x 83 then (bif Nat.blt x 80 then (bif Nat.beq x 78 then some (.bipush 40, 2) else none) else (bif Nat.beq x 80 then some (.if_icmp .ne 5, 3) else none)) else (bif Nat.blt x 84 then (bif Nat.beq x 83 then some (.iconst (-1), 1) else none) else (bif Nat.blt x 85 then (bif Nat.beq x 84 then some (.ireturn, 1) else none) else (bif Nat.beq x 85 then some (.iconst 0, 1) else none))))) else (bif Nat.blt x 95 then (bif Nat.blt x 88 then (bif Nat.blt x 87 then (bif Nat.beq x 86 then some (.istore_n 1, 1) else none) else (bif Nat.beq x 87 then some (.iload_n 1, 1) else none)) else (bif Nat.blt x 91 then (bif Nat.beq x 88 then some (.sipush 128, 3) else none) else (bif Nat.blt x 94 then (bif Nat.beq x 91 then some (.if_icmp .ge 30, 3) else none) else (bif Nat.beq x 94 then some (.aload_n 0, 1) else none)))) else (bif Nat.blt x 101 then (bif Nat.blt x 98 then (bif Nat.beq x 95 then some (.getfield 48, 3) else none) else (bif Nat.beq x 98 then some (.sipush 128, 3) else none)) else (bif Nat.blt x 102 then (bif Nat.beq x 101 then some (.aload_n 0, 1) else none) else (bif Nat.blt x 105 then (bif Nat.beq x 102 then some (.getfield 148, 3) else none) else (bif Nat.beq x 105 then some (.imul, 1) else none)))))) else (bif Nat.blt x 122 then (bif Nat.blt x 113 then (bif Nat.blt x 108 then (bif Nat.blt x 107 then (bif Nat.beq x 106 then some (.iload_n 1, 1) else none) else (bif Nat.beq x 107 then some (.iadd, 1) else none)) else (bif Nat.blt x 109 then (bif Nat.beq x 108 then some (.aload_n 0, 1) else none) else (bif Nat.blt x 112 then (bif Nat.beq x 109 then some (.getfield 57, 3) else none) else (bif Nat.beq x 112 then some (.iload_n 1, 1) else none)))) else (bif Nat.blt x 115 then (bif Nat.blt x 114 then (bif Nat.beq x 113 then some (.baload, 1) else none) else (bif Nat.beq x 114 then some (.bastore, 1) else none)) else (bif Nat.blt x 118 then (bif Nat.beq x 115 then some (.iinc 1 1, 3) else none) else (bif Nat.blt x 121 then (bif Nat.beq x 118 then some (.goto (-31), 3) else none) else (bif Nat.beq x 121 then some (.aload_n 0, 1) else none))))) else (bif Nat.blt x 131 then (bif Nat.blt x 126 then (bif Nat.blt x 123 then (bif Nat.beq x 122 then some (.dup, 1) else none) else (bif Nat.beq x 123 then some (.getfield 148, 3) else none)) else (bif Nat.blt x 127 then (bif Nat.beq x 126 then some (.iconst 1, 1) else none) else (bif Nat.blt x 128 then (bif Nat.beq x 127 then some (.iadd, 1) else none) else (bif Nat.beq x 128 then some (.putfield 148, 3) else none)))) else (bif Nat.blt x 135 then (bif Nat.blt x 132 then (bif Nat.beq x 131 then some (.aload_n 0, 1) else none) else (bif Nat.beq x 132 then some (.getfield 148, 3) else none)) else (bif Nat.blt x 136 then (bif Nat.beq x 135 then some (.iconst 1, 1) else none) else (bif Nat.blt x 137 then (bif Nat.beq x 136 then some (.isub, 1) else none) else (bif Nat.beq x 137 then some (.ireturn, 1) else none)))))))
def q_t44 (x : Nat) : Option (Instr × Nat) := bif Nat.blt x 61 then (bif Nat.blt x 30 then (bif Nat.blt x 14 then (bif Nat.blt x 5 then (bif Nat.blt x 2 then (bif Nat.blt x 1 then (bif Nat.beq x 0 then some (.iconst 0, 1) else none) else (bif Nat.beq x 1 then some (.istore_n 3, 1) else none)) else (bif Nat.blt x 3 then (bif Nat.beq x 2 then some (.iconst 0, 1) else none) else (bif Nat.beq x 3 then some (.istore 4, 2) else none))) else (bif Nat.blt x 10 then (bif Nat.blt x 7 then (bif Nat.beq x 5 then some (.iload 4, 2) else none) else (bif Nat.beq x 7 then some (.sipush 128, 3) else none)) else (bif Nat.blt x 13 then (bif Nat.beq x 10 then some (.if_icmp .ge 17, 3) else none) else (bif Nat.beq x 13 then some (.aload_n 0, 1) else none)))) else (bif Nat.blt x 21 then (bif Nat.blt x 19 then (bif Nat.blt x 17 then (bif Nat.beq x 14 then some (.getfield 57, 3) else none) else (bif Nat.beq x 17 then some (.iload 4, 2) else none)) else (bif Nat.blt x 20 then (bif Nat.beq x 19 then some (.iconst 0, 1) else none) else (bif Nat.beq x 20 then some (.bastore, 1) else none))) else (bif Nat.blt x 27 then (bif Nat.blt x 24 then (bif Nat.beq x 21 then some (.iinc 4 1, 3) else none) else (bif Nat.beq x 24 then some (.goto (-19), 3) else none)) else (bif Nat.blt x 28 then (bif Nat.beq x 27 then some (.iconst 0, 1) else none) else (bif Nat.beq x 28 then some (.istore 4, 2) else none))))) else (bif Nat.blt x 46 then (bif Nat.blt x 40 then (bif Nat.blt x 35 then (bif Nat.blt x 32 then (bif Nat.beq x 30 then some (.iload 4, 2) else none) else (bif Nat.beq x 32 then some (.sipush 128, 3) else none)) else (bif Nat.blt x 38 then (bif Nat.beq x 35 then some (.if_icmp .ge 78, 3) else none) else (bif Nat.beq x 38 then some (.iload 4, 2) else none))) else (bif Nat.blt x 43 then (bif Nat.blt x 42 then (bif Nat.beq x 40 then some (.bipush 8, 2) else none) else (bif Nat.beq x 42 then some (.idiv, 1) else none)) else (bif Nat.blt x 45 then (bif Nat.beq x 43 then some (.istore 5, 2) else none) else (bif Nat.beq x 45 then some (.aload_n 0, 1) else none)))) else (bif Nat.blt x 54 then (bif Nat.blt x 52 then (bif Nat.blt x 49 then (bif Nat.beq x 46 then some (.getfield 48, 3) else none) else (bif Nat.beq x 49 then some (.sipush 128, 3) else none)) else (bif Nat.blt x 53 then (bif Nat.beq x 52 then some (.iload_n 1, 1) else none) else (bif Nat.beq x 53 then some (.imul, 1) else none))) else (bif Nat.blt x 57 then (bif Nat.blt x 56 then (bif Nat.beq x 54 then some (.iload 4, 2) else none) else (bif Nat.beq x 56 then some (.iadd, 1) else none)) else (bif Nat.blt x 58 then (bif Nat.beq x 57 then some (.baload, 1) else none) else (bif Nat.beq x 58 then some (.ifCond .eq 49, 3) else none)))))) else (bif Nat.blt x 89 then (bif Nat.blt x 76 then (bif Nat.blt x 67 then (bif Nat.blt x 65 then (bif Nat.blt x 63 then (bif Nat.beq x 61 then some (.iload 4, 2) else none) else (bif Nat.beq x 63 then some (.bipush 8, 2) else none)) else (bif Nat.blt x 66 then (bif Nat.beq x 65 then some (.irem, 1) else none) else (bif Nat.beq x 66 then some (.aload_n 0, 1) else none))) else (bif Nat.blt x 72 then (bif Nat.blt x 70 then (bif Nat.beq x 67 then some (.getfield 20, 3) else none) else (bif Nat.beq x 70 then some (.iload 5, 2) else none)) else (bif Nat.blt x 73 then (bif Nat.beq x 72 then some (.iaload, 1) else none) else (bif Nat.beq x 73 then some (.if_icmp .ge 34, 3) else none)))) else (bif Nat.blt x 83 then (bif Nat.blt x 80 then (bif Nat.blt x 77 then (bif Nat.beq x 76 then some (.aload_n 0, 1) else none) else (bif Nat.beq x 77 then some (.getfield 23, 3) else none)) else (bif Nat.blt x 81 then (bif Nat.beq x 80 then some (.iconst 4, 1) else none) else (bif Nat.beq x 81 then some (.iload 5, 2) else none))) else (bif Nat.blt x 86 then (bif Nat.blt x 84 then (bif Nat.beq x 83 then some (.imul, 1) else none) else (bif Nat.beq x 84 then some (.iload 4, 2) else none)) else (bif Nat.blt x 88 then (bif Nat.beq x 86 then some (.bipush 8, 2) else none) else (bif Nat.beq x 88 then some (.irem, 1) else none))))) else (bif Nat.blt x 102 then (bif Nat.blt x 95 then (bif Nat.blt x 91 then (bif Nat.blt x 90 then (bif Nat.beq x 89 then some (.iadd, 1) else none) else (bif Nat.beq x 90 then some (.iaload, 1) else none)) else (bif Nat.blt x 92 then (bif Nat.beq x 91 then some (.iload_n 2, 1) else none) else (bif Nat.beq x 92 then some (.if_icmp .ne 15, 3) else none))) else (bif Nat.blt x 99 then (bif Nat.blt x 96 then (bif Nat.beq x 95 then some (.aload_n 0, 1) else none) else (bif Nat.beq x 96 then some (.getfield 57, 3) else none)) else (bif Nat.blt x 101 then (bif Nat.beq x 99 then some (.iload 4, 2) else none) else (bif Nat.beq x 101 then some (.iconst 1, 1) else none)))) else (bif Nat.blt x 106 then (bif Nat.blt x 104 then (bif Nat.blt x 103 then (bif Nat.beq x 102 then some (.iadd, 1) else none) else (bif Nat.beq x 103 then some (.iconst 1, 1) else none)) else (bif Nat.blt x 105 then (bif Nat.beq x 104 then some (.bastore, 1) else none) else (bif Nat.beq x 105 then some (.iconst 1, 1) else none))) else (bif Nat.blt x 110 then (bif Nat.blt x 107 then (bif Nat.beq x 106 then some (.istore_n 3, 1) else none) else (bif Nat.beq x 107 then some (.iinc 4 1, 3) else none)) else (bif Nat.blt x 113 then (bif Nat.beq x 110 then some (.goto (-80), 3) else none) else (bif Nat.blt x 114 then (bif Nat.beq x 113 then some (.iload_n 3, 1) else none) else (bif Nat.beq x 114 then some (.ireturn, 1) else none)))))))
def q_t45 (x : Nat) : Option (Instr × Nat) := bif Nat.blt x 53 then (bif Nat.blt x 27 then (bif Nat.blt x 13 then (bif Nat.blt x 3 then (bif Nat.blt x 1 then (bif Nat.beq x 0 then some (.iconst 0, 1) else none) else (bif Nat.blt x 2 then (bif Nat.beq x 1 then some (.istore_n 1, 1) else none) else (bif Nat.beq x 2 then some (.iload_n 1, 1) else none))) else (bif Nat.blt x 9 then (bif Nat.blt x 6 then (bif Nat.beq x 3 then some (.sipush 128, 3) else none) else (bif Nat.beq x 6 then some (.if_icmp .ge 24, 3) else none)) else (bif Nat.blt x 10 then (bif Nat.beq x 9 then some (.aload_n 0, 1) else none) else (bif Nat.beq x 10 then some (.getfield 57, 3) else none)))) else (bif Nat.blt x 19 then (bif Nat.blt x 15 then (bif Nat.blt x 14 then (bif Nat.beq x 13 then some (.iload_n 1, 1) else none) else (bif Nat.beq x 14 then some (.iload_n 1, 1) else none)) else (bif Nat.blt x 18 then (bif Nat.beq x 15 then some (.ifCond .ne 7, 3) else none) else (bif Nat.beq x 18 then some (.iconst 1, 1) else none))) else (bif Nat.blt x 23 then (bif Nat.blt x 22 then (bif Nat.beq x 19 then some (.goto 4, 3) else none) else (bif Nat.beq x 22 then some (.iconst 0, 1) else none)) else (bif Nat.blt x 24 then (bif Nat.beq x 23 then some (.bastore, 1) else none) else (bif Nat.beq x 24 then some (.iinc 1 1, 3) else none))))) else (bif Nat.blt x 41 then (bif Nat.blt x 35 then (bif Nat.blt x 31 then (bif Nat.blt x 30 then (bif Nat.beq x 27 then some (.goto (-25), 3) else none) else (bif Nat.beq x 30 then some (.aload_n 0, 1) else none)) else (bif Nat.blt x 32 then (bif Nat.beq x 31 then some (.iconst 0, 1) else none) else (bif Nat.beq x 32 then some (.putfield 148, 3) else none))) else (bif Nat.blt x 39 then (bif Nat.blt x 36 then (bif Nat.beq x 35 then some (.aload_n 0, 1) else none) else (bif Nat.beq x 36 then some (.invokevirtual 151, 3) else none)) else (bif Nat.blt x 40 then (bif Nat.beq x 39 then some (.istore_n 1, 1) else none) else (bif Nat.beq x 40 then some (.iconst 0, 1) else none)))) else (bif Nat.blt x 47 then (bif Nat.blt x 43 then (bif Nat.blt x 42 then (bif Nat.beq x 41 then some (.istore_n 2, 1) else none) else (bif Nat.beq x 42 then some (.iload_n 2, 1) else none)) else (bif Nat.blt x 44 then (bif Nat.beq x 43 then some (.aload_n 0, 1) else none) else (bif Nat.beq x 44 then some (.getfield 148, 3) else none))) else (bif Nat.blt x 51 then (bif Nat.blt x 50 then (bif Nat.beq x 47 then some (.if_icmp .ge 61, 3) else none) else (bif Nat.beq x 50 then some (.iconst 0, 1) else none)) else (bif Nat.blt x 52 then (bif Nat.beq x 51 then some (.istore_n 3, 1) else none) else (bif Nat.beq x 52 then some (.iload_n 3, 1) else none)))))) else (bif Nat.blt x 82 then (bif Nat.blt x 64 then (bif Nat.blt x 59 then (bif Nat.blt x 55 then (bif Nat.beq x 53 then some (.bipush 16, 2) else none) else (bif Nat.blt x 58 then (bif Nat.beq x 55 then some (.if_icmp .ge 47, 3) else none) else (bif Nat.beq x 58 then some (.iconst (-1), 1) else none))) else (bif Nat.blt x 62 then (bif Nat.blt x 61 then (bif Nat.beq x 59 then some (.istore 4, 2) else none) else (bif Nat.beq x 61 then some (.aload_n 0, 1) else none)) else (bif Nat.blt x 63 then (bif Nat.beq x 62 then some (.iload_n 2, 1) else none) else (bif Nat.beq x 63 then some (.iload_n 3, 1) else none)))) else (bif Nat.blt x 74 then (bif Nat.blt x 70 then (bif Nat.blt x 67 then (bif Nat.beq x 64 then some (.invokevirtual 154, 3) else none) else (bif Nat.beq x 67 then some (.ifCond .eq 16, 3) else none)) else (bif Nat.blt x 71 then (bif Nat.beq x 70 then some (.aload_n 0, 1) else none) else (bif Nat.beq x 71 then some (.invokevirtual 151, 3) else none))) else (bif Nat.blt x 78 then (bif Nat.blt x 76 then (bif Nat.beq x 74 then some (.istore 4, 2) else none) else (bif Nat.beq x 76 then some (.iload 4, 2) else none)) else (bif Nat.blt x 81 then (bif Nat.beq x 78 then some (.ifCond .ge 5, 3) else none) else (bif Nat.beq x 81 then some (.iconst 0, 1) else none))))) else (bif Nat.blt x 93 then (bif Nat.blt x 89 then (bif Nat.blt x 84 then (bif Nat.blt x 83 then (bif Nat.beq x 82 then some (.ireturn, 1) else none) else (bif Nat.beq x 83 then some (.aload_n 0, 1) else none)) else (bif Nat.blt x 87 then (bif Nat.beq x 84 then some (.getfield 54, 3) else none) else (bif Nat.beq x 87 then some (.bipush 16, 2) else none))) else (bif Nat.blt x 91 then (bif Nat.blt x 90 then (bif Nat.beq x 89 then some (.iload_n 2, 1) else none) else (bif Nat.beq x 90 then some (.imul, 1) else none)) else (bif Nat.blt x 92 then (bif Nat.beq x 91 then some (.iload_n 3, 1) else none) else (bif Nat.beq x 92 then some (.iadd, 1) else none)))) else (bif Nat.blt x 102 then (bif Nat.blt x 96 then (bif Nat.blt x 95 then (bif Nat.beq x 93 then some (.iload 4, 2) else none) else (bif Nat.beq x 95 then some (.iastore, 1) else none)) else (bif Nat.blt x 99 then (bif Nat.beq x 96 then some (.iinc 3 1, 3) else none) else (bif Nat.beq x 99 then some (.goto (-47), 3) else none))) else (bif Nat.blt x 108 then (bif Nat.blt x 105 then (bif Nat.beq x 102 then some (.iinc 2 1, 3) else none) else (bif Nat.beq x 105 then some (.goto (-63), 3) else none)) else (bif Nat.blt x 109 then (bif Nat.beq x 108 then some (.iconst 1, 1) else none) else (bif Nat.beq x 109 then some (.ireturn, 1) else none))))))
def q_t46 (x : Nat) : Option (Instr × Nat) := bif Nat.blt x 33 then (bif Nat.blt x 16 then (bif Nat.blt x 7 then (bif Nat.blt x 2 then (bif Nat.blt x 1 then (bif Nat.beq x 0 then some (.iconst 1, 1) else none) else (bif Nat.beq x 1 then some (.istore_n 3, 1) else none)) else (bif Nat.blt x 3 then (bif Nat.beq x 2 then some (.iload_n 2, 1) else none) else (bif Nat.blt x 5 then (bif Nat.beq x 3 then some (.istore 4, 2) else none) else (bif Nat.beq x 5 then some (.iload 4, 2) else none)))) else (bif Nat.blt x 11 then (bif Nat.blt x 8 then (bif Nat.beq x 7 then some (.aload_n 0, 1) else none) else (bif Nat.beq x 8 then some (.getfield 20, 3) else none)) else (bif Nat.blt x 12 then (bif Nat.beq x 11 then some (.iload_n 1, 1) else none) else (bif Nat.blt x 13 then (bif Nat.beq x 12 then some (.iaload, 1) else none) else (bif Nat.beq x 13 then some (.if_icmp .ge 54, 3) else none))))) else (bif Nat.blt x 25 then (bif Nat.blt x 20 then (bif Nat.blt x 17 then (bif Nat.beq x 16 then some (.iload_n 3, 1) else none) else (bif Nat.beq x 17 then some (.ifCond .eq 42, 3) else none)) else (bif Nat.blt x 21 then (bif Nat.beq x 20 then some (.aload_n 0, 1) else none) else (bif Nat.blt x 24 then (bif Nat.beq x 21 then some (.getfield 23, 3) else none) else (bif Nat.beq x 24 then some (.iconst 4, 1) else none)))) else (bif Nat.blt x 29 then (bif Nat.blt x 26 then (bif Nat.beq x 25 then some (.iload_n 1, 1) else none) else (bif Nat.blt x 27 then (bif Nat.beq x 26 then some (.imul, 1) else none) else (bif Nat.beq x 27 then some (.iload 4, 2) else none))) else (bif Nat.blt x 30 then (bif Nat.beq x 29 then some (.iadd, 1) else none) else (bif Nat.blt x 31 then (bif Nat.beq x 30 then some (.iaload, 1) else none) else (bif Nat.beq x 31 then some (.bipush 8, 2) else none)))))) else (bif Nat.blt x 50 then (bif Nat.blt x 44 then (bif Nat.blt x 37 then (bif Nat.blt x 36 then (bif Nat.beq x 33 then some (.if_icmp .ge 26, 3) else none) else (bif Nat.beq x 36 then some (.aload_n 0, 1) else none)) else (bif Nat.blt x 40 then (bif Nat.beq x 37 then some (.getfield 39, 3) else none) else (bif Nat.blt x 41 then (bif Nat.beq x 40 then some (.aload_n 0, 1) else none) else (bif Nat.beq x 41 then some (.getfield 23, 3) else none)))) else (bif Nat.blt x 46 then (bif Nat.blt x 45 then (bif Nat.beq x 44 then some (.iconst 4, 1) else none) else (bif Nat.beq x 45 then some (.iload_n 1, 1) else none)) else (bif Nat.blt x 47 then (bif Nat.beq x 46 then some (.imul, 1) else none) else (bif Nat.blt x 49 then (bif Nat.beq x 47 then some (.iload 4, 2) else none) else (bif Nat.beq x 49 then some (.iadd, 1) else none))))) else (bif Nat.blt x 59 then (bif Nat.blt x 52 then (bif Nat.blt x 51 then (bif Nat.beq x 50 then some (.iaload, 1) else none) else (bif Nat.beq x 51 then some (.baload, 1) else none)) else (bif Nat.blt x 55 then (bif Nat.beq x 52 then some (.ifCond .eq 7, 3) else none) else (bif Nat.blt x 56 then (bif Nat.beq x 55 then some (.iconst 1, 1) else none) else (bif Nat.beq x 56 then some (.goto 4, 3) else none)))) else (bif Nat.blt x 64 then (bif Nat.blt x 60 then (bif Nat.beq x 59 then some (.iconst 0, 1) else none) else (bif Nat.blt x 61 then (bif Nat.beq x 60 then some (.istore_n 3, 1) else none) else (bif Nat.beq x 61 then some (.iinc 4 1, 3) else none))) else (bif Nat.blt x 67 then (bif Nat.beq x 64 then some (.goto (-59), 3) else none) else (bif Nat.blt x 68 then (bif Nat.beq x 67 then some (.iload_n 3, 1) else none) else (bif Nat.beq x 68 then some (.ireturn, 1) else none))))))
def q_t47 (x : Nat) : Option (Instr × Nat) := bif Nat.blt x 50 then (bif Nat.blt x 24 then (bif Nat.blt x 10 then (bif Nat.blt x 3 then (bif Nat.blt x 1 then (bif Nat.beq x 0 then some (.iconst 0, 1) else none) else (bif Nat.blt x 2 then (bif Nat.beq x 1 then some (.istore_n 3, 1) else none) else (bif Nat.beq x 2 then some (.iconst 1, 1) else none))) else (bif Nat.blt x 6 then (bif Nat.blt x 5 then (bif Nat.beq x 3 then some (.istore 4, 2) else none) else (bif Nat.beq x 5 then some (.iload_n 2, 1) else none)) else (bif Nat.blt x 8 then (bif Nat.beq x 6 then some (.istore 5, 2) else none) else (bif Nat.beq x 8 then some (.iload 5, 2) else none)))) else (bif Nat.blt x 16 then (bif Nat.blt x 14 then (bif Nat.blt x 11 then (bif Nat.beq x 10 then some (.aload_n 0, 1) else none) else (bif Nat.beq x 11 then some (.getfield 20, 3) else none)) else (bif Nat.blt x 15 then (bif Nat.beq x 14 then some (.iload_n 1, 1) else none) else (bif Nat.beq x 15 then some (.iaload, 1) else none))) else (bif Nat.blt x 20 then (bif Nat.blt x 19 then (bif Nat.beq x 16 then some (.if_icmp .ge 89, 3) else none) else (bif Nat.beq x 19 then some (.aload_n 0, 1) else none)) else (bif Nat.blt x 23 then (bif Nat.beq x 20 then some (.getfield 23, 3) else none) else (bif Nat.beq x 23 then some (.iconst 4, 1) else none))))) else (bif Nat.blt x 34 then (bif Nat.blt x 28 then (bif Nat.blt x 25 then (bif Nat.beq x 24 then some (.iload_n 1, 1) else none) else (bif Nat.blt x 26 then (bif Nat.beq x 25 then some (.imul, 1) else none) else (bif Nat.beq x 26 then some (.iload 5, 2) else none))) else (bif Nat.blt x 30 then (bif Nat.blt x 29 then (bif Nat.beq x 28 then some (.iadd, 1) else none) else (bif Nat.beq x 29 then some (.iaload, 1) else none)) else (bif Nat.blt x 32 then (bif Nat.beq x 30 then some (.istore 6, 2) else none) else (bif Nat.beq x 32 then some (.iload 4, 2) else none)))) else (bif Nat.blt x 43 then (bif Nat.blt x 38 then (bif Nat.blt x 37 then (bif Nat.beq x 34 then some (.ifCond .ne 7, 3) else none) else (bif Nat.beq x 37 then some (.iload_n 3, 1) else none)) else (bif Nat.blt x 41 then (bif Nat.beq x 38 then some (.goto 31, 3) else none) else (bif Nat.beq x 41 then some (.iload 6, 2) else none))) else (bif Nat.blt x 48 then (bif Nat.blt x 45 then (bif Nat.beq x 43 then some (.bipush 8, 2) else none) else (bif Nat.beq x 45 then some (.if_icmp .ge 15, 3) else none)) else (bif Nat.blt x 49 then (bif Nat.beq x 48 then some (.iload_n 3, 1) else none) else (bif Nat.beq x 49 then some (.aload_n 0, 1) else none)))))) else (bif Nat.blt x 75 then (bif Nat.blt x 62 then (bif Nat.blt x 56 then (bif Nat.blt x 53 then (bif Nat.beq x 50 then some (.getfield 42, 3) else none) else (bif Nat.blt x 55 then (bif Nat.beq x 53 then some (.iload 6, 2) else none) else (bif Nat.beq x 55 then some (.iaload, 1) else none))) else (bif Nat.blt x 60 then (bif Nat.blt x 57 then (bif Nat.beq x 56 then some (.ior, 1) else none) else (bif Nat.beq x 57 then some (.goto 12, 3) else none)) else (bif Nat.blt x 61 then (bif Nat.beq x 60 then some (.iload_n 3, 1) else none) else (bif Nat.beq x 61 then some (.iconst 1, 1) else none)))) else (bif Nat.blt x 68 then (bif Nat.blt x 66 then (bif Nat.blt x 64 then (bif Nat.beq x 62 then some (.iload 6, 2) else none) else (bif Nat.beq x 64 then some (.bipush 8, 2) else none)) else (bif Nat.blt x 67 then (bif Nat.beq x 66 then some (.isub, 1) else none) else (bif Nat.beq x 67 then some (.ishl, 1) else none))) else (bif Nat.blt x 70 then (bif Nat.blt x 69 then (bif Nat.beq x 68 then some (.ior, 1) else none) else (bif Nat.beq x 69 then some (.istore_n 3, 1) else none)) else (bif Nat.blt x 72 then (bif Nat.beq x 70 then some (.iload 4, 2) else none) else (bif Nat.beq x 72 then some (.ifCond .eq 24, 3) else none))))) else (bif Nat.blt x 92 then (bif Nat.blt x 83 then (bif Nat.blt x 79 then (bif Nat.blt x 77 then (bif Nat.beq x 75 then some (.iload 6, 2) else none) else (bif Nat.beq x 77 then some (.bipush 8, 2) else none)) else (bif Nat.blt x 82 then (bif Nat.beq x 79 then some (.if_icmp .ge 17, 3) else none) else (bif Nat.beq x 82 then some (.aload_n 0, 1) else none))) else (bif Nat.blt x 88 then (bif Nat.blt x 86 then (bif Nat.beq x 83 then some (.getfield 39, 3) else none) else (bif Nat.beq x 86 then some (.iload 6, 2) else none)) else (bif Nat.blt x 89 then (bif Nat.beq x 88 then some (.baload, 1) else none) else (bif Nat.beq x 89 then some (.ifCond .eq 7, 3) else none)))) else (bif Nat.blt x 99 then (bif Nat.blt x 96 then (bif Nat.blt x 93 then (bif Nat.beq x 92 then some (.iconst 1, 1) else none) else (bif Nat.beq x 93 then some (.goto 4, 3) else none)) else (bif Nat.blt x 97 then (bif Nat.beq x 96 then some (.iconst 0, 1) else none) else (bif Nat.beq x 97 then some (.istore 4, 2) else none))) else (bif Nat.blt x 105 then (bif Nat.blt x 102 then (bif Nat.beq x 99 then some (.iinc 5 1, 3) else none) else (bif Nat.beq x 102 then some (.goto (-94), 3) else none)) else (bif Nat.blt x 106 then (bif Nat.beq x 105 then some (.iload_n 3, 1) else none) else (bif Nat.beq x 106 then some (.ireturn, 1) else none))))))
def q_t48 (x : Nat) : Option (Instr × Nat) := bif Nat.blt x 150 then (bif Nat.blt x 74 then (bif Nat.blt x 32 then (bif Nat.blt x 15 then (bif Nat.blt x 8 then (bif Nat.blt x 2 then (bif Nat.blt x 1 then (bif Nat.beq x 0 then some (.iconst 0, 1) else none) else (bif Nat.beq x 1 then some (.istore_n 1, 1) else none)) else (bif Nat.blt x 3 then (bif Nat.beq x 2 then some (.iload_n 1, 1) else none) else (bif Nat.blt x 5 then (bif Nat.beq x 3 then some (.bipush 8, 2) else none) else (bif Nat.beq x 5 then some (.if_icmp .ge 46, 3) else none)))) else (bif Nat.blt x 12 then (bif Nat.blt x 9 then (bif Nat.beq x 8 then some (.aload_n 0, 1) else none) else (bif Nat.beq x 9 then some (.getfield 39, 3) else none)) else (bif Nat.blt x 13 then (bif Nat.beq x 12 then some (.iload_n 1, 1) else none) else (bif Nat.blt x 14 then (bif Nat.beq x 13 then some (.iconst 0, 1) else none) else (bif Nat.beq x 14 then some (.bastore, 1) else none))))) else (bif Nat.blt x 22 then (bif Nat.blt x 19 then (bif Nat.blt x 16 then (bif Nat.beq x 15 then some (.aload_n 0, 1) else none) else (bif Nat.beq x 16 then some (.getfield 42, 3) else none)) else (bif Nat.blt x 20 then (bif Nat.beq x 19 then some (.iload_n 1, 1) else none) else (bif Nat.blt x 21 then (bif Nat.beq x 20 then some (.iconst 0, 1) else none) else (bif Nat.beq x 21 then some (.iastore, 1) else none)))) else (bif Nat.blt x 27 then (bif Nat.blt x 23 then (bif Nat.beq x 22 then some (.aload_n 0, 1) else none) else (bif Nat.blt x 26 then (bif Nat.beq x 23 then some (.getfield 45, 3) else none) else (bif Nat.beq x 26 then some (.iload_n 1, 1) else none))) else (bif Nat.blt x 28 then (bif Nat.beq x 27 then some (.iload_n 1, 1) else none) else (bif Nat.blt x 29 then (bif Nat.beq x 28 then some (.aload_n 0, 1) else none) else (bif Nat.beq x 29 then some (.getfield 29, 3) else none)))))) else (bif Nat.blt x 53 then (bif Nat.blt x 43 then (bif Nat.blt x 34 then (bif Nat.blt x 33 then (bif Nat.beq x 32 then some (.iconst 0, 1) else none) else (bif Nat.beq x 33 then some (.iaload, 1) else none)) else (bif Nat.blt x 37 then (bif Nat.beq x 34 then some (.if_icmp .ne 9, 3) else none) else (bif Nat.blt x 40 then (bif Nat.beq x 37 then some (.sipush 256, 3) else none) else (bif Nat.beq x 40 then some (.goto 4, 3) else none)))) else (bif Nat.blt x 48 then (bif Nat.blt x 44 then (bif Nat.beq x 43 then some (.iconst 0, 1) else none) else (bif Nat.blt x 45 then (bif Nat.beq x 44 then some (.iastore, 1) else none) else (bif Nat.beq x 45 then some (.iinc 1 1, 3) else none))) else (bif Nat.blt x 51 then (bif Nat.beq x 48 then some (.goto (-46), 3) else none) else (bif Nat.blt x 52 then (bif Nat.beq x 51 then some (.iconst 0, 1) else none) else (bif Nat.beq x 52 then some (.istore_n 1, 1) else none))))) else (bif Nat.blt x 62 then (bif Nat.blt x 57 then (bif Nat.blt x 54 then (bif Nat.beq x 53 then some (.iload_n 1, 1) else none) else (bif Nat.beq x 54 then some (.sipush 150, 3) else none)) else (bif Nat.blt x 60 then (bif Nat.beq x 57 then some (.if_icmp .ge 64, 3) else none) else (bif Nat.blt x 61 then (bif Nat.beq x 60 then some (.iconst 1, 1) else none) else (bif Nat.beq x 61 then some (.istore_n 2, 1) else none)))) else (bif Nat.blt x 67 then (bif Nat.blt x 63 then (bif Nat.beq x 62 then some (.iload_n 2, 1) else none) else (bif Nat.blt x 64 then (bif Nat.beq x 63 then some (.aload_n 0, 1) else none) else (bif Nat.beq x 64 then some (.getfield 98, 3) else none))) else (bif Nat.blt x 70 then (bif Nat.beq x 67 then some (.if_icmp .gt 48, 3) else none) else (bif Nat.blt x 71 then (bif Nat.beq x 70 then some (.aload_n 0, 1) else none) else (bif Nat.beq x 71 then some (.getfield 39, 3) else none))))))) else (bif Nat.blt x 109 then (bif Nat.blt x 90 then (bif Nat.blt x 81 then (bif Nat.blt x 78 then (bif Nat.blt x 75 then (bif Nat.beq x 74 then some (.aload_n 0, 1) else none) else (bif Nat.beq x 75 then some (.getfield 17, 3) else none)) else (bif Nat.blt x 79 then (bif Nat.beq x 78 then some (.iload_n 2, 1) else none) else (bif Nat.blt x 80 then (bif Nat.beq x 79 then some (.iaload, 1) else none) else (bif Nat.beq x 80 then some (.aload_n 0, 1) else none)))) else (bif Nat.blt x 85 then (bif Nat.blt x 84 then (bif Nat.beq x 81 then some (.getfield 39, 3) else none) else (bif Nat.beq x 84 then some (.aload_n 0, 1) else none)) else (bif Nat.blt x 88 then (bif Nat.beq x 85 then some (.getfield 17, 3) else none) else (bif Nat.blt x 89 then (bif Nat.beq x 88 then some (.iload_n 2, 1) else none) else (bif Nat.beq x 89 then some (.iaload, 1) else none))))) else (bif Nat.blt x 97 then (bif Nat.blt x 94 then (bif Nat.blt x 91 then (bif Nat.beq x 90 then some (.baload, 1) else none) else (bif Nat.beq x 91 then some (.ifCond .ne 12, 3) else none)) else (bif Nat.blt x 95 then (bif Nat.beq x 94 then some (.aload_n 0, 1) else none) else (bif Nat.blt x 96 then (bif Nat.beq x 95 then some (.iload_n 2, 1) else none) else (bif Nat.beq x 96 then some (.iconst 0, 1) else none)))) else (bif Nat.blt x 104 then (bif Nat.blt x 100 then (bif Nat.beq x 97 then some (.invokevirtual 158, 3) else none) else (bif Nat.blt x 103 then (bif Nat.beq x 100 then some (.ifCond .eq 7, 3) else none) else (bif Nat.beq x 103 then some (.iconst 1, 1) else none))) else (bif Nat.blt x 107 then (bif Nat.beq x 104 then some (.goto 4, 3) else none) else (bif Nat.blt x 108 then (bif Nat.beq x 107 then some (.iconst 0, 1) else none) else (bif Nat.beq x 108 then some (.bastore, 1) else none)))))) else (bif Nat.blt x 131 then (bif Nat.blt x 122 then (bif Nat.blt x 115 then (bif Nat.blt x 112 then (bif Nat.beq x 109 then some (.iinc 2 1, 3) else none) else (bif Nat.beq x 112 then some (.goto (-50), 3) else none)) else (bif Nat.blt x 118 then (bif Nat.beq x 115 then some (.iinc 1 1, 3) else none) else (bif Nat.blt x 121 then (bif Nat.beq x 118 then some (.goto (-65), 3) else none) else (bif Nat.beq x 121 then some (.iconst 0, 1) else none)))) else (bif Nat.blt x 126 then (bif Nat.blt x 123 then (bif Nat.beq x 122 then some (.istore_n 1, 1) else none) else (bif Nat.blt x 124 then (bif Nat.beq x 123 then some (.iload_n 1, 1) else none) else (bif Nat.beq x 124 then some (.bipush 70, 2) else none))) else (bif Nat.blt x 129 then (bif Nat.beq x 126 then some (.if_icmp .ge 54, 3) else none) else (bif Nat.blt x 130 then (bif Nat.beq x 129 then some (.iconst 1, 1) else none) else (bif Nat.beq x 130 then some (.istore_n 2, 1) else none))))) else (bif Nat.blt x 140 then (bif Nat.blt x 133 then (bif Nat.blt x 132 then (bif Nat.beq x 131 then some (.iload_n 2, 1) else none) else (bif Nat.beq x 132 then some (.aload_n 0, 1) else none)) else (bif Nat.blt x 136 then (bif Nat.beq x 133 then some (.getfield 98, 3) else none) else (bif Nat.blt x 139 then (bif Nat.beq x 136 then some (.if_icmp .gt 38, 3) else none) else (bif Nat.beq x 139 then some (.aload_n 0, 1) else none)))) else (bif Nat.blt x 147 then (bif Nat.blt x 143 then (bif Nat.beq x 140 then some (.getfield 42, 3) else none) else (bif Nat.blt x 144 then (bif Nat.beq x 143 then some (.aload_n 0, 1) else none) else (bif Nat.beq x 144 then some (.getfield 17, 3) else none))) else (bif Nat.blt x 148 then (bif Nat.beq x 147 then some (.iload_n 2, 1) else none) else (bif Nat.blt x 149 then (bif Nat.beq x 148 then some (.iaload, 1) else none) else (bif Nat.beq x 149 then some (.aload_n 0, 1) else none)))))))) else (bif Nat.blt x 220 then (bif Nat.blt x 188 then (bif Nat.blt x 166 then (bif Nat.blt x 159 then (bif Nat.blt x 154 then (bif Nat.blt x 153 then (bif Nat.beq x 150 then some (.getfield 42, 3) else none) else (bif Nat.beq x 153 then some (.aload_n 0, 1) else none)) else (bif Nat.blt x 157 then (bif Nat.beq x 154 then some (.getfield 17, 3) else none) else (bif Nat.blt x 158 then (bif Nat.beq x 157 then some (.iload_n 2, 1) else none) else (bif Nat.beq x 158 then some (.iaload, 1) else none)))) else (bif Nat.blt x 161 then (bif Nat.blt x 160 then (bif Nat.beq x 159 then some (.iaload, 1) else none) else (bif Nat.beq x 160 then some (.aload_n 0, 1) else none)) else (bif Nat.blt x 162 then (bif Nat.beq x 161 then some (.iload_n 2, 1) else none) else (bif Nat.blt x 163 then (bif Nat.beq x 162 then some (.iconst 0, 1) else none) else (bif Nat.beq x 163 then some (.invokevirtual 161, 3) else none))))) else (bif Nat.blt x 177 then (bif Nat.blt x 168 then (bif Nat.blt x 167 then (bif Nat.beq x 166 then some (.ior, 1) else none) else (bif Nat.beq x 167 then some (.iastore, 1) else none)) else (bif Nat.blt x 171 then (bif Nat.beq x 168 then some (.iinc 2 1, 3) else none) else (bif Nat.blt x 174 then (bif Nat.beq x 171 then some (.goto (-40), 3) else none) else (bif Nat.beq x 174 then some (.iinc 1 1, 3) else none)))) else (bif Nat.blt x 182 then (bif Nat.blt x 180 then (bif Nat.beq x 177 then some (.goto (-54), 3) else none) else (bif Nat.blt x 181 then (bif Nat.beq x 180 then some (.iconst 0, 1) else none) else (bif Nat.beq x 181 then some (.istore_n 1, 1) else none))) else (bif Nat.blt x 183 then (bif Nat.beq x 182 then some (.iload_n 1, 1) else none) else (bif Nat.blt x 185 then (bif Nat.beq x 183 then some (.bipush 80, 2) else none) else (bif Nat.beq x 185 then some (.if_icmp .ge 112, 3) else none)))))) else (bif Nat.blt x 205 then (bif Nat.blt x 195 then (bif Nat.blt x 190 then (bif Nat.blt x 189 then (bif Nat.beq x 188 then some (.iconst 1, 1) else none) else (bif Nat.beq x 189 then some (.istore_n 2, 1) else none)) else (bif Nat.blt x 191 then (bif Nat.beq x 190 then some (.iload_n 2, 1) else none) else (bif Nat.blt x 192 then (bif Nat.beq x 191 then some (.aload_n 0, 1) else none) else (bif Nat.beq x 192 then some (.getfield 98, 3) else none)))) else (bif Nat.blt x 200 then (bif Nat.blt x 198 then (bif Nat.beq x 195 then some (.if_icmp .gt 96, 3) else none) else (bif Nat.blt x 199 then (bif Nat.beq x 198 then some (.iconst 0, 1) else none) else (bif Nat.beq x 199 then some (.istore_n 3, 1) else none))) else (bif Nat.blt x 201 then (bif Nat.beq x 200 then some (.iload_n 3, 1) else none) else (bif Nat.blt x 202 then (bif Nat.beq x 201 then some (.aload_n 0, 1) else none) else (bif Nat.beq x 202 then some (.getfield 20, 3) else none))))) else (bif Nat.blt x 214 then (bif Nat.blt x 207 then (bif Nat.blt x 206 then (bif Nat.beq x 205 then some (.iload_n 2, 1) else none) else (bif Nat.beq x 206 then some (.iaload, 1) else none)) else (bif Nat.blt x 210 then (bif Nat.beq x 207 then some (.if_icmp .ge 78, 3) else none) else (bif Nat.blt x 211 then (bif Nat.beq x 210 then some (.aload_n 0, 1) else none) else (bif Nat.beq x 211 then some (.getfield 23, 3) else none)))) else (bif Nat.blt x 217 then (bif Nat.blt x 215 then (bif Nat.beq x 214 then some (.iconst 4, 1) else none) else (bif Nat.blt x 216 then (bif Nat.beq x 215 then some (.iload_n 2, 1) else none) else (bif Nat.beq x 216 then some (.imul, 1) else none))) else (bif Nat.blt x 218 then (bif Nat.beq x 217 then some (.iload_n 3, 1) else none) else (bif Nat.blt x 219 then (bif Nat.beq x 218 then some (.iadd, 1) else none) else (bif Nat.beq x 219 then some (.iaload, 1) else none))))))) else (bif Nat.blt x 254 then (bif Nat.blt x 241 then (bif Nat.blt x 230 then (bif Nat.blt x 224 then (bif Nat.blt x 222 then (bif Nat.beq x 220 then some (.istore 4, 2) else none) else (bif Nat.beq x 222 then some (.iload 4, 2) else none)) else (bif Nat.blt x 226 then (bif Nat.beq x 224 then some (.bipush 8, 2) else none) else (bif Nat.blt x 229 then (bif Nat.beq x 226 then some (.if_icmp .ge 53, 3) else none) else (bif Nat.beq x 229 then some (.aload_n 0, 1) else none)))) else (bif Nat.blt x 235 then (bif Nat.blt x 233 then (bif Nat.beq x 230 then some (.getfield 45, 3) else none) else (bif Nat.beq x 233 then some (.iload 4, 2) else none)) else (bif Nat.blt x 236 then (bif Nat.beq x 235 then some (.aload_n 0, 1) else none) else (bif Nat.blt x 239 then (bif Nat.beq x 236 then some (.getfield 45, 3) else none) else (bif Nat.beq x 239 then some (.iload 4, 2) else none))))) else (bif Nat.blt x 246 then (bif Nat.blt x 243 then (bif Nat.blt x 242 then (bif Nat.beq x 241 then some (.iaload, 1) else none) else (bif Nat.beq x 242 then some (.aload_n 0, 1) else none)) else (bif Nat.blt x 244 then (bif Nat.beq x 243 then some (.iload_n 2, 1) else none) else (bif Nat.blt x 245 then (bif Nat.beq x 244 then some (.iload_n 3, 1) else none) else (bif Nat.beq x 245 then some (.iconst 1, 1) else none)))) else (bif Nat.blt x 251 then (bif Nat.blt x 247 then (bif Nat.beq x 246 then some (.iadd, 1) else none) else (bif Nat.blt x 250 then (bif Nat.beq x 247 then some (.invokevirtual 161, 3) else none) else (bif Nat.beq x 250 then some (.ior, 1) else none))) else (bif Nat.blt x 252 then (bif Nat.beq x 251 then some (.aload_n 0, 1) else none) else (bif Nat.blt x 253 then (bif Nat.beq x 252 then some (.iload_n 2, 1) else none) else (bif Nat.beq x 253 then some (.iload_n 3, 1) else none)))))) else (bif Nat.blt x 273 then (bif Nat.blt x 263 then (bif Nat.blt x 256 then (bif Nat.blt x 255 then (bif Nat.beq x 254 then some (.iconst 1, 1) else none) else (bif Nat.beq x 255 then some (.iadd, 1) else none)) else (bif Nat.blt x 259 then (bif Nat.beq x 256 then some (.invokevirtual 158, 3) else none) else (bif Nat.blt x 262 then (bif Nat.beq x 259 then some (.ifCond .eq 17, 3) else none) else (bif Nat.beq x 262 then some (.aload_n 0, 1) else none)))) else (bif Nat.blt x 270 then (bif Nat.blt x 266 then (bif Nat.beq x 263 then some (.getfield 45, 3) else none) else (bif Nat.blt x 267 then (bif Nat.beq x 266 then some (.aload_n 0, 1) else none) else (bif Nat.beq x 267 then some (.getfield 17, 3) else none))) else (bif Nat.blt x 271 then (bif Nat.beq x 270 then some (.iload_n 2, 1) else none) else (bif Nat.blt x 272 then (bif Nat.beq x 271 then some (.iaload, 1) else none) else (bif Nat.beq x 272 then some (.iaload, 1) else none))))) else (bif Nat.blt x 282 then (bif Nat.blt x 277 then (bif Nat.blt x 276 then (bif Nat.beq x 273 then some (.goto 4, 3) else none) else (bif Nat.beq x 276 then some (.iconst 0, 1) else none)) else (bif Nat.blt x 278 then (bif Nat.beq x 277 then some (.ior, 1) else none) else (bif Nat.blt x 279 then (bif Nat.beq x 278 then some (.iastore, 1) else none) else (bif Nat.beq x 279 then some (.iinc 3 1, 3) else none)))) else (bif Nat.blt x 291 then (bif Nat.blt x 285 then (bif Nat.beq x 282 then some (.goto (-82), 3) else none) else (bif Nat.blt x 288 then (bif Nat.beq x 285 then some (.iinc 2 1, 3) else none) else (bif Nat.beq x 288 then some (.goto (-98), 3) else none))) else (bif Nat.blt x 294 then (bif Nat.beq x 291 then some (.iinc 1 1, 3) else none) else (bif Nat.blt x 297 then (bif Nat.beq x 294 then some (.goto (-112), 3) else none) else (bif Nat.beq x 297 then some (.return_, 1) else none))))))))
def q_t49 (x : Nat) : Option (Instr × Nat) := bif Nat.blt x 24 then (bif Nat.blt x 11 then (bif Nat.blt x 7 then (bif Nat.blt x 1 then (bif Nat.beq x 0 then some (.aload_n 0, 1) else none) else (bif Nat.blt x 4 then (bif Nat.beq x 1 then some (.getfield 51, 3) else none) else (bif Nat.beq x 4 then some (.sipush 128, 3) else none))) else (bif Nat.blt x 9 then (bif Nat.blt x 8 then (bif Nat.beq x 7 then some (.iload_n 1, 1) else none) else (bif Nat.beq x 8 then some (.imul, 1) else none)) else (bif Nat.blt x 10 then (bif Nat.beq x 9 then some (.iload_n 2, 1) else none) else (bif Nat.beq x 10 then some (.iadd, 1) else none)))) else (bif Nat.blt x 18 then (bif Nat.blt x 14 then (bif Nat.blt x 12 then (bif Nat.beq x 11 then some (.iaload, 1) else none) else (bif Nat.beq x 12 then some (.istore 4, 2) else none)) else (bif Nat.blt x 15 then (bif Nat.beq x 14 then some (.aload_n 0, 1) else none) else (bif Nat.beq x 15 then some (.getfield 51, 3) else none))) else (bif Nat.blt x 22 then (bif Nat.blt x 21 then (bif Nat.beq x 18 then some (.sipush 128, 3) else none) else (bif Nat.beq x 21 then some (.iload_n 1, 1) else none)) else (bif Nat.blt x 23 then (bif Nat.beq x 22 then some (.imul, 1) else none) else (bif Nat.beq x 23 then some (.iload_n 2, 1) else none))))) else (bif Nat.blt x 33 then (bif Nat.blt x 28 then (bif Nat.blt x 25 then (bif Nat.beq x 24 then some (.iadd, 1) else none) else (bif Nat.blt x 27 then (bif Nat.beq x 25 then some (.iload 4, 2) else none) else (bif Nat.beq x 27 then some (.iload_n 3, 1) else none))) else (bif Nat.blt x 30 then (bif Nat.blt x 29 then (bif Nat.beq x 28 then some (.ior, 1) else none) else (bif Nat.beq x 29 then some (.iastore, 1) else none)) else (bif Nat.blt x 31 then (bif Nat.beq x 30 then some (.iload_n 3, 1) else none) else (bif Nat.beq x 31 then some (.iload 4, 2) else none)))) else (bif Nat.blt x 39 then (bif Nat.blt x 35 then (bif Nat.blt x 34 then (bif Nat.beq x 33 then some (.iconst (-1), 1) else none) else (bif Nat.beq x 34 then some (.ixor, 1) else none)) else (bif Nat.blt x 36 then (bif Nat.beq x 35 then some (.iand, 1) else none) else (bif Nat.beq x 36 then some (.ifCond .eq 7, 3) else none))) else (bif Nat.blt x 43 then (bif Nat.blt x 40 then (bif Nat.beq x 39 then some (.iconst 1, 1) else none) else (bif Nat.beq x 40 then some (.goto 4, 3) else none)) else (bif Nat.blt x 44 then (bif Nat.beq x 43 then some (.iconst 0, 1) else none) else (bif Nat.beq x 44 then some (.ireturn, 1) else none)))))
def q_t50 (x : Nat) : Option (Instr × Nat) := bif Nat.blt x 93 then (bif Nat.blt x 48 then (bif Nat.blt x 22 then (bif Nat.blt x 9 then (bif Nat.blt x 4 then (bif Nat.blt x 1 then (bif Nat.beq x 0 then some (.iload_n 2, 1) else none) else (bif Nat.blt x 3 then (bif Nat.beq x 1 then some (.bipush 8, 2) else none) else (bif Nat.beq x 3 then some (.idiv, 1) else none))) else (bif Nat.blt x 6 then (bif Nat.blt x 5 then (bif Nat.beq x 4 then some (.istore_n 3, 1) else none) else (bif Nat.beq x 5 then some (.iload_n 2, 1) else none)) else (bif Nat.blt x 8 then (bif Nat.beq x 6 then some (.bipush 8, 2) else none) else (bif Nat.beq x 8 then some (.irem, 1) else none)))) else (bif Nat.blt x 18 then (bif Nat.blt x 12 then (bif Nat.blt x 11 then (bif Nat.beq x 9 then some (.istore 4, 2) else none) else (bif Nat.beq x 11 then some (.aload_n 0, 1) else none)) else (bif Nat.blt x 15 then (bif Nat.beq x 12 then some (.getfield 48, 3) else none) else (bif Nat.beq x 15 then some (.sipush 128, 3) else none))) else (bif Nat.blt x 20 then (bif Nat.blt x 19 then (bif Nat.beq x 18 then some (.iload_n 1, 1) else none) else (bif Nat.beq x 19 then some (.imul, 1) else none)) else (bif Nat.blt x 21 then (bif Nat.beq x 20 then some (.iload_n 2, 1) else none) else (bif Nat.beq x 21 then some (.iadd, 1) else none))))) else (bif Nat.blt x 34 then (bif Nat.blt x 28 then (bif Nat.blt x 23 then (bif Nat.beq x 22 then some (.baload, 1) else none) else (bif Nat.blt x 26 then (bif Nat.beq x 23 then some (.ifCond .eq 14, 3) else none) else (bif Nat.beq x 26 then some (.iload 4, 2) else none))) else (bif Nat.blt x 32 then (bif Nat.blt x 29 then (bif Nat.beq x 28 then some (.aload_n 0, 1) else none) else (bif Nat.beq x 29 then some (.getfield 20, 3) else none)) else (bif Nat.blt x 33 then (bif Nat.beq x 32 then some (.iload_n 3, 1) else none) else (bif Nat.beq x 33 then some (.iaload, 1) else none)))) else (bif Nat.blt x 40 then (bif Nat.blt x 38 then (bif Nat.blt x 37 then (bif Nat.beq x 34 then some (.if_icmp .lt 5, 3) else none) else (bif Nat.beq x 37 then some (.iconst 0, 1) else none)) else (bif Nat.blt x 39 then (bif Nat.beq x 38 then some (.ireturn, 1) else none) else (bif Nat.beq x 39 then some (.aload_n 0, 1) else none))) else (bif Nat.blt x 46 then (bif Nat.blt x 43 then (bif Nat.beq x 40 then some (.getfield 51, 3) else none) else (bif Nat.beq x 43 then some (.sipush 128, 3) else none)) else (bif Nat.blt x 47 then (bif Nat.beq x 46 then some (.iload_n 1, 1) else none) else (bif Nat.beq x 47 then some (.imul, 1) else none)))))) else (bif Nat.blt x 68 then (bif Nat.blt x 58 then (bif Nat.blt x 51 then (bif Nat.blt x 49 then (bif Nat.beq x 48 then some (.iload_n 2, 1) else none) else (bif Nat.blt x 50 then (bif Nat.beq x 49 then some (.iadd, 1) else none) else (bif Nat.beq x 50 then some (.iaload, 1) else none))) else (bif Nat.blt x 54 then (bif Nat.blt x 53 then (bif Nat.beq x 51 then some (.istore 5, 2) else none) else (bif Nat.beq x 53 then some (.aload_n 0, 1) else none)) else (bif Nat.blt x 57 then (bif Nat.beq x 54 then some (.getfield 23, 3) else none) else (bif Nat.beq x 57 then some (.iconst 4, 1) else none)))) else (bif Nat.blt x 63 then (bif Nat.blt x 60 then (bif Nat.blt x 59 then (bif Nat.beq x 58 then some (.iload_n 3, 1) else none) else (bif Nat.beq x 59 then some (.imul, 1) else none)) else (bif Nat.blt x 62 then (bif Nat.beq x 60 then some (.iload 4, 2) else none) else (bif Nat.beq x 62 then some (.iadd, 1) else none))) else (bif Nat.blt x 66 then (bif Nat.blt x 64 then (bif Nat.beq x 63 then some (.iaload, 1) else none) else (bif Nat.beq x 64 then some (.istore 6, 2) else none)) else (bif Nat.blt x 67 then (bif Nat.beq x 66 then some (.aload_n 0, 1) else none) else (bif Nat.beq x 67 then some (.aload_n 0, 1) else none))))) else (bif Nat.blt x 79 then (bif Nat.blt x 74 then (bif Nat.blt x 71 then (bif Nat.beq x 68 then some (.getfield 54, 3) else none) else (bif Nat.blt x 73 then (bif Nat.beq x 71 then some (.bipush 16, 2) else none) else (bif Nat.beq x 73 then some (.iload_n 1, 1) else none))) else (bif Nat.blt x 77 then (bif Nat.blt x 75 then (bif Nat.beq x 74 then some (.imul, 1) else none) else (bif Nat.beq x 75 then some (.iload 6, 2) else none)) else (bif Nat.blt x 78 then (bif Nat.beq x 77 then some (.iadd, 1) else none) else (bif Nat.beq x 78 then some (.iaload, 1) else none)))) else (bif Nat.blt x 84 then (bif Nat.blt x 81 then (bif Nat.blt x 80 then (bif Nat.beq x 79 then some (.iload_n 2, 1) else none) else (bif Nat.beq x 80 then some (.iconst 1, 1) else none)) else (bif Nat.blt x 82 then (bif Nat.beq x 81 then some (.iadd, 1) else none) else (bif Nat.beq x 82 then some (.iload 5, 2) else none))) else (bif Nat.blt x 89 then (bif Nat.blt x 87 then (bif Nat.beq x 84 then some (.invokevirtual 164, 3) else none) else (bif Nat.beq x 87 then some (.istore 7, 2) else none)) else (bif Nat.blt x 91 then (bif Nat.beq x 89 then some (.iload 6, 2) else none) else (bif Nat.beq x 91 then some (.bipush 8, 2) else none))))))) else (bif Nat.blt x 149 then (bif Nat.blt x 119 then (bif Nat.blt x 105 then (bif Nat.blt x 98 then (bif Nat.blt x 96 then (bif Nat.beq x 93 then some (.if_icmp .ge 34, 3) else none) else (bif Nat.blt x 97 then (bif Nat.beq x 96 then some (.aload_n 0, 1) else none) else (bif Nat.beq x 97 then some (.iload_n 3, 1) else none))) else (bif Nat.blt x 101 then (bif Nat.blt x 100 then (bif Nat.beq x 98 then some (.iload 4, 2) else none) else (bif Nat.beq x 100 then some (.iconst 1, 1) else none)) else (bif Nat.blt x 102 then (bif Nat.beq x 101 then some (.iadd, 1) else none) else (bif Nat.beq x 102 then some (.invokevirtual 161, 3) else none)))) else (bif Nat.blt x 110 then (bif Nat.blt x 107 then (bif Nat.blt x 106 then (bif Nat.beq x 105 then some (.aload_n 0, 1) else none) else (bif Nat.beq x 106 then some (.iload_n 3, 1) else none)) else (bif Nat.blt x 109 then (bif Nat.beq x 107 then some (.iload 4, 2) else none) else (bif Nat.beq x 109 then some (.iconst 1, 1) else none))) else (bif Nat.blt x 114 then (bif Nat.blt x 111 then (bif Nat.beq x 110 then some (.iadd, 1) else none) else (bif Nat.beq x 111 then some (.invokevirtual 158, 3) else none)) else (bif Nat.blt x 117 then (bif Nat.beq x 114 then some (.ifCond .eq 8, 3) else none) else (bif Nat.beq x 117 then some (.iload 5, 2) else none))))) else (bif Nat.blt x 131 then (bif Nat.blt x 124 then (bif Nat.blt x 122 then (bif Nat.beq x 119 then some (.goto 4, 3) else none) else (bif Nat.blt x 123 then (bif Nat.beq x 122 then some (.iconst 0, 1) else none) else (bif Nat.beq x 123 then some (.ior, 1) else none))) else (bif Nat.blt x 128 then (bif Nat.blt x 127 then (bif Nat.beq x 124 then some (.goto 4, 3) else none) else (bif Nat.beq x 127 then some (.iconst 0, 1) else none)) else (bif Nat.blt x 130 then (bif Nat.beq x 128 then some (.istore 8, 2) else none) else (bif Nat.beq x 130 then some (.iconst 1, 1) else none)))) else (bif Nat.blt x 139 then (bif Nat.blt x 135 then (bif Nat.blt x 133 then (bif Nat.beq x 131 then some (.istore 9, 2) else none) else (bif Nat.beq x 133 then some (.iload 9, 2) else none)) else (bif Nat.blt x 136 then (bif Nat.beq x 135 then some (.aload_n 0, 1) else none) else (bif Nat.beq x 136 then some (.getfield 98, 3) else none))) else (bif Nat.blt x 144 then (bif Nat.blt x 142 then (bif Nat.beq x 139 then some (.if_icmp .gt 67, 3) else none) else (bif Nat.beq x 142 then some (.iload 6, 2) else none)) else (bif Nat.blt x 146 then (bif Nat.beq x 144 then some (.bipush 8, 2) else none) else (bif Nat.beq x 146 then some (.if_icmp .ge 60, 3) else none)))))) else (bif Nat.blt x 177 then (bif Nat.blt x 162 then (bif Nat.blt x 155 then (bif Nat.blt x 150 then (bif Nat.beq x 149 then some (.aload_n 0, 1) else none) else (bif Nat.blt x 153 then (bif Nat.beq x 150 then some (.getfield 17, 3) else none) else (bif Nat.beq x 153 then some (.iload 9, 2) else none))) else (bif Nat.blt x 158 then (bif Nat.blt x 156 then (bif Nat.beq x 155 then some (.iaload, 1) else none) else (bif Nat.beq x 156 then some (.iload 6, 2) else none)) else (bif Nat.blt x 161 then (bif Nat.beq x 158 then some (.if_icmp .ne 22, 3) else none) else (bif Nat.beq x 161 then some (.aload_n 0, 1) else none)))) else (bif Nat.blt x 168 then (bif Nat.blt x 165 then (bif Nat.blt x 163 then (bif Nat.beq x 162 then some (.iload_n 1, 1) else none) else (bif Nat.beq x 163 then some (.bipush 8, 2) else none)) else (bif Nat.blt x 167 then (bif Nat.beq x 165 then some (.iload 9, 2) else none) else (bif Nat.beq x 167 then some (.imul, 1) else none))) else (bif Nat.blt x 173 then (bif Nat.blt x 170 then (bif Nat.beq x 168 then some (.iload 8, 2) else none) else (bif Nat.beq x 170 then some (.invokevirtual 164, 3) else none)) else (bif Nat.blt x 176 then (bif Nat.beq x 173 then some (.ifCond .eq 7, 3) else none) else (bif Nat.beq x 176 then some (.iconst 1, 1) else none))))) else (bif Nat.blt x 193 then (bif Nat.blt x 183 then (bif Nat.blt x 180 then (bif Nat.beq x 177 then some (.goto 4, 3) else none) else (bif Nat.blt x 181 then (bif Nat.beq x 180 then some (.iconst 0, 1) else none) else (bif Nat.beq x 181 then some (.istore 10, 2) else none))) else (bif Nat.blt x 188 then (bif Nat.blt x 185 then (bif Nat.beq x 183 then some (.iload 7, 2) else none) else (bif Nat.beq x 185 then some (.ifCond .ne 8, 3) else none)) else (bif Nat.blt x 190 then (bif Nat.beq x 188 then some (.iload 10, 2) else none) else (bif Nat.beq x 190 then some (.ifCond .eq 7, 3) else none)))) else (bif Nat.blt x 200 then (bif Nat.blt x 197 then (bif Nat.blt x 194 then (bif Nat.beq x 193 then some (.iconst 1, 1) else none) else (bif Nat.beq x 194 then some (.goto 4, 3) else none)) else (bif Nat.blt x 198 then (bif Nat.beq x 197 then some (.iconst 0, 1) else none) else (bif Nat.beq x 198 then some (.istore 7, 2) else none))) else (bif Nat.blt x 206 then (bif Nat.blt x 203 then (bif Nat.beq x 200 then some (.iinc 9 1, 3) else none) else (bif Nat.beq x 203 then some (.goto (-70), 3) else none)) else (bif Nat.blt x 208 then (bif Nat.beq x 206 then some (.iload 7, 2) else none) else (bif Nat.beq x 208 then some (.ireturn, 1) else none)))))))
def q_t51 (x : Nat) : Option (Instr × Nat) := bif Nat.blt x 42 then (bif Nat.blt x 23 then (bif Nat.blt x 10 then (bif Nat.blt x 3 then (bif Nat.blt x 1 then (bif Nat.beq x 0 then some (.iconst 0, 1) else none) else (bif Nat.blt x 2 then (bif Nat.beq x 1 then some (.istore_n 1, 1) else none) else (bif Nat.beq x 2 then some (.iload_n 1, 1) else none))) else (bif Nat.blt x 6 then (bif Nat.beq x 3 then some (.sipush 5120, 3) else none) else (bif Nat.blt x 9 then (bif Nat.beq x 6 then some (.if_icmp .ge 16, 3) else none) else (bif Nat.beq x 9 then some (.aload_n 0, 1) else none)))) else (bif Nat.blt x 15 then (bif Nat.blt x 13 then (bif Nat.beq x 10 then some (.getfield 51, 3) else none) else (bif Nat.blt x 14 then (bif Nat.beq x 13 then some (.iload_n 1, 1) else none) else (bif Nat.beq x 14 then some (.iconst 0, 1) else none))) else (bif Nat.blt x 19 then (bif Nat.blt x 16 then (bif Nat.beq x 15 then some (.iastore, 1) else none) else (bif Nat.beq x 16 then some (.iinc 1 1, 3) else none)) else (bif Nat.blt x 22 then (bif Nat.beq x 19 then some (.goto (-17), 3) else none) else (bif Nat.beq x 22 then some (.aload_n 0, 1) else none))))) else (bif Nat.blt x 33 then (bif Nat.blt x 30 then (bif Nat.blt x 26 then (bif Nat.beq x 23 then some (.getfield 51, 3) else none) else (bif Nat.blt x 27 then (bif Nat.beq x 26 then some (.iconst 0, 1) else none) else (bif Nat.beq x 27 then some (.sipush 256, 3) else none))) else (bif Nat.blt x 31 then (bif Nat.beq x 30 then some (.iastore, 1) else none) else (bif Nat.blt x 32 then (bif Nat.beq x 31 then some (.iconst 1, 1) else none) else (bif Nat.beq x 32 then some (.istore_n 1, 1) else none)))) else (bif Nat.blt x 38 then (bif Nat.blt x 34 then (bif Nat.beq x 33 then some (.iload_n 1, 1) else none) else (bif Nat.blt x 37 then (bif Nat.beq x 34 then some (.ifCond .eq 62, 3) else none) else (bif Nat.beq x 37 then some (.iconst 0, 1) else none))) else (bif Nat.blt x 40 then (bif Nat.blt x 39 then (bif Nat.beq x 38 then some (.istore_n 1, 1) else none) else (bif Nat.beq x 39 then some (.iconst 0, 1) else none)) else (bif Nat.blt x 41 then (bif Nat.beq x 40 then some (.istore_n 2, 1) else none) else (bif Nat.beq x 41 then some (.iload_n 2, 1) else none)))))) else (bif Nat.blt x 66 then (bif Nat.blt x 52 then (bif Nat.blt x 49 then (bif Nat.blt x 43 then (bif Nat.beq x 42 then some (.aload_n 0, 1) else none) else (bif Nat.blt x 46 then (bif Nat.beq x 43 then some (.getfield 148, 3) else none) else (bif Nat.beq x 46 then some (.if_icmp .ge 47, 3) else none))) else (bif Nat.blt x 50 then (bif Nat.beq x 49 then some (.iconst 0, 1) else none) else (bif Nat.blt x 51 then (bif Nat.beq x 50 then some (.istore_n 3, 1) else none) else (bif Nat.beq x 51 then some (.iload_n 3, 1) else none)))) else (bif Nat.blt x 59 then (bif Nat.blt x 55 then (bif Nat.beq x 52 then some (.sipush 128, 3) else none) else (bif Nat.blt x 58 then (bif Nat.beq x 55 then some (.if_icmp .ge 32, 3) else none) else (bif Nat.beq x 58 then some (.aload_n 0, 1) else none))) else (bif Nat.blt x 61 then (bif Nat.blt x 60 then (bif Nat.beq x 59 then some (.iload_n 2, 1) else none) else (bif Nat.beq x 60 then some (.iload_n 3, 1) else none)) else (bif Nat.blt x 64 then (bif Nat.beq x 61 then some (.invokevirtual 168, 3) else none) else (bif Nat.beq x 64 then some (.istore 4, 2) else none))))) else (bif Nat.blt x 80 then (bif Nat.blt x 72 then (bif Nat.blt x 67 then (bif Nat.beq x 66 then some (.iload_n 1, 1) else none) else (bif Nat.blt x 70 then (bif Nat.beq x 67 then some (.ifCond .ne 8, 3) else none) else (bif Nat.beq x 70 then some (.iload 4, 2) else none))) else (bif Nat.blt x 76 then (bif Nat.blt x 75 then (bif Nat.beq x 72 then some (.ifCond .eq 7, 3) else none) else (bif Nat.beq x 75 then some (.iconst 1, 1) else none)) else (bif Nat.blt x 79 then (bif Nat.beq x 76 then some (.goto 4, 3) else none) else (bif Nat.beq x 79 then some (.iconst 0, 1) else none)))) else (bif Nat.blt x 87 then (bif Nat.blt x 81 then (bif Nat.beq x 80 then some (.istore_n 1, 1) else none) else (bif Nat.blt x 84 then (bif Nat.beq x 81 then some (.iinc 3 1, 3) else none) else (bif Nat.beq x 84 then some (.goto (-33), 3) else none))) else (bif Nat.blt x 93 then (bif Nat.blt x 90 then (bif Nat.beq x 87 then some (.iinc 2 1, 3) else none) else (bif Nat.beq x 90 then some (.goto (-49), 3) else none)) else (bif Nat.blt x 96 then (bif Nat.beq x 93 then some (.goto (-60), 3) else none) else (bif Nat.beq x 96 then some (.return_, 1) else none))))))
def q_t52 (x : Nat) : Option (Instr × Nat) := bif Nat.blt x 47 then (bif Nat.blt x 20 then (bif Nat.blt x 11 then (bif Nat.blt x 7 then (bif Nat.blt x 1 then (bif Nat.beq x 0 then some (.aload_n 0, 1) else none) else (bif Nat.blt x 4 then (bif Nat.beq x 1 then some (.getfield 48, 3) else none) else (bif Nat.beq x 4 then some (.sipush 128, 3) else none))) else (bif Nat.blt x 8 then (bif Nat.beq x 7 then some (.iload_n 1, 1) else none) else (bif Nat.blt x 9 then (bif Nat.beq x 8 then some (.imul, 1) else none) else (bif Nat.beq x 9 then some (.bipush 8, 2) else none)))) else (bif Nat.blt x 14 then (bif Nat.blt x 12 then (bif Nat.beq x 11 then some (.iload_n 2, 1) else none) else (bif Nat.blt x 13 then (bif Nat.beq x 12 then some (.imul, 1) else none) else (bif Nat.beq x 13 then some (.iadd, 1) else none))) else (bif Nat.blt x 18 then (bif Nat.blt x 15 then (bif Nat.beq x 14 then some (.aload_n 0, 1) else none) else (bif Nat.beq x 15 then some (.getfield 20, 3) else none)) else (bif Nat.blt x 19 then (bif Nat.beq x 18 then some (.iload_n 2, 1) else none) else (bif Nat.beq x 19 then some (.iaload, 1) else none))))) else (bif Nat.blt x 28 then (bif Nat.blt x 25 then (bif Nat.blt x 21 then (bif Nat.beq x 20 then some (.iadd, 1) else none) else (bif Nat.blt x 22 then (bif Nat.beq x 21 then some (.baload, 1) else none) else (bif Nat.beq x 22 then some (.ifCond .ne 5, 3) else none))) else (bif Nat.blt x 26 then (bif Nat.beq x 25 then some (.iconst 0, 1) else none) else (bif Nat.blt x 27 then (bif Nat.beq x 26 then some (.ireturn, 1) else none) else (bif Nat.beq x 27 then some (.iload_n 2, 1) else none)))) else (bif Nat.blt x 37 then (bif Nat.blt x 31 then (bif Nat.beq x 28 then some (.ifCond .ne 9, 3) else none) else (bif Nat.blt x 34 then (bif Nat.beq x 31 then some (.sipush 256, 3) else none) else (bif Nat.beq x 34 then some (.goto 54, 3) else none))) else (bif Nat.blt x 41 then (bif Nat.blt x 38 then (bif Nat.beq x 37 then some (.iload_n 3, 1) else none) else (bif Nat.beq x 38 then some (.ifCond .ne 9, 3) else none)) else (bif Nat.blt x 44 then (bif Nat.beq x 41 then some (.sipush 511, 3) else none) else (bif Nat.beq x 44 then some (.goto 44, 3) else none)))))) else (bif Nat.blt x 70 then (bif Nat.blt x 57 then (bif Nat.blt x 52 then (bif Nat.blt x 48 then (bif Nat.beq x 47 then some (.iload_n 3, 1) else none) else (bif Nat.blt x 49 then (bif Nat.beq x 48 then some (.iconst 1, 1) else none) else (bif Nat.beq x 49 then some (.if_icmp .ne 17, 3) else none))) else (bif Nat.blt x 53 then (bif Nat.beq x 52 then some (.aload_n 0, 1) else none) else (bif Nat.blt x 56 then (bif Nat.beq x 53 then some (.getfield 45, 3) else none) else (bif Nat.beq x 56 then some (.aload_n 0, 1) else none)))) else (bif Nat.blt x 62 then (bif Nat.blt x 60 then (bif Nat.beq x 57 then some (.getfield 17, 3) else none) else (bif Nat.blt x 61 then (bif Nat.beq x 60 then some (.iload_n 2, 1) else none) else (bif Nat.beq x 61 then some (.iaload, 1) else none))) else (bif Nat.blt x 66 then (bif Nat.blt x 63 then (bif Nat.beq x 62 then some (.iaload, 1) else none) else (bif Nat.beq x 63 then some (.goto 25, 3) else none)) else (bif Nat.blt x 67 then (bif Nat.beq x 66 then some (.aload_n 0, 1) else none) else (bif Nat.beq x 67 then some (.getfield 51, 3) else none))))) else (bif Nat.blt x 80 then (bif Nat.blt x 75 then (bif Nat.blt x 73 then (bif Nat.beq x 70 then some (.sipush 128, 3) else none) else (bif Nat.blt x 74 then (bif Nat.beq x 73 then some (.iload_n 1, 1) else none) else (bif Nat.beq x 74 then some (.imul, 1) else none))) else (bif Nat.blt x 78 then (bif Nat.blt x 77 then (bif Nat.beq x 75 then some (.bipush 8, 2) else none) else (bif Nat.beq x 77 then some (.iload_n 2, 1) else none)) else (bif Nat.blt x 79 then (bif Nat.beq x 78 then some (.imul, 1) else none) else (bif Nat.beq x 79 then some (.iadd, 1) else none)))) else (bif Nat.blt x 85 then (bif Nat.blt x 81 then (bif Nat.beq x 80 then some (.aload_n 0, 1) else none) else (bif Nat.blt x 84 then (bif Nat.beq x 81 then some (.getfield 20, 3) else none) else (bif Nat.beq x 84 then some (.iload_n 2, 1) else none))) else (bif Nat.blt x 87 then (bif Nat.blt x 86 then (bif Nat.beq x 85 then some (.iaload, 1) else none) else (bif Nat.beq x 86 then some (.iadd, 1) else none)) else (bif Nat.blt x 88 then (bif Nat.beq x 87 then some (.iaload, 1) else none) else (bif Nat.beq x 88 then some (.ireturn, 1) else none))))))
def q_t53 (x : Nat) : Option (Instr × Nat) := bif Nat.blt x 21 then (bif Nat.blt x 9 then (bif Nat.blt x 4 then (bif Nat.blt x 1 then (bif Nat.beq x 0 then some (.iconst 0, 1) else none) else (bif Nat.blt x 3 then (bif Nat.beq x 1 then some (.istore 4, 2) else none) else (bif Nat.beq x 3 then some (.iconst 0, 1) else none))) else (bif Nat.blt x 6 then (bif Nat.beq x 4 then some (.istore 5, 2) else none) else (bif Nat.blt x 8 then (bif Nat.beq x 6 then some (.iload 5, 2) else none) else (bif Nat.beq x 8 then some (.aload_n 0, 1) else none)))) else (bif Nat.blt x 17 then (bif Nat.blt x 12 then (bif Nat.beq x 9 then some (.getfield 98, 3) else none) else (bif Nat.blt x 15 then (bif Nat.beq x 12 then some (.if_icmp .gt 26, 3) else none) else (bif Nat.beq x 15 then some (.iload 4, 2) else none))) else (bif Nat.blt x 18 then (bif Nat.beq x 17 then some (.aload_n 0, 1) else none) else (bif Nat.blt x 19 then (bif Nat.beq x 18 then some (.iload_n 1, 1) else none) else (bif Nat.beq x 19 then some (.iload 5, 2) else none))))) else (bif Nat.blt x 29 then (bif Nat.blt x 26 then (bif Nat.blt x 22 then (bif Nat.beq x 21 then some (.iload_n 3, 1) else none) else (bif Nat.blt x 25 then (bif Nat.beq x 22 then some (.invokevirtual 171, 3) else none) else (bif Nat.beq x 25 then some (.iload_n 2, 1) else none))) else (bif Nat.blt x 27 then (bif Nat.beq x 26 then some (.ishr, 1) else none) else (bif Nat.blt x 28 then (bif Nat.beq x 27 then some (.iconst 1, 1) else none) else (bif Nat.beq x 28 then some (.iand, 1) else none)))) else (bif Nat.blt x 35 then (bif Nat.blt x 30 then (bif Nat.beq x 29 then some (.iadd, 1) else none) else (bif Nat.blt x 32 then (bif Nat.beq x 30 then some (.istore 4, 2) else none) else (bif Nat.beq x 32 then some (.iinc 5 1, 3) else none))) else (bif Nat.blt x 38 then (bif Nat.beq x 35 then some (.goto (-29), 3) else none) else (bif Nat.blt x 40 then (bif Nat.beq x 38 then some (.iload 4, 2) else none) else (bif Nat.beq x 40 then some (.ireturn, 1) else none)))))
def q_t54 (x : Nat) : Option (Instr × Nat) := bif Nat.blt x 16 then (bif Nat.blt x 7 then (bif Nat.blt x 3 then (bif Nat.blt x 1 then (bif Nat.beq x 0 then some (.iload_n 2, 1) else none) else (bif Nat.beq x 1 then some (.bipush 8, 2) else none)) else (bif Nat.blt x 6 then (bif Nat.beq x 3 then some (.if_icmp .ne 7, 3) else none) else (bif Nat.beq x 6 then some (.iconst (-1), 1) else none))) else (bif Nat.blt x 11 then (bif Nat.blt x 10 then (bif Nat.beq x 7 then some (.goto 17, 3) else none) else (bif Nat.beq x 10 then some (.aload_n 0, 1) else none)) else (bif Nat.blt x 14 then (bif Nat.beq x 11 then some (.getfield 54, 3) else none) else (bif Nat.beq x 14 then some (.bipush 16, 2) else none)))) else (bif Nat.blt x 21 then (bif Nat.blt x 18 then (bif Nat.blt x 17 then (bif Nat.beq x 16 then some (.iload_n 1, 1) else none) else (bif Nat.beq x 17 then some (.imul, 1) else none)) else (bif Nat.blt x 20 then (bif Nat.beq x 18 then some (.bipush 8, 2) else none) else (bif Nat.beq x 20 then some (.iadd, 1) else none))) else (bif Nat.blt x 23 then (bif Nat.blt x 22 then (bif Nat.beq x 21 then some (.iload_n 2, 1) else none) else (bif Nat.beq x 22 then some (.iadd, 1) else none)) else (bif Nat.blt x 24 then (bif Nat.beq x 23 then some (.iaload, 1) else none) else (bif Nat.beq x 24 then some (.ireturn, 1) else none))))
def q_t55 (x : Nat) : Option (Instr × Nat) := bif Nat.blt x 22 then (bif Nat.blt x 10 then (bif Nat.blt x 3 then (bif Nat.blt x 1 then (bif Nat.beq x 0 then some (.iconst (-1), 1) else none) else (bif Nat.blt x 2 then (bif Nat.beq x 1 then some (.istore_n 3, 1) else none) else (bif Nat.beq x 2 then some (.aload_n 0, 1) else none))) else (bif Nat.blt x 6 then (bif Nat.beq x 3 then some (.getfield 98, 3) else none) else (bif Nat.blt x 8 then (bif Nat.beq x 6 then some (.istore 4, 2) else none) else (bif Nat.beq x 8 then some (.iload 4, 2) else none)))) else (bif Nat.blt x 15 then (bif Nat.blt x 13 then (bif Nat.beq x 10 then some (.ifCond .lt 32, 3) else none) else (bif Nat.blt x 14 then (bif Nat.beq x 13 then some (.aload_n 0, 1) else none) else (bif Nat.beq x 14 then some (.iload_n 1, 1) else none))) else (bif Nat.blt x 18 then (bif Nat.blt x 17 then (bif Nat.beq x 15 then some (.iload 4, 2) else none) else (bif Nat.beq x 17 then some (.iconst 2, 1) else none)) else (bif Nat.blt x 21 then (bif Nat.beq x 18 then some (.invokevirtual 171, 3) else none) else (bif Nat.beq x 21 then some (.iload_n 2, 1) else none))))) else (bif Nat.blt x 31 then (bif Nat.blt x 25 then (bif Nat.blt x 23 then (bif Nat.beq x 22 then some (.ishr, 1) else none) else (bif Nat.blt x 24 then (bif Nat.beq x 23 then some (.iconst 1, 1) else none) else (bif Nat.beq x 24 then some (.iand, 1) else none))) else (bif Nat.blt x 26 then (bif Nat.beq x 25 then some (.iconst 1, 1) else none) else (bif Nat.blt x 29 then (bif Nat.beq x 26 then some (.if_icmp .ne 8, 3) else none) else (bif Nat.beq x 29 then some (.iload 4, 2) else none)))) else (bif Nat.blt x 36 then (bif Nat.blt x 34 then (bif Nat.beq x 31 then some (.goto 4, 3) else none) else (bif Nat.blt x 35 then (bif Nat.beq x 34 then some (.iload_n 3, 1) else none) else (bif Nat.beq x 35 then some (.istore_n 3, 1) else none))) else (bif Nat.blt x 42 then (bif Nat.blt x 39 then (bif Nat.beq x 36 then some (.iinc 4 (-1), 3) else none) else (bif Nat.beq x 39 then some (.goto (-31), 3) else none)) else (bif Nat.blt x 43 then (bif Nat.beq x 42 then some (.iload_n 3, 1) else none) else (bif Nat.beq x 43 then some (.ireturn, 1) else none)))))
def q_t56 (x : Nat) : Option (Instr × Nat) := bif Nat.blt x 29 then (bif Nat.blt x 14 then (bif Nat.blt x 5 then (bif Nat.blt x 2 then (bif Nat.blt x 1 then (bif Nat.beq x 0 then some (.iconst 0, 1) else none) else (bif Nat.beq x 1 then some (.istore_n 2, 1) else none)) else (bif Nat.blt x 3 then (bif Nat.beq x 2 then some (.iconst 0, 1) else none) else (bif Nat.blt x 4 then (bif Nat.beq x 3 then some (.istore_n 3, 1) else none) else (bif Nat.beq x 4 then some (.iload_n 3, 1) else none)))) else (bif Nat.blt x 9 then (bif Nat.blt x 6 then (bif Nat.beq x 5 then some (.aload_n 0, 1) else none) else (bif Nat.beq x 6 then some (.getfield 20, 3) else none)) else (bif Nat.blt x 10 then (bif Nat.beq x 9 then some (.iload_n 1, 1) else none) else (bif Nat.blt x 11 then (bif Nat.beq x 10 then some (.iaload, 1) else none) else (bif Nat.beq x 11 then some (.if_icmp .ge 47, 3) else none))))) else (bif Nat.blt x 21 then (bif Nat.blt x 18 then (bif Nat.blt x 15 then (bif Nat.beq x 14 then some (.aload_n 0, 1) else none) else (bif Nat.beq x 15 then some (.getfield 23, 3) else none)) else (bif Nat.blt x 19 then (bif Nat.beq x 18 then some (.iconst 4, 1) else none) else (bif Nat.blt x 20 then (bif Nat.beq x 19 then some (.iload_n 1, 1) else none) else (bif Nat.beq x 20 then some (.imul, 1) else none)))) else (bif Nat.blt x 23 then (bif Nat.blt x 22 then (bif Nat.beq x 21 then some (.iload_n 3, 1) else none) else (bif Nat.beq x 22 then some (.iadd, 1) else none)) else (bif Nat.blt x 24 then (bif Nat.beq x 23 then some (.iaload, 1) else none) else (bif Nat.blt x 26 then (bif Nat.beq x 24 then some (.bipush 7, 2) else none) else (bif Nat.beq x 26 then some (.if_icmp .le 24, 3) else none)))))) else (bif Nat.blt x 43 then (bif Nat.blt x 38 then (bif Nat.blt x 33 then (bif Nat.blt x 30 then (bif Nat.beq x 29 then some (.aload_n 0, 1) else none) else (bif Nat.beq x 30 then some (.getfield 60, 3) else none)) else (bif Nat.blt x 34 then (bif Nat.beq x 33 then some (.aload_n 0, 1) else none) else (bif Nat.blt x 37 then (bif Nat.beq x 34 then some (.getfield 23, 3) else none) else (bif Nat.beq x 37 then some (.iconst 4, 1) else none)))) else (bif Nat.blt x 40 then (bif Nat.blt x 39 then (bif Nat.beq x 38 then some (.iload_n 1, 1) else none) else (bif Nat.beq x 39 then some (.imul, 1) else none)) else (bif Nat.blt x 41 then (bif Nat.beq x 40 then some (.iload_n 3, 1) else none) else (bif Nat.blt x 42 then (bif Nat.beq x 41 then some (.iadd, 1) else none) else (bif Nat.beq x 42 then some (.iaload, 1) else none))))) else (bif Nat.blt x 51 then (bif Nat.blt x 46 then (bif Nat.blt x 45 then (bif Nat.beq x 43 then some (.bipush 8, 2) else none) else (bif Nat.beq x 45 then some (.isub, 1) else none)) else (bif Nat.blt x 47 then (bif Nat.beq x 46 then some (.iaload, 1) else none) else (bif Nat.blt x 50 then (bif Nat.beq x 47 then some (.goto 4, 3) else none) else (bif Nat.beq x 50 then some (.iload_n 2, 1) else none)))) else (bif Nat.blt x 55 then (bif Nat.blt x 52 then (bif Nat.beq x 51 then some (.istore_n 2, 1) else none) else (bif Nat.beq x 52 then some (.iinc 3 1, 3) else none)) else (bif Nat.blt x 58 then (bif Nat.beq x 55 then some (.goto (-51), 3) else none) else (bif Nat.blt x 59 then (bif Nat.beq x 58 then some (.iload_n 2, 1) else none) else (bif Nat.beq x 59 then some (.ireturn, 1) else none))))))
def q_t57 (x : Nat) : Option (Instr × Nat) := bif Nat.blt x 72 then (bif Nat.blt x 32 then (bif Nat.blt x 13 then (bif Nat.blt x 6 then (bif Nat.blt x 2 then (bif Nat.blt x 1 then (bif Nat.beq x 0 then some (.aload_n 0, 1) else none) else (bif Nat.beq x 1 then some (.iload_n 1, 1) else none)) else (bif Nat.blt x 3 then (bif Nat.beq x 2 then some (.iload_n 2, 1) else none) else (bif Nat.beq x 3 then some (.invokevirtual 175, 3) else none))) else (bif Nat.blt x 8 then (bif Nat.blt x 7 then (bif Nat.beq x 6 then some (.istore_n 3, 1) else none) else (bif Nat.beq x 7 then some (.aload_n 0, 1) else none)) else (bif Nat.blt x 9 then (bif Nat.beq x 8 then some (.iload_n 1, 1) else none) else (bif Nat.blt x 10 then (bif Nat.beq x 9 then some (.iload_n 2, 1) else none) else (bif Nat.beq x 10 then some (.invokevirtual 178, 3) else none))))) else (bif Nat.blt x 24 then (bif Nat.blt x 17 then (bif Nat.blt x 15 then (bif Nat.beq x 13 then some (.istore 4, 2) else none) else (bif Nat.beq x 15 then some (.iload 4, 2) else none)) else (bif Nat.blt x 20 then (bif Nat.beq x 17 then some (.ifCond .ge 16, 3) else none) else (bif Nat.blt x 21 then (bif Nat.beq x 20 then some (.iload_n 3, 1) else none) else (bif Nat.beq x 21 then some (.ifCond .ge 7, 3) else none)))) else (bif Nat.blt x 28 then (bif Nat.blt x 25 then (bif Nat.beq x 24 then some (.iconst 0, 1) else none) else (bif Nat.beq x 25 then some (.goto 7, 3) else none)) else (bif Nat.blt x 30 then (bif Nat.beq x 28 then some (.bipush 20, 2) else none) else (bif Nat.blt x 31 then (bif Nat.beq x 30 then some (.iload_n 3, 1) else none) else (bif Nat.beq x 31 then some (.iadd, 1) else none)))))) else (bif Nat.blt x 53 then (bif Nat.blt x 43 then (bif Nat.blt x 35 then (bif Nat.blt x 33 then (bif Nat.beq x 32 then some (.ireturn, 1) else none) else (bif Nat.beq x 33 then some (.iload 4, 2) else none)) else (bif Nat.blt x 38 then (bif Nat.beq x 35 then some (.ifCond .ne 8, 3) else none) else (bif Nat.blt x 40 then (bif Nat.beq x 38 then some (.bipush 16, 2) else none) else (bif Nat.beq x 40 then some (.goto 5, 3) else none)))) else (bif Nat.blt x 47 then (bif Nat.blt x 45 then (bif Nat.beq x 43 then some (.iload 4, 2) else none) else (bif Nat.beq x 45 then some (.istore 5, 2) else none)) else (bif Nat.blt x 48 then (bif Nat.beq x 47 then some (.iload_n 3, 1) else none) else (bif Nat.blt x 51 then (bif Nat.beq x 48 then some (.ifCond .ge 6, 3) else none) else (bif Nat.beq x 51 then some (.iload 5, 2) else none))))) else (bif Nat.blt x 62 then (bif Nat.blt x 55 then (bif Nat.blt x 54 then (bif Nat.beq x 53 then some (.ireturn, 1) else none) else (bif Nat.beq x 54 then some (.aload_n 0, 1) else none)) else (bif Nat.blt x 57 then (bif Nat.beq x 55 then some (.iload 4, 2) else none) else (bif Nat.blt x 60 then (bif Nat.beq x 57 then some (.invokevirtual 181, 3) else none) else (bif Nat.beq x 60 then some (.istore 6, 2) else none)))) else (bif Nat.blt x 67 then (bif Nat.blt x 64 then (bif Nat.beq x 62 then some (.iload 6, 2) else none) else (bif Nat.beq x 64 then some (.ifCond .eq 23, 3) else none)) else (bif Nat.blt x 68 then (bif Nat.beq x 67 then some (.aload_n 0, 1) else none) else (bif Nat.blt x 71 then (bif Nat.beq x 68 then some (.getfield 60, 3) else none) else (bif Nat.beq x 71 then some (.iload_n 2, 1) else none))))))) else (bif Nat.blt x 105 then (bif Nat.blt x 89 then (bif Nat.blt x 79 then (bif Nat.blt x 76 then (bif Nat.blt x 73 then (bif Nat.beq x 72 then some (.iaload, 1) else none) else (bif Nat.beq x 73 then some (.ifCond .eq 14, 3) else none)) else (bif Nat.blt x 78 then (bif Nat.beq x 76 then some (.iload 6, 2) else none) else (bif Nat.beq x 78 then some (.aload_n 0, 1) else none))) else (bif Nat.blt x 83 then (bif Nat.blt x 82 then (bif Nat.beq x 79 then some (.getfield 60, 3) else none) else (bif Nat.beq x 82 then some (.iload_n 2, 1) else none)) else (bif Nat.blt x 84 then (bif Nat.beq x 83 then some (.iaload, 1) else none) else (bif Nat.blt x 87 then (bif Nat.beq x 84 then some (.if_icmp .ge 8, 3) else none) else (bif Nat.beq x 87 then some (.bipush 20, 2) else none))))) else (bif Nat.blt x 95 then (bif Nat.blt x 91 then (bif Nat.blt x 90 then (bif Nat.beq x 89 then some (.iload_n 3, 1) else none) else (bif Nat.beq x 90 then some (.iadd, 1) else none)) else (bif Nat.blt x 92 then (bif Nat.beq x 91 then some (.ireturn, 1) else none) else (bif Nat.blt x 94 then (bif Nat.beq x 92 then some (.iload 6, 2) else none) else (bif Nat.beq x 94 then some (.aload_n 0, 1) else none)))) else (bif Nat.blt x 99 then (bif Nat.blt x 98 then (bif Nat.beq x 95 then some (.getfield 60, 3) else none) else (bif Nat.beq x 98 then some (.iload_n 2, 1) else none)) else (bif Nat.blt x 100 then (bif Nat.beq x 99 then some (.iaload, 1) else none) else (bif Nat.blt x 103 then (bif Nat.beq x 100 then some (.if_icmp .le 6, 3) else none) else (bif Nat.beq x 103 then some (.iload 5, 2) else none)))))) else (bif Nat.blt x 124 then (bif Nat.blt x 112 then (bif Nat.blt x 107 then (bif Nat.blt x 106 then (bif Nat.beq x 105 then some (.ireturn, 1) else none) else (bif Nat.beq x 106 then some (.aload_n 0, 1) else none)) else (bif Nat.blt x 110 then (bif Nat.beq x 107 then some (.getfield 63, 3) else none) else (bif Nat.blt x 111 then (bif Nat.beq x 110 then some (.iload_n 2, 1) else none) else (bif Nat.beq x 111 then some (.iaload, 1) else none)))) else (bif Nat.blt x 117 then (bif Nat.blt x 115 then (bif Nat.beq x 112 then some (.ifCond .ne 8, 3) else none) else (bif Nat.beq x 115 then some (.iload 5, 2) else none)) else (bif Nat.blt x 120 then (bif Nat.beq x 117 then some (.goto 21, 3) else none) else (bif Nat.blt x 121 then (bif Nat.beq x 120 then some (.aload_n 0, 1) else none) else (bif Nat.beq x 121 then some (.getfield 63, 3) else none))))) else (bif Nat.blt x 132 then (bif Nat.blt x 126 then (bif Nat.blt x 125 then (bif Nat.beq x 124 then some (.iload_n 2, 1) else none) else (bif Nat.beq x 125 then some (.iaload, 1) else none)) else (bif Nat.blt x 127 then (bif Nat.beq x 126 then some (.iconst 1, 1) else none) else (bif Nat.blt x 130 then (bif Nat.beq x 127 then some (.if_icmp .ne 10, 3) else none) else (bif Nat.beq x 130 then some (.bipush 20, 2) else none)))) else (bif Nat.blt x 134 then (bif Nat.blt x 133 then (bif Nat.beq x 132 then some (.iload_n 3, 1) else none) else (bif Nat.beq x 133 then some (.iadd, 1) else none)) else (bif Nat.blt x 137 then (bif Nat.beq x 134 then some (.goto 4, 3) else none) else (bif Nat.blt x 138 then (bif Nat.beq x 137 then some (.iconst 0, 1) else none) else (bif Nat.beq x 138 then some (.ireturn, 1) else none)))))))
def q_t58 (x : Nat) : Option (Instr × Nat) := bif Nat.blt x 26 then (bif Nat.blt x 13 then (bif Nat.blt x 4 then (bif Nat.blt x 2 then (bif Nat.blt x 1 then (bif Nat.beq x 0 then some (.aload_n 0, 1) else none) else (bif Nat.beq x 1 then some (.iload_n 1, 1) else none)) else (bif Nat.blt x 3 then (bif Nat.beq x 2 then some (.iload_n 2, 1) else none) else (bif Nat.beq x 3 then some (.iconst 2, 1) else none))) else (bif Nat.blt x 8 then (bif Nat.blt x 7 then (bif Nat.beq x 4 then some (.invokevirtual 184, 3) else none) else (bif Nat.beq x 7 then some (.istore_n 3, 1) else none)) else (bif Nat.blt x 9 then (bif Nat.beq x 8 then some (.iload_n 3, 1) else none) else (bif Nat.blt x 10 then (bif Nat.beq x 9 then some (.iconst 1, 1) else none) else (bif Nat.beq x 10 then some (.if_icmp .eq 14, 3) else none))))) else (bif Nat.blt x 19 then (bif Nat.blt x 15 then (bif Nat.blt x 14 then (bif Nat.beq x 13 then some (.iload_n 3, 1) else none) else (bif Nat.beq x 14 then some (.iconst 1, 1) else none)) else (bif Nat.blt x 18 then (bif Nat.beq x 15 then some (.if_icmp .le 7, 3) else none) else (bif Nat.beq x 18 then some (.iconst 1, 1) else none))) else (bif Nat.blt x 23 then (bif Nat.blt x 22 then (bif Nat.beq x 19 then some (.goto 4, 3) else none) else (bif Nat.beq x 22 then some (.iconst 0, 1) else none)) else (bif Nat.blt x 24 then (bif Nat.beq x 23 then some (.ireturn, 1) else none) else (bif Nat.blt x 25 then (bif Nat.beq x 24 then some (.aload_n 0, 1) else none) else (bif Nat.beq x 25 then some (.iload_n 1, 1) else none)))))) else (bif Nat.blt x 43 then (bif Nat.blt x 34 then (bif Nat.blt x 30 then (bif Nat.blt x 27 then (bif Nat.beq x 26 then some (.iload_n 2, 1) else none) else (bif Nat.beq x 27 then some (.invokevirtual 175, 3) else none)) else (bif Nat.blt x 33 then (bif Nat.beq x 30 then some (.ifCond .lt 29, 3) else none) else (bif Nat.beq x 33 then some (.aload_n 0, 1) else none))) else (bif Nat.blt x 38 then (bif Nat.blt x 37 then (bif Nat.beq x 34 then some (.getfield 60, 3) else none) else (bif Nat.beq x 37 then some (.iload_n 2, 1) else none)) else (bif Nat.blt x 39 then (bif Nat.beq x 38 then some (.iaload, 1) else none) else (bif Nat.blt x 42 then (bif Nat.beq x 39 then some (.ifCond .eq 16, 3) else none) else (bif Nat.beq x 42 then some (.aload_n 0, 1) else none))))) else (bif Nat.blt x 52 then (bif Nat.blt x 45 then (bif Nat.blt x 44 then (bif Nat.beq x 43 then some (.aload_n 0, 1) else none) else (bif Nat.beq x 44 then some (.iload_n 1, 1) else none)) else (bif Nat.blt x 46 then (bif Nat.beq x 45 then some (.iload_n 2, 1) else none) else (bif Nat.blt x 49 then (bif Nat.beq x 46 then some (.invokevirtual 178, 3) else none) else (bif Nat.beq x 49 then some (.invokevirtual 181, 3) else none)))) else (bif Nat.blt x 56 then (bif Nat.blt x 55 then (bif Nat.beq x 52 then some (.ifCond .ne 7, 3) else none) else (bif Nat.beq x 55 then some (.iconst 1, 1) else none)) else (bif Nat.blt x 59 then (bif Nat.beq x 56 then some (.goto 4, 3) else none) else (bif Nat.blt x 60 then (bif Nat.beq x 59 then some (.iconst 0, 1) else none) else (bif Nat.beq x 60 then some (.ireturn, 1) else none))))))
def q_t59 (x : Nat) : Option (Instr × Nat) := bif Nat.blt x 40 then (bif Nat.blt x 19 then (bif Nat.blt x 9 then (bif Nat.blt x 3 then (bif Nat.blt x 1 then (bif Nat.beq x 0 then some (.iconst 0, 1) else none) else (bif Nat.blt x 2 then (bif Nat.beq x 1 then some (.istore_n 1, 1) else none) else (bif Nat.beq x 2 then some (.iload_n 1, 1) else none))) else (bif Nat.blt x 7 then (bif Nat.blt x 4 then (bif Nat.beq x 3 then some (.iconst 3, 1) else none) else (bif Nat.beq x 4 then some (.if_icmp .ge 88, 3) else none)) else (bif Nat.blt x 8 then (bif Nat.beq x 7 then some (.iconst 1, 1) else none) else (bif Nat.beq x 8 then some (.istore_n 2, 1) else none)))) else (bif Nat.blt x 12 then (bif Nat.blt x 10 then (bif Nat.beq x 9 then some (.iconst 0, 1) else none) else (bif Nat.blt x 11 then (bif Nat.beq x 10 then some (.istore_n 3, 1) else none) else (bif Nat.beq x 11 then some (.iload_n 3, 1) else none))) else (bif Nat.blt x 15 then (bif Nat.blt x 14 then (bif Nat.beq x 12 then some (.bipush 9, 2) else none) else (bif Nat.beq x 14 then some (.aload_n 0, 1) else none)) else (bif Nat.blt x 18 then (bif Nat.beq x 15 then some (.getfield 148, 3) else none) else (bif Nat.beq x 18 then some (.imul, 1) else none))))) else (bif Nat.blt x 30 then (bif Nat.blt x 24 then (bif Nat.blt x 22 then (bif Nat.beq x 19 then some (.if_icmp .ge 61, 3) else none) else (bif Nat.blt x 23 then (bif Nat.beq x 22 then some (.aload_n 0, 1) else none) else (bif Nat.beq x 23 then some (.iload_n 3, 1) else none))) else (bif Nat.blt x 27 then (bif Nat.blt x 26 then (bif Nat.beq x 24 then some (.bipush 9, 2) else none) else (bif Nat.beq x 26 then some (.idiv, 1) else none)) else (bif Nat.blt x 28 then (bif Nat.beq x 27 then some (.iload_n 3, 1) else none) else (bif Nat.beq x 28 then some (.bipush 9, 2) else none)))) else (bif Nat.blt x 35 then (bif Nat.blt x 31 then (bif Nat.beq x 30 then some (.irem, 1) else none) else (bif Nat.blt x 32 then (bif Nat.beq x 31 then some (.iload_n 1, 1) else none) else (bif Nat.beq x 32 then some (.invokevirtual 184, 3) else none))) else (bif Nat.blt x 37 then (bif Nat.blt x 36 then (bif Nat.beq x 35 then some (.aload_n 0, 1) else none) else (bif Nat.beq x 36 then some (.iload_n 3, 1) else none)) else (bif Nat.blt x 39 then (bif Nat.beq x 37 then some (.bipush 9, 2) else none) else (bif Nat.beq x 39 then some (.idiv, 1) else none)))))) else (bif Nat.blt x 65 then (bif Nat.blt x 54 then (bif Nat.blt x 44 then (bif Nat.blt x 41 then (bif Nat.beq x 40 then some (.iload_n 3, 1) else none) else (bif Nat.blt x 43 then (bif Nat.beq x 41 then some (.bipush 9, 2) else none) else (bif Nat.beq x 43 then some (.irem, 1) else none))) else (bif Nat.blt x 50 then (bif Nat.blt x 47 then (bif Nat.beq x 44 then some (.invokevirtual 175, 3) else none) else (bif Nat.beq x 47 then some (.ifCond .lt 7, 3) else none)) else (bif Nat.blt x 51 then (bif Nat.beq x 50 then some (.iconst 1, 1) else none) else (bif Nat.beq x 51 then some (.goto 4, 3) else none)))) else (bif Nat.blt x 58 then (bif Nat.blt x 55 then (bif Nat.beq x 54 then some (.iconst 0, 1) else none) else (bif Nat.blt x 56 then (bif Nat.beq x 55 then some (.iadd, 1) else none) else (bif Nat.beq x 56 then some (.istore 4, 2) else none))) else (bif Nat.blt x 62 then (bif Nat.blt x 59 then (bif Nat.beq x 58 then some (.iload_n 2, 1) else none) else (bif Nat.beq x 59 then some (.ifCond .eq 13, 3) else none)) else (bif Nat.blt x 64 then (bif Nat.beq x 62 then some (.iload 4, 2) else none) else (bif Nat.beq x 64 then some (.iconst 2, 1) else none))))) else (bif Nat.blt x 80 then (bif Nat.blt x 72 then (bif Nat.blt x 68 then (bif Nat.beq x 65 then some (.if_icmp .ge 7, 3) else none) else (bif Nat.blt x 69 then (bif Nat.beq x 68 then some (.iconst 1, 1) else none) else (bif Nat.beq x 69 then some (.goto 4, 3) else none))) else (bif Nat.blt x 74 then (bif Nat.blt x 73 then (bif Nat.beq x 72 then some (.iconst 0, 1) else none) else (bif Nat.beq x 73 then some (.istore_n 2, 1) else none)) else (bif Nat.blt x 77 then (bif Nat.beq x 74 then some (.iinc 3 1, 3) else none) else (bif Nat.beq x 77 then some (.goto (-66), 3) else none)))) else (bif Nat.blt x 86 then (bif Nat.blt x 84 then (bif Nat.blt x 81 then (bif Nat.beq x 80 then some (.iload_n 2, 1) else none) else (bif Nat.beq x 81 then some (.ifCond .eq 5, 3) else none)) else (bif Nat.blt x 85 then (bif Nat.beq x 84 then some (.iload_n 1, 1) else none) else (bif Nat.beq x 85 then some (.ireturn, 1) else none))) else (bif Nat.blt x 92 then (bif Nat.blt x 89 then (bif Nat.beq x 86 then some (.iinc 1 1, 3) else none) else (bif Nat.beq x 89 then some (.goto (-87), 3) else none)) else (bif Nat.blt x 93 then (bif Nat.beq x 92 then some (.iconst 3, 1) else none) else (bif Nat.beq x 93 then some (.ireturn, 1) else none))))))
def q_t60 (x : Nat) : Option (Instr × Nat) := bif Nat.blt x 32 then (bif Nat.blt x 15 then (bif Nat.blt x 5 then (bif Nat.blt x 2 then (bif Nat.blt x 1 then (bif Nat.beq x 0 then some (.iconst 0, 1) else none) else (bif Nat.beq x 1 then some (.istore_n 2, 1) else none)) else (bif Nat.blt x 3 then (bif Nat.beq x 2 then some (.iconst 0, 1) else none) else (bif Nat.blt x 4 then (bif Nat.beq x 3 then some (.istore_n 3, 1) else none) else (bif Nat.beq x 4 then some (.iload_n 3, 1) else none)))) else (bif Nat.blt x 8 then (bif Nat.blt x 7 then (bif Nat.beq x 5 then some (.bipush 9, 2) else none) else (bif Nat.beq x 7 then some (.aload_n 0, 1) else none)) else (bif Nat.blt x 11 then (bif Nat.beq x 8 then some (.getfield 148, 3) else none) else (bif Nat.blt x 12 then (bif Nat.beq x 11 then some (.imul, 1) else none) else (bif Nat.beq x 12 then some (.if_icmp .ge 45, 3) else none))))) else (bif Nat.blt x 21 then (bif Nat.blt x 17 then (bif Nat.blt x 16 then (bif Nat.beq x 15 then some (.aload_n 0, 1) else none) else (bif Nat.beq x 16 then some (.iload_n 3, 1) else none)) else (bif Nat.blt x 19 then (bif Nat.beq x 17 then some (.bipush 9, 2) else none) else (bif Nat.blt x 20 then (bif Nat.beq x 19 then some (.idiv, 1) else none) else (bif Nat.beq x 20 then some (.iload_n 3, 1) else none)))) else (bif Nat.blt x 27 then (bif Nat.blt x 23 then (bif Nat.beq x 21 then some (.bipush 9, 2) else none) else (bif Nat.blt x 24 then (bif Nat.beq x 23 then some (.irem, 1) else none) else (bif Nat.beq x 24 then some (.invokevirtual 187, 3) else none))) else (bif Nat.blt x 30 then (bif Nat.beq x 27 then some (.ifCond .eq 24, 3) else none) else (bif Nat.blt x 31 then (bif Nat.beq x 30 then some (.iload_n 2, 1) else none) else (bif Nat.beq x 31 then some (.iload_n 1, 1) else none)))))) else (bif Nat.blt x 47 then (bif Nat.blt x 41 then (bif Nat.blt x 37 then (bif Nat.blt x 35 then (bif Nat.beq x 32 then some (.if_icmp .ne 16, 3) else none) else (bif Nat.beq x 35 then some (.bipush 16, 2) else none)) else (bif Nat.blt x 38 then (bif Nat.beq x 37 then some (.iload_n 3, 1) else none) else (bif Nat.blt x 40 then (bif Nat.beq x 38 then some (.bipush 9, 2) else none) else (bif Nat.beq x 40 then some (.idiv, 1) else none)))) else (bif Nat.blt x 43 then (bif Nat.blt x 42 then (bif Nat.beq x 41 then some (.imul, 1) else none) else (bif Nat.beq x 42 then some (.iload_n 3, 1) else none)) else (bif Nat.blt x 45 then (bif Nat.beq x 43 then some (.bipush 9, 2) else none) else (bif Nat.blt x 46 then (bif Nat.beq x 45 then some (.irem, 1) else none) else (bif Nat.beq x 46 then some (.iadd, 1) else none))))) else (bif Nat.blt x 58 then (bif Nat.blt x 51 then (bif Nat.blt x 48 then (bif Nat.beq x 47 then some (.ireturn, 1) else none) else (bif Nat.beq x 48 then some (.iinc 2 1, 3) else none)) else (bif Nat.blt x 54 then (bif Nat.beq x 51 then some (.iinc 3 1, 3) else none) else (bif Nat.blt x 57 then (bif Nat.beq x 54 then some (.goto (-50), 3) else none) else (bif Nat.beq x 57 then some (.iload_n 1, 1) else none)))) else (bif Nat.blt x 63 then (bif Nat.blt x 59 then (bif Nat.beq x 58 then some (.iconst (-1), 1) else none) else (bif Nat.blt x 62 then (bif Nat.beq x 59 then some (.if_icmp .ne 7, 3) else none) else (bif Nat.beq x 62 then some (.iload_n 2, 1) else none))) else (bif Nat.blt x 66 then (bif Nat.beq x 63 then some (.goto 4, 3) else none) else (bif Nat.blt x 67 then (bif Nat.beq x 66 then some (.iconst (-1), 1) else none) else (bif Nat.beq x 67 then some (.ireturn, 1) else none))))))
def q_t61 (x : Nat) : Option (Instr × Nat) := bif Nat.blt x 40 then (bif Nat.blt x 18 then (bif Nat.blt x 8 then (bif Nat.blt x 2 then (bif Nat.blt x 1 then (bif Nat.beq x 0 then some (.aload_n 0, 1) else none) else (bif Nat.beq x 1 then some (.iload_n 1, 1) else none)) else (bif Nat.blt x 4 then (bif Nat.beq x 2 then some (.bipush 97, 2) else none) else (bif Nat.blt x 7 then (bif Nat.beq x 4 then some (.if_icmp .lt 28, 3) else none) else (bif Nat.beq x 7 then some (.iload_n 1, 1) else none)))) else (bif Nat.blt x 13 then (bif Nat.blt x 10 then (bif Nat.beq x 8 then some (.bipush 104, 2) else none) else (bif Nat.beq x 10 then some (.if_icmp .gt 22, 3) else none)) else (bif Nat.blt x 14 then (bif Nat.beq x 13 then some (.iload_n 2, 1) else none) else (bif Nat.blt x 17 then (bif Nat.beq x 14 then some (.ifCond .lt 18, 3) else none) else (bif Nat.beq x 17 then some (.iload_n 2, 1) else none))))) else (bif Nat.blt x 28 then (bif Nat.blt x 23 then (bif Nat.blt x 20 then (bif Nat.beq x 18 then some (.bipush 9, 2) else none) else (bif Nat.beq x 20 then some (.if_icmp .gt 12, 3) else none)) else (bif Nat.blt x 24 then (bif Nat.beq x 23 then some (.iload_n 3, 1) else none) else (bif Nat.blt x 27 then (bif Nat.beq x 24 then some (.ifCond .lt 8, 3) else none) else (bif Nat.beq x 27 then some (.iload_n 3, 1) else none)))) else (bif Nat.blt x 33 then (bif Nat.blt x 29 then (bif Nat.beq x 28 then some (.iconst 2, 1) else none) else (bif Nat.blt x 32 then (bif Nat.beq x 29 then some (.if_icmp .le 7, 3) else none) else (bif Nat.beq x 32 then some (.iconst 1, 1) else none))) else (bif Nat.blt x 36 then (bif Nat.beq x 33 then some (.goto 4, 3) else none) else (bif Nat.blt x 37 then (bif Nat.beq x 36 then some (.iconst 0, 1) else none) else (bif Nat.beq x 37 then some (.putfield 90, 3) else none)))))) else (bif Nat.blt x 57 then (bif Nat.blt x 51 then (bif Nat.blt x 44 then (bif Nat.blt x 41 then (bif Nat.beq x 40 then some (.aload_n 0, 1) else none) else (bif Nat.beq x 41 then some (.getfield 90, 3) else none)) else (bif Nat.blt x 47 then (bif Nat.beq x 44 then some (.ifCond .ne 28, 3) else none) else (bif Nat.blt x 48 then (bif Nat.beq x 47 then some (.aload_n 0, 1) else none) else (bif Nat.beq x 48 then some (.getfield 60, 3) else none)))) else (bif Nat.blt x 54 then (bif Nat.blt x 52 then (bif Nat.beq x 51 then some (.iload_n 1, 1) else none) else (bif Nat.beq x 52 then some (.bipush 97, 2) else none)) else (bif Nat.blt x 55 then (bif Nat.beq x 54 then some (.isub, 1) else none) else (bif Nat.blt x 56 then (bif Nat.beq x 55 then some (.iload_n 2, 1) else none) else (bif Nat.beq x 56 then some (.iastore, 1) else none))))) else (bif Nat.blt x 65 then (bif Nat.blt x 61 then (bif Nat.blt x 58 then (bif Nat.beq x 57 then some (.aload_n 0, 1) else none) else (bif Nat.beq x 58 then some (.getfield 63, 3) else none)) else (bif Nat.blt x 62 then (bif Nat.beq x 61 then some (.iload_n 1, 1) else none) else (bif Nat.blt x 64 then (bif Nat.beq x 62 then some (.bipush 97, 2) else none) else (bif Nat.beq x 64 then some (.isub, 1) else none)))) else (bif Nat.blt x 68 then (bif Nat.blt x 66 then (bif Nat.beq x 65 then some (.iload_n 3, 1) else none) else (bif Nat.blt x 67 then (bif Nat.beq x 66 then some (.iastore, 1) else none) else (bif Nat.beq x 67 then some (.aload_n 0, 1) else none))) else (bif Nat.blt x 69 then (bif Nat.beq x 68 then some (.iconst 0, 1) else none) else (bif Nat.blt x 72 then (bif Nat.beq x 69 then some (.putfield 122, 3) else none) else (bif Nat.beq x 72 then some (.return_, 1) else none))))))
def q_t62 (x : Nat) : Option (Instr × Nat) := bif Nat.blt x 38 then (bif Nat.blt x 18 then (bif Nat.blt x 9 then (bif Nat.blt x 2 then (bif Nat.blt x 1 then (bif Nat.beq x 0 then some (.aload_n 0, 1) else none) else (bif Nat.beq x 1 then some (.aload_n 0, 1) else none)) else (bif Nat.blt x 5 then (bif Nat.beq x 2 then some (.getfield 126, 3) else none) else (bif Nat.blt x 8 then (bif Nat.beq x 5 then some (.ifCond .ne 7, 3) else none) else (bif Nat.beq x 8 then some (.iconst 1, 1) else none)))) else (bif Nat.blt x 13 then (bif Nat.blt x 12 then (bif Nat.beq x 9 then some (.goto 17, 3) else none) else (bif Nat.beq x 12 then some (.iload_n 1, 1) else none)) else (bif Nat.blt x 16 then (bif Nat.beq x 13 then some (.ifCond .lt 8, 3) else none) else (bif Nat.blt x 17 then (bif Nat.beq x 16 then some (.iload_n 1, 1) else none) else (bif Nat.beq x 17 then some (.iconst 3, 1) else none))))) else (bif Nat.blt x 29 then (bif Nat.blt x 22 then (bif Nat.blt x 21 then (bif Nat.beq x 18 then some (.if_icmp .le 7, 3) else none) else (bif Nat.beq x 21 then some (.iconst 2, 1) else none)) else (bif Nat.blt x 25 then (bif Nat.beq x 22 then some (.goto 4, 3) else none) else (bif Nat.blt x 26 then (bif Nat.beq x 25 then some (.iconst 0, 1) else none) else (bif Nat.beq x 26 then some (.putfield 90, 3) else none)))) else (bif Nat.blt x 33 then (bif Nat.blt x 30 then (bif Nat.beq x 29 then some (.aload_n 0, 1) else none) else (bif Nat.beq x 30 then some (.getfield 90, 3) else none)) else (bif Nat.blt x 36 then (bif Nat.beq x 33 then some (.ifCond .eq 5, 3) else none) else (bif Nat.blt x 37 then (bif Nat.beq x 36 then some (.iconst 0, 1) else none) else (bif Nat.beq x 37 then some (.ireturn, 1) else none)))))) else (bif Nat.blt x 58 then (bif Nat.blt x 49 then (bif Nat.blt x 42 then (bif Nat.blt x 39 then (bif Nat.beq x 38 then some (.iload_n 1, 1) else none) else (bif Nat.beq x 39 then some (.ifCond .ne 10, 3) else none)) else (bif Nat.blt x 43 then (bif Nat.beq x 42 then some (.aload_n 0, 1) else none) else (bif Nat.blt x 46 then (bif Nat.beq x 43 then some (.getfield 98, 3) else none) else (bif Nat.beq x 46 then some (.goto 32, 3) else none)))) else (bif Nat.blt x 51 then (bif Nat.blt x 50 then (bif Nat.beq x 49 then some (.iload_n 1, 1) else none) else (bif Nat.beq x 50 then some (.iconst 1, 1) else none)) else (bif Nat.blt x 54 then (bif Nat.beq x 51 then some (.if_icmp .ne 10, 3) else none) else (bif Nat.blt x 55 then (bif Nat.beq x 54 then some (.aload_n 0, 1) else none) else (bif Nat.beq x 55 then some (.getfield 148, 3) else none))))) else (bif Nat.blt x 67 then (bif Nat.blt x 62 then (bif Nat.blt x 61 then (bif Nat.beq x 58 then some (.goto 20, 3) else none) else (bif Nat.beq x 61 then some (.iload_n 1, 1) else none)) else (bif Nat.blt x 63 then (bif Nat.beq x 62 then some (.iconst 2, 1) else none) else (bif Nat.blt x 66 then (bif Nat.beq x 63 then some (.if_icmp .ne 10, 3) else none) else (bif Nat.beq x 66 then some (.aload_n 0, 1) else none)))) else (bif Nat.blt x 74 then (bif Nat.blt x 70 then (bif Nat.beq x 67 then some (.invokevirtual 190, 3) else none) else (bif Nat.blt x 73 then (bif Nat.beq x 70 then some (.goto 8, 3) else none) else (bif Nat.beq x 73 then some (.aload_n 0, 1) else none))) else (bif Nat.blt x 75 then (bif Nat.beq x 74 then some (.iconst (-1), 1) else none) else (bif Nat.blt x 78 then (bif Nat.beq x 75 then some (.invokevirtual 193, 3) else none) else (bif Nat.beq x 78 then some (.ireturn, 1) else none))))))
def q_t63 (x : Nat) : Option (Instr × Nat) := bif Nat.blt x 9 then (bif Nat.blt x 4 then (bif Nat.blt x 1 then (bif Nat.beq x 0 then some (.iload_n 1, 1) else none) else (bif Nat.beq x 1 then some (.ifCond .lt 11, 3) else none)) else (bif Nat.blt x 5 then (bif Nat.beq x 4 then some (.iload_n 1, 1) else none) else (bif Nat.blt x 6 then (bif Nat.beq x 5 then some (.aload_n 0, 1) else none) else (bif Nat.beq x 6 then some (.getfield 98, 3) else none)))) else (bif Nat.blt x 13 then (bif Nat.blt x 12 then (bif Nat.beq x 9 then some (.if_icmp .le 7, 3) else none) else (bif Nat.beq x 12 then some (.iconst 1, 1) else none)) else (bif Nat.blt x 16 then (bif Nat.beq x 13 then some (.goto 4, 3) else none) else (bif Nat.blt x 17 then (bif Nat.beq x 16 then some (.iconst 0, 1) else none) else (bif Nat.beq x 17 then some (.ireturn, 1) else none))))
def q_t64 (x : Nat) : Option (Instr × Nat) := bif Nat.blt x 9 then (bif Nat.blt x 4 then (bif Nat.blt x 1 then (bif Nat.beq x 0 then some (.iload_n 1, 1) else none) else (bif Nat.beq x 1 then some (.ifCond .lt 11, 3) else none)) else (bif Nat.blt x 5 then (bif Nat.beq x 4 then some (.iload_n 1, 1) else none) else (bif Nat.blt x 6 then (bif Nat.beq x 5 then some (.aload_n 0, 1) else none) else (bif Nat.beq x 6 then some (.getfield 148, 3) else none)))) else (bif Nat.blt x 13 then (bif Nat.blt x 12 then (bif Nat.beq x 9 then some (.if_icmp .lt 7, 3) else none) else (bif Nat.beq x 12 then some (.iconst 1, 1) else none)) else (bif Nat.blt x 16 then (bif Nat.beq x 13 then some (.goto 4, 3) else none) else (bif Nat.blt x 17 then (bif Nat.beq x 16 then some (.iconst 0, 1) else none) else (bif Nat.beq x 17 then some (.ireturn, 1) else none))))
def q_t65 (x : Nat) : Option (Instr × Nat) := bif Nat.blt x 47 then (bif Nat.blt x 22 then (bif Nat.blt x 12 then (bif Nat.blt x 5 then (bif Nat.blt x 1 then (bif Nat.beq x 0 then some (.aload_n 0, 1) else none) else (bif Nat.blt x 2 then (bif Nat.beq x 1 then some (.aload_n 0, 1) else none) else (bif Nat.beq x 2 then some (.getfield 126, 3) else none))) else (bif Nat.blt x 8 then (bif Nat.beq x 5 then some (.ifCond .ne 7, 3) else none) else (bif Nat.blt x 9 then (bif Nat.beq x 8 then some (.iconst 1, 1) else none) else (bif Nat.beq x 9 then some (.goto 31, 3) else none)))) else (bif Nat.blt x 17 then (bif Nat.blt x 13 then (bif Nat.beq x 12 then some (.aload_n 0, 1) else none) else (bif Nat.blt x 14 then (bif Nat.beq x 13 then some (.iload_n 1, 1) else none) else (bif Nat.beq x 14 then some (.invokevirtual 196, 3) else none))) else (bif Nat.blt x 20 then (bif Nat.beq x 17 then some (.ifCond .ne 18, 3) else none) else (bif Nat.blt x 21 then (bif Nat.beq x 20 then some (.iload_n 2, 1) else none) else (bif Nat.beq x 21 then some (.iconst (-1), 1) else none))))) else (bif Nat.blt x 32 then (bif Nat.blt x 27 then (bif Nat.blt x 25 then (bif Nat.beq x 22 then some (.if_icmp .lt 13, 3) else none) else (bif Nat.blt x 26 then (bif Nat.beq x 25 then some (.iload_n 2, 1) else none) else (bif Nat.beq x 26 then some (.aload_n 0, 1) else none))) else (bif Nat.blt x 30 then (bif Nat.beq x 27 then some (.getfield 20, 3) else none) else (bif Nat.blt x 31 then (bif Nat.beq x 30 then some (.iload_n 1, 1) else none) else (bif Nat.beq x 31 then some (.iaload, 1) else none)))) else (bif Nat.blt x 39 then (bif Nat.blt x 35 then (bif Nat.beq x 32 then some (.if_icmp .lt 7, 3) else none) else (bif Nat.blt x 36 then (bif Nat.beq x 35 then some (.iconst 2, 1) else none) else (bif Nat.beq x 36 then some (.goto 4, 3) else none))) else (bif Nat.blt x 43 then (bif Nat.blt x 40 then (bif Nat.beq x 39 then some (.iconst 0, 1) else none) else (bif Nat.beq x 40 then some (.putfield 90, 3) else none)) else (bif Nat.blt x 44 then (bif Nat.beq x 43 then some (.aload_n 0, 1) else none) else (bif Nat.beq x 44 then some (.getfield 90, 3) else none)))))) else (bif Nat.blt x 65 then (bif Nat.blt x 57 then (bif Nat.blt x 52 then (bif Nat.blt x 50 then (bif Nat.beq x 47 then some (.ifCond .eq 5, 3) else none) else (bif Nat.blt x 51 then (bif Nat.beq x 50 then some (.iconst 0, 1) else none) else (bif Nat.beq x 51 then some (.ireturn, 1) else none))) else (bif Nat.blt x 53 then (bif Nat.beq x 52 then some (.iload_n 2, 1) else none) else (bif Nat.blt x 56 then (bif Nat.beq x 53 then some (.ifCond .lt 19, 3) else none) else (bif Nat.beq x 56 then some (.aload_n 0, 1) else none)))) else (bif Nat.blt x 62 then (bif Nat.blt x 60 then (bif Nat.beq x 57 then some (.getfield 23, 3) else none) else (bif Nat.blt x 61 then (bif Nat.beq x 60 then some (.iconst 4, 1) else none) else (bif Nat.beq x 61 then some (.iload_n 1, 1) else none))) else (bif Nat.blt x 63 then (bif Nat.beq x 62 then some (.imul, 1) else none) else (bif Nat.blt x 64 then (bif Nat.beq x 63 then some (.iload_n 2, 1) else none) else (bif Nat.beq x 64 then some (.iadd, 1) else none))))) else (bif Nat.blt x 77 then (bif Nat.blt x 72 then (bif Nat.blt x 66 then (bif Nat.beq x 65 then some (.iaload, 1) else none) else (bif Nat.blt x 69 then (bif Nat.beq x 66 then some (.invokestatic 200, 3) else none) else (bif Nat.beq x 69 then some (.goto 20, 3) else none))) else (bif Nat.blt x 73 then (bif Nat.beq x 72 then some (.iload_n 1, 1) else none) else (bif Nat.blt x 76 then (bif Nat.beq x 73 then some (.ifCond .ne 7, 3) else none) else (bif Nat.beq x 76 then some (.iconst 0, 1) else none)))) else (bif Nat.blt x 84 then (bif Nat.blt x 80 then (bif Nat.beq x 77 then some (.goto 12, 3) else none) else (bif Nat.blt x 81 then (bif Nat.beq x 80 then some (.aload_n 0, 1) else none) else (bif Nat.beq x 81 then some (.getfield 17, 3) else none))) else (bif Nat.blt x 86 then (bif Nat.blt x 85 then (bif Nat.beq x 84 then some (.iload_n 1, 1) else none) else (bif Nat.beq x 85 then some (.iaload, 1) else none)) else (bif Nat.blt x 89 then (bif Nat.beq x 86 then some (.invokestatic 200, 3) else none) else (bif Nat.beq x 89 then some (.ireturn, 1) else none))))))
def q_t66 (x : Nat) : Option (Instr × Nat) := bif Nat.blt x 66 then (bif Nat.blt x 32 then (bif Nat.blt x 16 then (bif Nat.blt x 7 then (bif Nat.blt x 3 then (bif Nat.blt x 1 then (bif Nat.beq x 0 then some (.iload_n 1, 1) else none) else (bif Nat.beq x 1 then some (.bipush 65, 2) else none)) else (bif Nat.blt x 6 then (bif Nat.beq x 3 then some (.if_icmp .lt 28, 3) else none) else (bif Nat.beq x 6 then some (.iload_n 1, 1) else none))) else (bif Nat.blt x 12 then (bif Nat.blt x 9 then (bif Nat.beq x 7 then some (.bipush 72, 2) else none) else (bif Nat.beq x 9 then some (.if_icmp .gt 22, 3) else none)) else (bif Nat.blt x 13 then (bif Nat.beq x 12 then some (.aload_n 0, 1) else none) else (bif Nat.beq x 13 then some (.getfield 126, 3) else none)))) else (bif Nat.blt x 24 then (bif Nat.blt x 20 then (bif Nat.blt x 19 then (bif Nat.beq x 16 then some (.ifCond .eq 19, 3) else none) else (bif Nat.beq x 19 then some (.aload_n 0, 1) else none)) else (bif Nat.blt x 23 then (bif Nat.beq x 20 then some (.getfield 32, 3) else none) else (bif Nat.beq x 23 then some (.iload_n 1, 1) else none))) else (bif Nat.blt x 27 then (bif Nat.blt x 26 then (bif Nat.beq x 24 then some (.bipush 65, 2) else none) else (bif Nat.beq x 26 then some (.isub, 1) else none)) else (bif Nat.blt x 28 then (bif Nat.beq x 27 then some (.iaload, 1) else none) else (bif Nat.blt x 31 then (bif Nat.beq x 28 then some (.ifCond .ge 7, 3) else none) else (bif Nat.beq x 31 then some (.iconst 1, 1) else none)))))) else (bif Nat.blt x 49 then (bif Nat.blt x 38 then (bif Nat.blt x 36 then (bif Nat.blt x 35 then (bif Nat.beq x 32 then some (.goto 4, 3) else none) else (bif Nat.beq x 35 then some (.iconst 0, 1) else none)) else (bif Nat.blt x 37 then (bif Nat.beq x 36 then some (.istore_n 3, 1) else none) else (bif Nat.beq x 37 then some (.aload_n 0, 1) else none))) else (bif Nat.blt x 42 then (bif Nat.blt x 39 then (bif Nat.beq x 38 then some (.aload_n 0, 1) else none) else (bif Nat.beq x 39 then some (.getfield 126, 3) else none)) else (bif Nat.blt x 45 then (bif Nat.beq x 42 then some (.ifCond .ne 7, 3) else none) else (bif Nat.blt x 46 then (bif Nat.beq x 45 then some (.iconst 1, 1) else none) else (bif Nat.beq x 46 then some (.goto 21, 3) else none))))) else (bif Nat.blt x 57 then (bif Nat.blt x 53 then (bif Nat.blt x 50 then (bif Nat.beq x 49 then some (.iload_n 3, 1) else none) else (bif Nat.beq x 50 then some (.ifCond .ne 12, 3) else none)) else (bif Nat.blt x 54 then (bif Nat.beq x 53 then some (.iload_n 2, 1) else none) else (bif Nat.beq x 54 then some (.ifCond .lt 8, 3) else none))) else (bif Nat.blt x 59 then (bif Nat.blt x 58 then (bif Nat.beq x 57 then some (.iload_n 2, 1) else none) else (bif Nat.beq x 58 then some (.iconst 2, 1) else none)) else (bif Nat.blt x 62 then (bif Nat.beq x 59 then some (.if_icmp .le 7, 3) else none) else (bif Nat.blt x 63 then (bif Nat.beq x 62 then some (.iconst 2, 1) else none) else (bif Nat.beq x 63 then some (.goto 4, 3) else none))))))) else (bif Nat.blt x 96 then (bif Nat.blt x 80 then (bif Nat.blt x 74 then (bif Nat.blt x 70 then (bif Nat.blt x 67 then (bif Nat.beq x 66 then some (.iconst 0, 1) else none) else (bif Nat.beq x 67 then some (.putfield 90, 3) else none)) else (bif Nat.blt x 71 then (bif Nat.beq x 70 then some (.aload_n 0, 1) else none) else (bif Nat.beq x 71 then some (.getfield 90, 3) else none))) else (bif Nat.blt x 78 then (bif Nat.blt x 77 then (bif Nat.beq x 74 then some (.ifCond .eq 5, 3) else none) else (bif Nat.beq x 77 then some (.iconst 0, 1) else none)) else (bif Nat.blt x 79 then (bif Nat.beq x 78 then some (.ireturn, 1) else none) else (bif Nat.beq x 79 then some (.iload_n 1, 1) else none)))) else (bif Nat.blt x 86 then (bif Nat.blt x 83 then (bif Nat.blt x 82 then (bif Nat.beq x 80 then some (.bipush 65, 2) else none) else (bif Nat.beq x 82 then some (.isub, 1) else none)) else (bif Nat.blt x 85 then (bif Nat.beq x 83 then some (.istore 4, 2) else none) else (bif Nat.beq x 85 then some (.iload_n 2, 1) else none))) else (bif Nat.blt x 90 then (bif Nat.blt x 89 then (bif Nat.beq x 86 then some (.ifCond .ne 21, 3) else none) else (bif Nat.beq x 89 then some (.aload_n 0, 1) else none)) else (bif Nat.blt x 93 then (bif Nat.beq x 90 then some (.getfield 39, 3) else none) else (bif Nat.blt x 95 then (bif Nat.beq x 93 then some (.iload 4, 2) else none) else (bif Nat.beq x 95 then some (.baload, 1) else none)))))) else (bif Nat.blt x 113 then (bif Nat.blt x 104 then (bif Nat.blt x 100 then (bif Nat.blt x 99 then (bif Nat.beq x 96 then some (.ifCond .eq 7, 3) else none) else (bif Nat.beq x 99 then some (.iconst 1, 1) else none)) else (bif Nat.blt x 103 then (bif Nat.beq x 100 then some (.goto 29, 3) else none) else (bif Nat.beq x 103 then some (.iconst 0, 1) else none))) else (bif Nat.blt x 108 then (bif Nat.blt x 107 then (bif Nat.beq x 104 then some (.goto 25, 3) else none) else (bif Nat.beq x 107 then some (.iload_n 2, 1) else none)) else (bif Nat.blt x 109 then (bif Nat.beq x 108 then some (.iconst 1, 1) else none) else (bif Nat.blt x 112 then (bif Nat.beq x 109 then some (.if_icmp .ne 13, 3) else none) else (bif Nat.beq x 112 then some (.aload_n 0, 1) else none))))) else (bif Nat.blt x 122 then (bif Nat.blt x 118 then (bif Nat.blt x 116 then (bif Nat.beq x 113 then some (.getfield 42, 3) else none) else (bif Nat.beq x 116 then some (.iload 4, 2) else none)) else (bif Nat.blt x 119 then (bif Nat.beq x 118 then some (.iaload, 1) else none) else (bif Nat.beq x 119 then some (.goto 10, 3) else none))) else (bif Nat.blt x 126 then (bif Nat.blt x 123 then (bif Nat.beq x 122 then some (.aload_n 0, 1) else none) else (bif Nat.beq x 123 then some (.getfield 45, 3) else none)) else (bif Nat.blt x 128 then (bif Nat.beq x 126 then some (.iload 4, 2) else none) else (bif Nat.blt x 129 then (bif Nat.beq x 128 then some (.iaload, 1) else none) else (bif Nat.beq x 129 then some (.ireturn, 1) else none)))))))
def q_t67 (x : Nat) : Option (Instr × Nat) := bif Nat.blt x 40 then (bif Nat.blt x 21 then (bif Nat.blt x 9 then (bif Nat.blt x 2 then (bif Nat.blt x 1 then (bif Nat.beq x 0 then some (.aload_n 0, 1) else none) else (bif Nat.beq x 1 then some (.aload_n 0, 1) else none)) else (bif Nat.blt x 5 then (bif Nat.beq x 2 then some (.getfield 126, 3) else none) else (bif Nat.blt x 8 then (bif Nat.beq x 5 then some (.ifCond .ne 7, 3) else none) else (bif Nat.beq x 8 then some (.iconst 1, 1) else none)))) else (bif Nat.blt x 14 then (bif Nat.blt x 12 then (bif Nat.beq x 9 then some (.goto 16, 3) else none) else (bif Nat.blt x 13 then (bif Nat.beq x 12 then some (.aload_n 0, 1) else none) else (bif Nat.beq x 13 then some (.iload_n 1, 1) else none))) else (bif Nat.blt x 17 then (bif Nat.beq x 14 then some (.invokevirtual 203, 3) else none) else (bif Nat.blt x 20 then (bif Nat.beq x 17 then some (.ifCond .eq 7, 3) else none) else (bif Nat.beq x 20 then some (.iconst 2, 1) else none))))) else (bif Nat.blt x 32 then (bif Nat.blt x 25 then (bif Nat.blt x 24 then (bif Nat.beq x 21 then some (.goto 4, 3) else none) else (bif Nat.beq x 24 then some (.iconst 0, 1) else none)) else (bif Nat.blt x 28 then (bif Nat.beq x 25 then some (.putfield 90, 3) else none) else (bif Nat.blt x 29 then (bif Nat.beq x 28 then some (.aload_n 0, 1) else none) else (bif Nat.beq x 29 then some (.getfield 90, 3) else none)))) else (bif Nat.blt x 37 then (bif Nat.blt x 35 then (bif Nat.beq x 32 then some (.ifCond .eq 5, 3) else none) else (bif Nat.blt x 36 then (bif Nat.beq x 35 then some (.iconst 0, 1) else none) else (bif Nat.beq x 36 then some (.ireturn, 1) else none))) else (bif Nat.blt x 38 then (bif Nat.beq x 37 then some (.iconst 0, 1) else none) else (bif Nat.blt x 39 then (bif Nat.beq x 38 then some (.istore_n 3, 1) else none) else (bif Nat.beq x 39 then some (.iconst 0, 1) else none)))))) else (bif Nat.blt x 62 then (bif Nat.blt x 51 then (bif Nat.blt x 44 then (bif Nat.blt x 42 then (bif Nat.beq x 40 then some (.istore 4, 2) else none) else (bif Nat.beq x 42 then some (.iload 4, 2) else none)) else (bif Nat.blt x 47 then (bif Nat.beq x 44 then some (.sipush 128, 3) else none) else (bif Nat.blt x 50 then (bif Nat.beq x 47 then some (.if_icmp .ge 36, 3) else none) else (bif Nat.beq x 50 then some (.aload_n 0, 1) else none)))) else (bif Nat.blt x 58 then (bif Nat.blt x 54 then (bif Nat.beq x 51 then some (.getfield 48, 3) else none) else (bif Nat.blt x 57 then (bif Nat.beq x 54 then some (.sipush 128, 3) else none) else (bif Nat.beq x 57 then some (.iload_n 1, 1) else none))) else (bif Nat.blt x 59 then (bif Nat.beq x 58 then some (.imul, 1) else none) else (bif Nat.blt x 61 then (bif Nat.beq x 59 then some (.iload 4, 2) else none) else (bif Nat.beq x 61 then some (.iadd, 1) else none))))) else (bif Nat.blt x 73 then (bif Nat.blt x 67 then (bif Nat.blt x 63 then (bif Nat.beq x 62 then some (.baload, 1) else none) else (bif Nat.blt x 66 then (bif Nat.beq x 63 then some (.ifCond .eq 14, 3) else none) else (bif Nat.beq x 66 then some (.iload_n 3, 1) else none))) else (bif Nat.blt x 68 then (bif Nat.beq x 67 then some (.iload_n 2, 1) else none) else (bif Nat.blt x 71 then (bif Nat.beq x 68 then some (.if_icmp .ne 6, 3) else none) else (bif Nat.beq x 71 then some (.iload 4, 2) else none)))) else (bif Nat.blt x 80 then (bif Nat.blt x 74 then (bif Nat.beq x 73 then some (.ireturn, 1) else none) else (bif Nat.blt x 77 then (bif Nat.beq x 74 then some (.iinc 3 1, 3) else none) else (bif Nat.beq x 77 then some (.iinc 4 1, 3) else none))) else (bif Nat.blt x 83 then (bif Nat.beq x 80 then some (.goto (-38), 3) else none) else (bif Nat.blt x 84 then (bif Nat.beq x 83 then some (.iconst (-1), 1) else none) else (bif Nat.beq x 84 then some (.ireturn, 1) else none))))))
def q_t68 (x : Nat) : Option (Instr × Nat) := bif Nat.blt x 35 then (bif Nat.blt x 14 then (bif Nat.blt x 8 then (bif Nat.blt x 2 then (bif Nat.blt x 1 then (bif Nat.beq x 0 then some (.aload_n 0, 1) else none) else (bif Nat.beq x 1 then some (.aload_n 0, 1) else none)) else (bif Nat.blt x 5 then (bif Nat.beq x 2 then some (.getfield 126, 3) else none) else (bif Nat.beq x 5 then some (.ifCond .ne 7, 3) else none))) else (bif Nat.blt x 12 then (bif Nat.blt x 9 then (bif Nat.beq x 8 then some (.iconst 1, 1) else none) else (bif Nat.beq x 9 then some (.goto 27, 3) else none)) else (bif Nat.blt x 13 then (bif Nat.beq x 12 then some (.aload_n 0, 1) else none) else (bif Nat.beq x 13 then some (.iload_n 1, 1) else none)))) else (bif Nat.blt x 24 then (bif Nat.blt x 20 then (bif Nat.blt x 17 then (bif Nat.beq x 14 then some (.invokevirtual 203, 3) else none) else (bif Nat.beq x 17 then some (.ifCond .eq 7, 3) else none)) else (bif Nat.blt x 21 then (bif Nat.beq x 20 then some (.iconst 2, 1) else none) else (bif Nat.beq x 21 then some (.goto 15, 3) else none))) else (bif Nat.blt x 28 then (bif Nat.blt x 25 then (bif Nat.beq x 24 then some (.iload_n 2, 1) else none) else (bif Nat.beq x 25 then some (.invokestatic 104, 3) else none)) else (bif Nat.blt x 31 then (bif Nat.beq x 28 then some (.ifCond .ge 7, 3) else none) else (bif Nat.blt x 32 then (bif Nat.beq x 31 then some (.iconst 3, 1) else none) else (bif Nat.beq x 32 then some (.goto 4, 3) else none)))))) else (bif Nat.blt x 51 then (bif Nat.blt x 43 then (bif Nat.blt x 39 then (bif Nat.blt x 36 then (bif Nat.beq x 35 then some (.iconst 0, 1) else none) else (bif Nat.beq x 36 then some (.putfield 90, 3) else none)) else (bif Nat.blt x 40 then (bif Nat.beq x 39 then some (.aload_n 0, 1) else none) else (bif Nat.beq x 40 then some (.getfield 90, 3) else none))) else (bif Nat.blt x 47 then (bif Nat.blt x 46 then (bif Nat.beq x 43 then some (.ifCond .eq 7, 3) else none) else (bif Nat.beq x 46 then some (.iconst 0, 1) else none)) else (bif Nat.blt x 50 then (bif Nat.beq x 47 then some (.goto 17, 3) else none) else (bif Nat.beq x 50 then some (.aload_n 0, 1) else none)))) else (bif Nat.blt x 58 then (bif Nat.blt x 56 then (bif Nat.blt x 54 then (bif Nat.beq x 51 then some (.getfield 54, 3) else none) else (bif Nat.beq x 54 then some (.bipush 16, 2) else none)) else (bif Nat.blt x 57 then (bif Nat.beq x 56 then some (.iload_n 1, 1) else none) else (bif Nat.beq x 57 then some (.imul, 1) else none))) else (bif Nat.blt x 62 then (bif Nat.blt x 59 then (bif Nat.beq x 58 then some (.iload_n 2, 1) else none) else (bif Nat.beq x 59 then some (.invokestatic 104, 3) else none)) else (bif Nat.blt x 63 then (bif Nat.beq x 62 then some (.iadd, 1) else none) else (bif Nat.blt x 64 then (bif Nat.beq x 63 then some (.iaload, 1) else none) else (bif Nat.beq x 64 then some (.ireturn, 1) else none))))))
def q_t69 (x : Nat) : Option (Instr × Nat) := bif Nat.blt x 36 then (bif Nat.blt x 17 then (bif Nat.blt x 8 then (bif Nat.blt x 2 then (bif Nat.blt x 1 then (bif Nat.beq x 0 then some (.aload_n 0, 1) else none) else (bif Nat.beq x 1 then some (.aload_n 0, 1) else none)) else (bif Nat.blt x 5 then (bif Nat.beq x 2 then some (.getfield 126, 3) else none) else (bif Nat.beq x 5 then some (.ifCond .ne 7, 3) else none))) else (bif Nat.blt x 12 then (bif Nat.blt x 9 then (bif Nat.beq x 8 then some (.iconst 1, 1) else none) else (bif Nat.beq x 9 then some (.goto 37, 3) else none)) else (bif Nat.blt x 13 then (bif Nat.beq x 12 then some (.aload_n 0, 1) else none) else (bif Nat.blt x 14 then (bif Nat.beq x 13 then some (.iload_n 1, 1) else none) else (bif Nat.beq x 14 then some (.invokevirtual 203, 3) else none))))) else (bif Nat.blt x 25 then (bif Nat.blt x 21 then (bif Nat.blt x 20 then (bif Nat.beq x 17 then some (.ifCond .ne 11, 3) else none) else (bif Nat.beq x 20 then some (.aload_n 0, 1) else none)) else (bif Nat.blt x 22 then (bif Nat.beq x 21 then some (.iload_n 2, 1) else none) else (bif Nat.beq x 22 then some (.invokevirtual 196, 3) else none))) else (bif Nat.blt x 29 then (bif Nat.blt x 28 then (bif Nat.beq x 25 then some (.ifCond .eq 7, 3) else none) else (bif Nat.beq x 28 then some (.iconst 2, 1) else none)) else (bif Nat.blt x 32 then (bif Nat.beq x 29 then some (.goto 17, 3) else none) else (bif Nat.blt x 33 then (bif Nat.beq x 32 then some (.iload_n 3, 1) else none) else (bif Nat.beq x 33 then some (.ifCond .lt 8, 3) else none)))))) else (bif Nat.blt x 53 then (bif Nat.blt x 42 then (bif Nat.blt x 38 then (bif Nat.blt x 37 then (bif Nat.beq x 36 then some (.iload_n 3, 1) else none) else (bif Nat.beq x 37 then some (.iconst 2, 1) else none)) else (bif Nat.blt x 41 then (bif Nat.beq x 38 then some (.if_icmp .le 7, 3) else none) else (bif Nat.beq x 41 then some (.iconst 3, 1) else none))) else (bif Nat.blt x 46 then (bif Nat.blt x 45 then (bif Nat.beq x 42 then some (.goto 4, 3) else none) else (bif Nat.beq x 45 then some (.iconst 0, 1) else none)) else (bif Nat.blt x 49 then (bif Nat.beq x 46 then some (.putfield 90, 3) else none) else (bif Nat.blt x 50 then (bif Nat.beq x 49 then some (.aload_n 0, 1) else none) else (bif Nat.beq x 50 then some (.getfield 90, 3) else none))))) else (bif Nat.blt x 61 then (bif Nat.blt x 57 then (bif Nat.blt x 56 then (bif Nat.beq x 53 then some (.ifCond .eq 7, 3) else none) else (bif Nat.beq x 56 then some (.iconst 0, 1) else none)) else (bif Nat.blt x 60 then (bif Nat.beq x 57 then some (.goto 10, 3) else none) else (bif Nat.beq x 60 then some (.aload_n 0, 1) else none))) else (bif Nat.blt x 63 then (bif Nat.blt x 62 then (bif Nat.beq x 61 then some (.iload_n 1, 1) else none) else (bif Nat.beq x 62 then some (.iload_n 2, 1) else none)) else (bif Nat.blt x 64 then (bif Nat.beq x 63 then some (.iload_n 3, 1) else none) else (bif Nat.blt x 67 then (bif Nat.beq x 64 then some (.invokevirtual 171, 3) else none) else (bif Nat.beq x 67 then some (.ireturn, 1) else none))))))
def q_t70 (x : Nat) : Option (Instr × Nat) := bif Nat.blt x 31 then (bif Nat.blt x 13 then (bif Nat.blt x 5 then (bif Nat.blt x 1 then (bif Nat.beq x 0 then some (.aload_n 0, 1) else none) else (bif Nat.blt x 2 then (bif Nat.beq x 1 then some (.aload_n 0, 1) else none) else (bif Nat.beq x 2 then some (.getfield 126, 3) else none))) else (bif Nat.blt x 9 then (bif Nat.blt x 8 then (bif Nat.beq x 5 then some (.ifCond .ne 7, 3) else none) else (bif Nat.beq x 8 then some (.iconst 1, 1) else none)) else (bif Nat.blt x 12 then (bif Nat.beq x 9 then some (.goto 27, 3) else none) else (bif Nat.beq x 12 then some (.aload_n 0, 1) else none)))) else (bif Nat.blt x 21 then (bif Nat.blt x 17 then (bif Nat.blt x 14 then (bif Nat.beq x 13 then some (.iload_n 1, 1) else none) else (bif Nat.beq x 14 then some (.invokevirtual 203, 3) else none)) else (bif Nat.blt x 20 then (bif Nat.beq x 17 then some (.ifCond .eq 7, 3) else none) else (bif Nat.beq x 20 then some (.iconst 2, 1) else none))) else (bif Nat.blt x 25 then (bif Nat.blt x 24 then (bif Nat.beq x 21 then some (.goto 15, 3) else none) else (bif Nat.beq x 24 then some (.iload_n 2, 1) else none)) else (bif Nat.blt x 28 then (bif Nat.beq x 25 then some (.invokestatic 206, 3) else none) else (bif Nat.beq x 28 then some (.ifCond .ge 7, 3) else none))))) else (bif Nat.blt x 46 then (bif Nat.blt x 36 then (bif Nat.blt x 32 then (bif Nat.beq x 31 then some (.iconst 3, 1) else none) else (bif Nat.blt x 35 then (bif Nat.beq x 32 then some (.goto 4, 3) else none) else (bif Nat.beq x 35 then some (.iconst 0, 1) else none))) else (bif Nat.blt x 40 then (bif Nat.blt x 39 then (bif Nat.beq x 36 then some (.putfield 90, 3) else none) else (bif Nat.beq x 39 then some (.aload_n 0, 1) else none)) else (bif Nat.blt x 43 then (bif Nat.beq x 40 then some (.getfield 90, 3) else none) else (bif Nat.beq x 43 then some (.ifCond .eq 7, 3) else none)))) else (bif Nat.blt x 52 then (bif Nat.blt x 50 then (bif Nat.blt x 47 then (bif Nat.beq x 46 then some (.iconst 0, 1) else none) else (bif Nat.beq x 47 then some (.goto 12, 3) else none)) else (bif Nat.blt x 51 then (bif Nat.beq x 50 then some (.aload_n 0, 1) else none) else (bif Nat.beq x 51 then some (.iload_n 1, 1) else none))) else (bif Nat.blt x 56 then (bif Nat.blt x 53 then (bif Nat.beq x 52 then some (.iload_n 2, 1) else none) else (bif Nat.beq x 53 then some (.invokestatic 206, 3) else none)) else (bif Nat.blt x 59 then (bif Nat.beq x 56 then some (.invokevirtual 209, 3) else none) else (bif Nat.beq x 59 then some (.ireturn, 1) else none)))))
def q_t71 (x : Nat) : Option (Instr × Nat) := bif Nat.blt x 20 then (bif Nat.blt x 9 then (bif Nat.blt x 2 then (bif Nat.blt x 1 then (bif Nat.beq x 0 then some (.aload_n 0, 1) else none) else (bif Nat.beq x 1 then some (.aload_n 0, 1) else none)) else (bif Nat.blt x 5 then (bif Nat.beq x 2 then some (.getfield 126, 3) else none) else (bif Nat.blt x 8 then (bif Nat.beq x 5 then some (.ifCond .ne 7, 3) else none) else (bif Nat.beq x 8 then some (.iconst 1, 1) else none)))) else (bif Nat.blt x 13 then (bif Nat.blt x 12 then (bif Nat.beq x 9 then some (.goto 4, 3) else none) else (bif Nat.beq x 12 then some (.iconst 0, 1) else none)) else (bif Nat.blt x 16 then (bif Nat.beq x 13 then some (.putfield 90, 3) else none) else (bif Nat.blt x 17 then (bif Nat.beq x 16 then some (.aload_n 0, 1) else none) else (bif Nat.beq x 17 then some (.getfield 90, 3) else none))))) else (bif Nat.blt x 31 then (bif Nat.blt x 24 then (bif Nat.blt x 23 then (bif Nat.beq x 20 then some (.ifCond .eq 7, 3) else none) else (bif Nat.beq x 23 then some (.iconst 0, 1) else none)) else (bif Nat.blt x 27 then (bif Nat.beq x 24 then some (.goto 16, 3) else none) else (bif Nat.blt x 28 then (bif Nat.beq x 27 then some (.iload_n 1, 1) else none) else (bif Nat.beq x 28 then some (.ifCond .ge 7, 3) else none)))) else (bif Nat.blt x 36 then (bif Nat.blt x 32 then (bif Nat.beq x 31 then some (.iconst (-1), 1) else none) else (bif Nat.blt x 35 then (bif Nat.beq x 32 then some (.goto 8, 3) else none) else (bif Nat.beq x 35 then some (.aload_n 0, 1) else none))) else (bif Nat.blt x 37 then (bif Nat.beq x 36 then some (.iload_n 1, 1) else none) else (bif Nat.blt x 40 then (bif Nat.beq x 37 then some (.invokevirtual 193, 3) else none) else (bif Nat.beq x 40 then some (.ireturn, 1) else none)))))
def q_t72 (x : Nat) : Option (Instr × Nat) := bif Nat.blt x 49 then (bif Nat.blt x 23 then (bif Nat.blt x 12 then (bif Nat.blt x 5 then (bif Nat.blt x 1 then (bif Nat.beq x 0 then some (.aload_n 0, 1) else none) else (bif Nat.blt x 2 then (bif Nat.beq x 1 then some (.aload_n 0, 1) else none) else (bif Nat.beq x 2 then some (.getfield 126, 3) else none))) else (bif Nat.blt x 8 then (bif Nat.beq x 5 then some (.ifCond .ne 7, 3) else none) else (bif Nat.blt x 9 then (bif Nat.beq x 8 then some (.iconst 1, 1) else none) else (bif Nat.beq x 9 then some (.goto 29, 3) else none)))) else (bif Nat.blt x 17 then (bif Nat.blt x 13 then (bif Nat.beq x 12 then some (.iload_n 1, 1) else none) else (bif Nat.blt x 14 then (bif Nat.beq x 13 then some (.iconst 1, 1) else none) else (bif Nat.beq x 14 then some (.if_icmp .lt 19, 3) else none))) else (bif Nat.blt x 18 then (bif Nat.beq x 17 then some (.iload_n 1, 1) else none) else (bif Nat.blt x 20 then (bif Nat.beq x 18 then some (.bipush 24, 2) else none) else (bif Nat.beq x 20 then some (.if_icmp .gt 13, 3) else none))))) else (bif Nat.blt x 34 then (bif Nat.blt x 28 then (bif Nat.blt x 24 then (bif Nat.beq x 23 then some (.iload_n 2, 1) else none) else (bif Nat.blt x 27 then (bif Nat.beq x 24 then some (.ifCond .lt 9, 3) else none) else (bif Nat.beq x 27 then some (.iload_n 2, 1) else none))) else (bif Nat.blt x 30 then (bif Nat.beq x 28 then some (.bipush 60, 2) else none) else (bif Nat.blt x 33 then (bif Nat.beq x 30 then some (.if_icmp .le 7, 3) else none) else (bif Nat.beq x 33 then some (.iconst 2, 1) else none)))) else (bif Nat.blt x 41 then (bif Nat.blt x 37 then (bif Nat.beq x 34 then some (.goto 4, 3) else none) else (bif Nat.blt x 38 then (bif Nat.beq x 37 then some (.iconst 0, 1) else none) else (bif Nat.beq x 38 then some (.putfield 90, 3) else none))) else (bif Nat.blt x 45 then (bif Nat.blt x 42 then (bif Nat.beq x 41 then some (.aload_n 0, 1) else none) else (bif Nat.beq x 42 then some (.getfield 90, 3) else none)) else (bif Nat.blt x 48 then (bif Nat.beq x 45 then some (.ifCond .ne 45, 3) else none) else (bif Nat.beq x 48 then some (.aload_n 0, 1) else none)))))) else (bif Nat.blt x 70 then (bif Nat.blt x 59 then (bif Nat.blt x 54 then (bif Nat.blt x 50 then (bif Nat.beq x 49 then some (.iconst 1, 1) else none) else (bif Nat.blt x 53 then (bif Nat.beq x 50 then some (.putfield 122, 3) else none) else (bif Nat.beq x 53 then some (.aload_n 0, 1) else none))) else (bif Nat.blt x 55 then (bif Nat.beq x 54 then some (.iconst 0, 1) else none) else (bif Nat.blt x 58 then (bif Nat.beq x 55 then some (.putfield 212, 3) else none) else (bif Nat.beq x 58 then some (.aload_n 0, 1) else none)))) else (bif Nat.blt x 64 then (bif Nat.blt x 60 then (bif Nat.beq x 59 then some (.iload_n 1, 1) else none) else (bif Nat.blt x 63 then (bif Nat.beq x 60 then some (.putfield 215, 3) else none) else (bif Nat.beq x 63 then some (.aload_n 0, 1) else none))) else (bif Nat.blt x 68 then (bif Nat.blt x 65 then (bif Nat.beq x 64 then some (.iload_n 2, 1) else none) else (bif Nat.beq x 65 then some (.putfield 218, 3) else none)) else (bif Nat.blt x 69 then (bif Nat.beq x 68 then some (.aload_n 0, 1) else none) else (bif Nat.beq x 69 then some (.iconst 1, 1) else none))))) else (bif Nat.blt x 80 then (bif Nat.blt x 75 then (bif Nat.blt x 73 then (bif Nat.beq x 70 then some (.putfield 221, 3) else none) else (bif Nat.blt x 74 then (bif Nat.beq x 73 then some (.aload_n 0, 1) else none) else (bif Nat.beq x 74 then some (.iconst 0, 1) else none))) else (bif Nat.blt x 78 then (bif Nat.beq x 75 then some (.putfield 224, 3) else none) else (bif Nat.blt x 79 then (bif Nat.beq x 78 then some (.aload_n 0, 1) else none) else (bif Nat.beq x 79 then some (.iconst 0, 1) else none)))) else (bif Nat.blt x 87 then (bif Nat.blt x 83 then (bif Nat.beq x 80 then some (.putfield 227, 3) else none) else (bif Nat.blt x 84 then (bif Nat.beq x 83 then some (.aload_n 0, 1) else none) else (bif Nat.beq x 84 then some (.getfield 66, 3) else none))) else (bif Nat.blt x 89 then (bif Nat.blt x 88 then (bif Nat.beq x 87 then some (.iconst 0, 1) else none) else (bif Nat.beq x 88 then some (.iconst 0, 1) else none)) else (bif Nat.blt x 90 then (bif Nat.beq x 89 then some (.iastore, 1) else none) else (bif Nat.beq x 90 then some (.return_, 1) else none))))))
def q_t73 (x : Nat) : Option (Instr × Nat) := bif Nat.blt x 107 then (bif Nat.blt x 53 then (bif Nat.blt x 24 then (bif Nat.blt x 13 then (bif Nat.blt x 5 then (bif Nat.blt x 1 then (bif Nat.beq x 0 then some (.aload_n 0, 1) else none) else (bif Nat.blt x 4 then (bif Nat.beq x 1 then some (.getfield 72, 3) else none) else (bif Nat.beq x 4 then some (.aload_n 0, 1) else none))) else (bif Nat.blt x 9 then (bif Nat.blt x 8 then (bif Nat.beq x 5 then some (.getfield 227, 3) else none) else (bif Nat.beq x 8 then some (.iload_n 2, 1) else none)) else (bif Nat.blt x 12 then (bif Nat.beq x 9 then some (.invokestatic 200, 3) else none) else (bif Nat.beq x 12 then some (.iastore, 1) else none)))) else (bif Nat.blt x 18 then (bif Nat.blt x 14 then (bif Nat.beq x 13 then some (.aload_n 0, 1) else none) else (bif Nat.blt x 17 then (bif Nat.beq x 14 then some (.getfield 75, 3) else none) else (bif Nat.beq x 17 then some (.aload_n 0, 1) else none))) else (bif Nat.blt x 22 then (bif Nat.blt x 21 then (bif Nat.beq x 18 then some (.getfield 227, 3) else none) else (bif Nat.beq x 21 then some (.iload_n 3, 1) else none)) else (bif Nat.blt x 23 then (bif Nat.beq x 22 then some (.iastore, 1) else none) else (bif Nat.beq x 23 then some (.aload_n 0, 1) else none))))) else (bif Nat.blt x 37 then (bif Nat.blt x 31 then (bif Nat.blt x 27 then (bif Nat.beq x 24 then some (.getfield 78, 3) else none) else (bif Nat.blt x 28 then (bif Nat.beq x 27 then some (.aload_n 0, 1) else none) else (bif Nat.beq x 28 then some (.getfield 227, 3) else none))) else (bif Nat.blt x 34 then (bif Nat.blt x 33 then (bif Nat.beq x 31 then some (.iload 4, 2) else none) else (bif Nat.beq x 33 then some (.iastore, 1) else none)) else (bif Nat.blt x 35 then (bif Nat.beq x 34 then some (.iconst 0, 1) else none) else (bif Nat.beq x 35 then some (.istore 5, 2) else none)))) else (bif Nat.blt x 45 then (bif Nat.blt x 41 then (bif Nat.blt x 39 then (bif Nat.beq x 37 then some (.iload 5, 2) else none) else (bif Nat.beq x 39 then some (.iload 4, 2) else none)) else (bif Nat.blt x 44 then (bif Nat.beq x 41 then some (.if_icmp .ge 35, 3) else none) else (bif Nat.beq x 44 then some (.aload_n 0, 1) else none))) else (bif Nat.blt x 49 then (bif Nat.blt x 48 then (bif Nat.beq x 45 then some (.getfield 87, 3) else none) else (bif Nat.beq x 48 then some (.iconst 4, 1) else none)) else (bif Nat.blt x 50 then (bif Nat.beq x 49 then some (.aload_n 0, 1) else none) else (bif Nat.beq x 50 then some (.getfield 227, 3) else none)))))) else (bif Nat.blt x 77 then (bif Nat.blt x 65 then (bif Nat.blt x 57 then (bif Nat.blt x 54 then (bif Nat.beq x 53 then some (.imul, 1) else none) else (bif Nat.blt x 56 then (bif Nat.beq x 54 then some (.iload 5, 2) else none) else (bif Nat.beq x 56 then some (.iadd, 1) else none))) else (bif Nat.blt x 61 then (bif Nat.blt x 58 then (bif Nat.beq x 57 then some (.aload_n 0, 1) else none) else (bif Nat.beq x 58 then some (.getfield 69, 3) else none)) else (bif Nat.blt x 62 then (bif Nat.beq x 61 then some (.aload_n 0, 1) else none) else (bif Nat.beq x 62 then some (.getfield 221, 3) else none)))) else (bif Nat.blt x 69 then (bif Nat.blt x 67 then (bif Nat.beq x 65 then some (.iload 5, 2) else none) else (bif Nat.blt x 68 then (bif Nat.beq x 67 then some (.iadd, 1) else none) else (bif Nat.beq x 68 then some (.iaload, 1) else none))) else (bif Nat.blt x 73 then (bif Nat.blt x 70 then (bif Nat.beq x 69 then some (.iastore, 1) else none) else (bif Nat.beq x 70 then some (.iinc 5 1, 3) else none)) else (bif Nat.blt x 76 then (bif Nat.beq x 73 then some (.goto (-36), 3) else none) else (bif Nat.beq x 76 then some (.aload_n 0, 1) else none))))) else (bif Nat.blt x 93 then (bif Nat.blt x 84 then (bif Nat.blt x 80 then (bif Nat.beq x 77 then some (.getfield 81, 3) else none) else (bif Nat.blt x 81 then (bif Nat.beq x 80 then some (.aload_n 0, 1) else none) else (bif Nat.beq x 81 then some (.getfield 227, 3) else none))) else (bif Nat.blt x 89 then (bif Nat.blt x 86 then (bif Nat.beq x 84 then some (.iload 4, 2) else none) else (bif Nat.beq x 86 then some (.ifCond .le 20, 3) else none)) else (bif Nat.blt x 90 then (bif Nat.beq x 89 then some (.aload_n 0, 1) else none) else (bif Nat.beq x 90 then some (.getfield 81, 3) else none)))) else (bif Nat.blt x 101 then (bif Nat.blt x 97 then (bif Nat.blt x 94 then (bif Nat.beq x 93 then some (.aload_n 0, 1) else none) else (bif Nat.beq x 94 then some (.getfield 69, 3) else none)) else (bif Nat.blt x 98 then (bif Nat.beq x 97 then some (.aload_n 0, 1) else none) else (bif Nat.beq x 98 then some (.getfield 221, 3) else none))) else (bif Nat.blt x 103 then (bif Nat.blt x 102 then (bif Nat.beq x 101 then some (.iaload, 1) else none) else (bif Nat.beq x 102 then some (.iaload, 1) else none)) else (bif Nat.blt x 106 then (bif Nat.beq x 103 then some (.goto 7, 3) else none) else (bif Nat.beq x 106 then some (.aload_n 0, 1) else none))))))) else (bif Nat.blt x 163 then (bif Nat.blt x 136 then (bif Nat.blt x 121 then (bif Nat.blt x 112 then (bif Nat.blt x 110 then (bif Nat.beq x 107 then some (.getfield 224, 3) else none) else (bif Nat.blt x 111 then (bif Nat.beq x 110 then some (.iastore, 1) else none) else (bif Nat.beq x 111 then some (.aload_n 0, 1) else none))) else (bif Nat.blt x 116 then (bif Nat.blt x 115 then (bif Nat.beq x 112 then some (.getfield 84, 3) else none) else (bif Nat.beq x 115 then some (.aload_n 0, 1) else none)) else (bif Nat.blt x 119 then (bif Nat.beq x 116 then some (.getfield 227, 3) else none) else (bif Nat.beq x 119 then some (.iload 4, 2) else none)))) else (bif Nat.blt x 128 then (bif Nat.blt x 124 then (bif Nat.beq x 121 then some (.ifCond .le 25, 3) else none) else (bif Nat.blt x 125 then (bif Nat.beq x 124 then some (.aload_n 0, 1) else none) else (bif Nat.beq x 125 then some (.getfield 84, 3) else none))) else (bif Nat.blt x 132 then (bif Nat.blt x 129 then (bif Nat.beq x 128 then some (.aload_n 0, 1) else none) else (bif Nat.beq x 129 then some (.getfield 69, 3) else none)) else (bif Nat.blt x 133 then (bif Nat.beq x 132 then some (.aload_n 0, 1) else none) else (bif Nat.beq x 133 then some (.getfield 221, 3) else none))))) else (bif Nat.blt x 146 then (bif Nat.blt x 140 then (bif Nat.blt x 138 then (bif Nat.beq x 136 then some (.iload 4, 2) else none) else (bif Nat.blt x 139 then (bif Nat.beq x 138 then some (.iadd, 1) else none) else (bif Nat.beq x 139 then some (.iconst 1, 1) else none))) else (bif Nat.blt x 142 then (bif Nat.blt x 141 then (bif Nat.beq x 140 then some (.isub, 1) else none) else (bif Nat.beq x 141 then some (.iaload, 1) else none)) else (bif Nat.blt x 143 then (bif Nat.beq x 142 then some (.iaload, 1) else none) else (bif Nat.beq x 143 then some (.goto 22, 3) else none)))) else (bif Nat.blt x 153 then (bif Nat.blt x 149 then (bif Nat.blt x 147 then (bif Nat.beq x 146 then some (.iload_n 2, 1) else none) else (bif Nat.beq x 147 then some (.bipush 8, 2) else none)) else (bif Nat.blt x 152 then (bif Nat.beq x 149 then some (.if_icmp .ge 10, 3) else none) else (bif Nat.beq x 152 then some (.aload_n 0, 1) else none))) else (bif Nat.blt x 159 then (bif Nat.blt x 156 then (bif Nat.beq x 153 then some (.getfield 224, 3) else none) else (bif Nat.beq x 156 then some (.goto 9, 3) else none)) else (bif Nat.blt x 160 then (bif Nat.beq x 159 then some (.aload_n 0, 1) else none) else (bif Nat.beq x 160 then some (.getfield 224, 3) else none)))))) else (bif Nat.blt x 185 then (bif Nat.blt x 174 then (bif Nat.blt x 166 then (bif Nat.blt x 164 then (bif Nat.beq x 163 then some (.iconst 1, 1) else none) else (bif Nat.blt x 165 then (bif Nat.beq x 164 then some (.iadd, 1) else none) else (bif Nat.beq x 165 then some (.iastore, 1) else none))) else (bif Nat.blt x 170 then (bif Nat.blt x 167 then (bif Nat.beq x 166 then some (.aload_n 0, 1) else none) else (bif Nat.beq x 167 then some (.getfield 66, 3) else none)) else (bif Nat.blt x 171 then (bif Nat.beq x 170 then some (.aload_n 0, 1) else none) else (bif Nat.beq x 171 then some (.getfield 221, 3) else none)))) else (bif Nat.blt x 177 then (bif Nat.blt x 175 then (bif Nat.beq x 174 then some (.iload_n 1, 1) else none) else (bif Nat.blt x 176 then (bif Nat.beq x 175 then some (.iastore, 1) else none) else (bif Nat.beq x 176 then some (.aload_n 0, 1) else none))) else (bif Nat.blt x 181 then (bif Nat.blt x 180 then (bif Nat.beq x 177 then some (.getfield 69, 3) else none) else (bif Nat.beq x 180 then some (.aload_n 0, 1) else none)) else (bif Nat.blt x 184 then (bif Nat.beq x 181 then some (.getfield 221, 3) else none) else (bif Nat.beq x 184 then some (.aload_n 0, 1) else none))))) else (bif Nat.blt x 196 then (bif Nat.blt x 190 then (bif Nat.blt x 188 then (bif Nat.beq x 185 then some (.getfield 227, 3) else none) else (bif Nat.blt x 189 then (bif Nat.beq x 188 then some (.iastore, 1) else none) else (bif Nat.beq x 189 then some (.aload_n 0, 1) else none))) else (bif Nat.blt x 194 then (bif Nat.blt x 191 then (bif Nat.beq x 190 then some (.dup, 1) else none) else (bif Nat.beq x 191 then some (.getfield 221, 3) else none)) else (bif Nat.blt x 195 then (bif Nat.beq x 194 then some (.iconst 1, 1) else none) else (bif Nat.beq x 195 then some (.iadd, 1) else none)))) else (bif Nat.blt x 204 then (bif Nat.blt x 200 then (bif Nat.blt x 199 then (bif Nat.beq x 196 then some (.putfield 221, 3) else none) else (bif Nat.beq x 199 then some (.aload_n 0, 1) else none)) else (bif Nat.blt x 201 then (bif Nat.beq x 200 then some (.dup, 1) else none) else (bif Nat.beq x 201 then some (.getfield 227, 3) else none))) else (bif Nat.blt x 206 then (bif Nat.blt x 205 then (bif Nat.beq x 204 then some (.iconst 1, 1) else none) else (bif Nat.beq x 205 then some (.iadd, 1) else none)) else (bif Nat.blt x 209 then (bif Nat.beq x 206 then some (.putfield 227, 3) else none) else (bif Nat.beq x 209 then some (.return_, 1) else none)))))))
def q_t74 (x : Nat) : Option (Instr × Nat) := bif Nat.blt x 77 then (bif Nat.blt x 38 then (bif Nat.blt x 20 then (bif Nat.blt x 10 then (bif Nat.blt x 3 then (bif Nat.blt x 1 then (bif Nat.beq x 0 then some (.iload_n 1, 1) else none) else (bif Nat.beq x 1 then some (.bipush 20, 2) else none)) else (bif Nat.blt x 6 then (bif Nat.beq x 3 then some (.if_icmp .lt 7, 3) else none) else (bif Nat.blt x 7 then (bif Nat.beq x 6 then some (.iconst 1, 1) else none) else (bif Nat.beq x 7 then some (.goto 4, 3) else none)))) else (bif Nat.blt x 13 then (bif Nat.blt x 11 then (bif Nat.beq x 10 then some (.iconst 0, 1) else none) else (bif Nat.blt x 12 then (bif Nat.beq x 11 then some (.istore_n 3, 1) else none) else (bif Nat.beq x 12 then some (.iload_n 3, 1) else none))) else (bif Nat.blt x 16 then (bif Nat.beq x 13 then some (.ifCond .eq 7, 3) else none) else (bif Nat.blt x 17 then (bif Nat.beq x 16 then some (.iconst 0, 1) else none) else (bif Nat.beq x 17 then some (.goto 9, 3) else none))))) else (bif Nat.blt x 29 then (bif Nat.blt x 25 then (bif Nat.blt x 21 then (bif Nat.beq x 20 then some (.aload_n 0, 1) else none) else (bif Nat.blt x 24 then (bif Nat.beq x 21 then some (.getfield 20, 3) else none) else (bif Nat.beq x 24 then some (.iload_n 1, 1) else none))) else (bif Nat.blt x 26 then (bif Nat.beq x 25 then some (.iaload, 1) else none) else (bif Nat.blt x 28 then (bif Nat.beq x 26 then some (.istore 4, 2) else none) else (bif Nat.beq x 28 then some (.aload_n 0, 1) else none)))) else (bif Nat.blt x 35 then (bif Nat.blt x 32 then (bif Nat.beq x 29 then some (.getfield 221, 3) else none) else (bif Nat.blt x 34 then (bif Nat.beq x 32 then some (.iload 4, 2) else none) else (bif Nat.beq x 34 then some (.isub, 1) else none))) else (bif Nat.blt x 36 then (bif Nat.beq x 35 then some (.iconst 1, 1) else none) else (bif Nat.blt x 37 then (bif Nat.beq x 36 then some (.iadd, 1) else none) else (bif Nat.beq x 37 then some (.aload_n 0, 1) else none)))))) else (bif Nat.blt x 59 then (bif Nat.blt x 49 then (bif Nat.blt x 44 then (bif Nat.blt x 41 then (bif Nat.beq x 38 then some (.getfield 215, 3) else none) else (bif Nat.beq x 41 then some (.if_icmp .gt 16, 3) else none)) else (bif Nat.blt x 45 then (bif Nat.beq x 44 then some (.aload_n 0, 1) else none) else (bif Nat.blt x 48 then (bif Nat.beq x 45 then some (.getfield 227, 3) else none) else (bif Nat.beq x 48 then some (.iconst 1, 1) else none)))) else (bif Nat.blt x 54 then (bif Nat.blt x 50 then (bif Nat.beq x 49 then some (.iadd, 1) else none) else (bif Nat.blt x 51 then (bif Nat.beq x 50 then some (.aload_n 0, 1) else none) else (bif Nat.beq x 51 then some (.getfield 218, 3) else none))) else (bif Nat.blt x 57 then (bif Nat.beq x 54 then some (.if_icmp .le 10, 3) else none) else (bif Nat.blt x 58 then (bif Nat.beq x 57 then some (.aload_n 0, 1) else none) else (bif Nat.beq x 58 then some (.iconst 3, 1) else none))))) else (bif Nat.blt x 69 then (bif Nat.blt x 64 then (bif Nat.blt x 62 then (bif Nat.beq x 59 then some (.putfield 212, 3) else none) else (bif Nat.blt x 63 then (bif Nat.beq x 62 then some (.iconst 0, 1) else none) else (bif Nat.beq x 63 then some (.ireturn, 1) else none))) else (bif Nat.blt x 65 then (bif Nat.beq x 64 then some (.iload_n 3, 1) else none) else (bif Nat.blt x 68 then (bif Nat.beq x 65 then some (.ifCond .eq 29, 3) else none) else (bif Nat.beq x 68 then some (.aload_n 0, 1) else none)))) else (bif Nat.blt x 73 then (bif Nat.blt x 70 then (bif Nat.beq x 69 then some (.iload_n 1, 1) else none) else (bif Nat.blt x 72 then (bif Nat.beq x 70 then some (.bipush 20, 2) else none) else (bif Nat.beq x 72 then some (.isub, 1) else none))) else (bif Nat.blt x 75 then (bif Nat.beq x 73 then some (.bipush 8, 2) else none) else (bif Nat.blt x 76 then (bif Nat.beq x 75 then some (.iload_n 2, 1) else none) else (bif Nat.beq x 76 then some (.iadd, 1) else none))))))) else (bif Nat.blt x 116 then (bif Nat.blt x 94 then (bif Nat.blt x 84 then (bif Nat.blt x 79 then (bif Nat.blt x 78 then (bif Nat.beq x 77 then some (.iconst 0, 1) else none) else (bif Nat.beq x 78 then some (.iconst 0, 1) else none)) else (bif Nat.blt x 82 then (bif Nat.beq x 79 then some (.invokevirtual 230, 3) else none) else (bif Nat.blt x 83 then (bif Nat.beq x 82 then some (.aload_n 0, 1) else none) else (bif Nat.beq x 83 then some (.dup, 1) else none)))) else (bif Nat.blt x 89 then (bif Nat.blt x 87 then (bif Nat.beq x 84 then some (.getfield 224, 3) else none) else (bif Nat.blt x 88 then (bif Nat.beq x 87 then some (.iconst 1, 1) else none) else (bif Nat.beq x 88 then some (.iadd, 1) else none))) else (bif Nat.blt x 92 then (bif Nat.beq x 89 then some (.putfield 224, 3) else none) else (bif Nat.blt x 93 then (bif Nat.beq x 92 then some (.iconst 0, 1) else none) else (bif Nat.beq x 93 then some (.ireturn, 1) else none))))) else (bif Nat.blt x 105 then (bif Nat.blt x 99 then (bif Nat.blt x 95 then (bif Nat.beq x 94 then some (.aload_n 0, 1) else none) else (bif Nat.blt x 96 then (bif Nat.beq x 95 then some (.aload_n 0, 1) else none) else (bif Nat.beq x 96 then some (.getfield 221, 3) else none))) else (bif Nat.blt x 101 then (bif Nat.beq x 99 then some (.iload 4, 2) else none) else (bif Nat.blt x 102 then (bif Nat.beq x 101 then some (.isub, 1) else none) else (bif Nat.beq x 102 then some (.putfield 221, 3) else none)))) else (bif Nat.blt x 111 then (bif Nat.blt x 106 then (bif Nat.beq x 105 then some (.aload_n 0, 1) else none) else (bif Nat.blt x 109 then (bif Nat.beq x 106 then some (.getfield 54, 3) else none) else (bif Nat.beq x 109 then some (.bipush 16, 2) else none))) else (bif Nat.blt x 112 then (bif Nat.beq x 111 then some (.aload_n 0, 1) else none) else (bif Nat.blt x 115 then (bif Nat.beq x 112 then some (.getfield 66, 3) else none) else (bif Nat.beq x 115 then some (.aload_n 0, 1) else none)))))) else (bif Nat.blt x 131 then (bif Nat.blt x 123 then (bif Nat.blt x 120 then (bif Nat.blt x 119 then (bif Nat.beq x 116 then some (.getfield 221, 3) else none) else (bif Nat.beq x 119 then some (.iconst 1, 1) else none)) else (bif Nat.blt x 121 then (bif Nat.beq x 120 then some (.isub, 1) else none) else (bif Nat.blt x 122 then (bif Nat.beq x 121 then some (.iaload, 1) else none) else (bif Nat.beq x 122 then some (.imul, 1) else none)))) else (bif Nat.blt x 128 then (bif Nat.blt x 124 then (bif Nat.beq x 123 then some (.aload_n 0, 1) else none) else (bif Nat.blt x 127 then (bif Nat.beq x 124 then some (.getfield 17, 3) else none) else (bif Nat.beq x 127 then some (.iload_n 1, 1) else none))) else (bif Nat.blt x 129 then (bif Nat.beq x 128 then some (.iaload, 1) else none) else (bif Nat.blt x 130 then (bif Nat.beq x 129 then some (.iadd, 1) else none) else (bif Nat.beq x 130 then some (.iaload, 1) else none))))) else (bif Nat.blt x 141 then (bif Nat.blt x 136 then (bif Nat.blt x 133 then (bif Nat.beq x 131 then some (.istore 5, 2) else none) else (bif Nat.blt x 134 then (bif Nat.beq x 133 then some (.aload_n 0, 1) else none) else (bif Nat.beq x 134 then some (.iload 5, 2) else none))) else (bif Nat.blt x 137 then (bif Nat.beq x 136 then some (.aload_n 0, 1) else none) else (bif Nat.blt x 140 then (bif Nat.beq x 137 then some (.getfield 17, 3) else none) else (bif Nat.beq x 140 then some (.iload_n 1, 1) else none)))) else (bif Nat.blt x 145 then (bif Nat.blt x 142 then (bif Nat.beq x 141 then some (.iaload, 1) else none) else (bif Nat.blt x 143 then (bif Nat.beq x 142 then some (.iload_n 1, 1) else none) else (bif Nat.beq x 143 then some (.iload 4, 2) else none))) else (bif Nat.blt x 148 then (bif Nat.beq x 145 then some (.invokevirtual 230, 3) else none) else (bif Nat.blt x 149 then (bif Nat.beq x 148 then some (.iconst 1, 1) else none) else (bif Nat.beq x 149 then some (.ireturn, 1) else none)))))))
def q_t75 (x : Nat) : Option (Instr × Nat) := bif Nat.blt x 59 then (bif Nat.blt x 31 then (bif Nat.blt x 15 then (bif Nat.blt x 5 then (bif Nat.blt x 1 then (bif Nat.beq x 0 then some (.aload_n 0, 1) else none) else (bif Nat.blt x 2 then (bif Nat.beq x 1 then some (.aload_n 0, 1) else none) else (bif Nat.beq x 2 then some (.getfield 122, 3) else none))) else (bif Nat.blt x 9 then (bif Nat.blt x 8 then (bif Nat.beq x 5 then some (.ifCond .eq 10, 3) else none) else (bif Nat.beq x 8 then some (.aload_n 0, 1) else none)) else (bif Nat.blt x 12 then (bif Nat.beq x 9 then some (.getfield 212, 3) else none) else (bif Nat.beq x 12 then some (.ifCond .eq 7, 3) else none)))) else (bif Nat.blt x 23 then (bif Nat.blt x 19 then (bif Nat.blt x 16 then (bif Nat.beq x 15 then some (.iconst 1, 1) else none) else (bif Nat.beq x 16 then some (.goto 15, 3) else none)) else (bif Nat.blt x 20 then (bif Nat.beq x 19 then some (.iload_n 1, 1) else none) else (bif Nat.beq x 20 then some (.invokestatic 206, 3) else none))) else (bif Nat.blt x 27 then (bif Nat.blt x 26 then (bif Nat.beq x 23 then some (.ifCond .ge 7, 3) else none) else (bif Nat.beq x 26 then some (.iconst 2, 1) else none)) else (bif Nat.blt x 30 then (bif Nat.beq x 27 then some (.goto 4, 3) else none) else (bif Nat.beq x 30 then some (.iconst 0, 1) else none))))) else (bif Nat.blt x 47 then (bif Nat.blt x 41 then (bif Nat.blt x 35 then (bif Nat.blt x 34 then (bif Nat.beq x 31 then some (.putfield 90, 3) else none) else (bif Nat.beq x 34 then some (.aload_n 0, 1) else none)) else (bif Nat.blt x 38 then (bif Nat.beq x 35 then some (.getfield 90, 3) else none) else (bif Nat.beq x 38 then some (.ifCond .eq 5, 3) else none))) else (bif Nat.blt x 43 then (bif Nat.blt x 42 then (bif Nat.beq x 41 then some (.iconst 0, 1) else none) else (bif Nat.beq x 42 then some (.ireturn, 1) else none)) else (bif Nat.blt x 44 then (bif Nat.beq x 43 then some (.iload_n 1, 1) else none) else (bif Nat.beq x 44 then some (.invokestatic 206, 3) else none)))) else (bif Nat.blt x 51 then (bif Nat.blt x 49 then (bif Nat.blt x 48 then (bif Nat.beq x 47 then some (.istore_n 2, 1) else none) else (bif Nat.beq x 48 then some (.iconst 1, 1) else none)) else (bif Nat.blt x 50 then (bif Nat.beq x 49 then some (.istore_n 3, 1) else none) else (bif Nat.beq x 50 then some (.iload_n 3, 1) else none))) else (bif Nat.blt x 55 then (bif Nat.blt x 54 then (bif Nat.beq x 51 then some (.ifCond .eq 63, 3) else none) else (bif Nat.beq x 54 then some (.aload_n 0, 1) else none)) else (bif Nat.blt x 56 then (bif Nat.beq x 55 then some (.aload_n 0, 1) else none) else (bif Nat.beq x 56 then some (.getfield 66, 3) else none)))))) else (bif Nat.blt x 90 then (bif Nat.blt x 72 then (bif Nat.blt x 65 then (bif Nat.blt x 63 then (bif Nat.blt x 60 then (bif Nat.beq x 59 then some (.aload_n 0, 1) else none) else (bif Nat.beq x 60 then some (.getfield 221, 3) else none)) else (bif Nat.blt x 64 then (bif Nat.beq x 63 then some (.iconst 1, 1) else none) else (bif Nat.beq x 64 then some (.isub, 1) else none))) else (bif Nat.blt x 67 then (bif Nat.blt x 66 then (bif Nat.beq x 65 then some (.iaload, 1) else none) else (bif Nat.beq x 66 then some (.iload_n 2, 1) else none)) else (bif Nat.blt x 70 then (bif Nat.beq x 67 then some (.invokevirtual 209, 3) else none) else (bif Nat.beq x 70 then some (.istore 4, 2) else none)))) else (bif Nat.blt x 81 then (bif Nat.blt x 77 then (bif Nat.blt x 74 then (bif Nat.beq x 72 then some (.iload 4, 2) else none) else (bif Nat.beq x 74 then some (.ifCond .eq 10, 3) else none)) else (bif Nat.blt x 79 then (bif Nat.beq x 77 then some (.iload 4, 2) else none) else (bif Nat.beq x 79 then some (.bipush 16, 2) else none))) else (bif Nat.blt x 85 then (bif Nat.blt x 84 then (bif Nat.beq x 81 then some (.if_icmp .ne 22, 3) else none) else (bif Nat.beq x 84 then some (.aload_n 0, 1) else none)) else (bif Nat.blt x 87 then (bif Nat.beq x 85 then some (.iload 4, 2) else none) else (bif Nat.beq x 87 then some (.ifCond .ne 7, 3) else none))))) else (bif Nat.blt x 104 then (bif Nat.blt x 98 then (bif Nat.blt x 94 then (bif Nat.blt x 91 then (bif Nat.beq x 90 then some (.iconst 2, 1) else none) else (bif Nat.beq x 91 then some (.goto 4, 3) else none)) else (bif Nat.blt x 95 then (bif Nat.beq x 94 then some (.iconst 1, 1) else none) else (bif Nat.beq x 95 then some (.putfield 212, 3) else none))) else (bif Nat.blt x 100 then (bif Nat.blt x 99 then (bif Nat.beq x 98 then some (.iconst 0, 1) else none) else (bif Nat.beq x 99 then some (.istore_n 3, 1) else none)) else (bif Nat.blt x 103 then (bif Nat.beq x 100 then some (.goto 11, 3) else none) else (bif Nat.beq x 103 then some (.aload_n 0, 1) else none)))) else (bif Nat.blt x 111 then (bif Nat.blt x 107 then (bif Nat.blt x 106 then (bif Nat.beq x 104 then some (.iload 4, 2) else none) else (bif Nat.beq x 106 then some (.iload_n 2, 1) else none)) else (bif Nat.blt x 110 then (bif Nat.beq x 107 then some (.invokevirtual 234, 3) else none) else (bif Nat.beq x 110 then some (.istore_n 3, 1) else none))) else (bif Nat.blt x 115 then (bif Nat.blt x 114 then (bif Nat.beq x 111 then some (.goto (-61), 3) else none) else (bif Nat.beq x 114 then some (.aload_n 0, 1) else none)) else (bif Nat.blt x 118 then (bif Nat.beq x 115 then some (.getfield 212, 3) else none) else (bif Nat.beq x 118 then some (.ireturn, 1) else none))))))
def q_t76 (x : Nat) : Option (Instr × Nat) := bif Nat.blt x 30 then (bif Nat.blt x 14 then (bif Nat.blt x 6 then (bif Nat.blt x 2 then (bif Nat.blt x 1 then (bif Nat.beq x 0 then some (.aload_n 0, 1) else none) else (bif Nat.beq x 1 then some (.iconst 0, 1) else none)) else (bif Nat.blt x 5 then (bif Nat.beq x 2 then some (.putfield 90, 3) else none) else (bif Nat.beq x 5 then some (.aload_n 0, 1) else none))) else (bif Nat.blt x 12 then (bif Nat.blt x 9 then (bif Nat.beq x 6 then some (.getfield 122, 3) else none) else (bif Nat.beq x 9 then some (.ifCond .ne 5, 3) else none)) else (bif Nat.blt x 13 then (bif Nat.beq x 12 then some (.iconst (-1), 1) else none) else (bif Nat.beq x 13 then some (.ireturn, 1) else none)))) else (bif Nat.blt x 22 then (bif Nat.blt x 18 then (bif Nat.blt x 15 then (bif Nat.beq x 14 then some (.iload_n 1, 1) else none) else (bif Nat.beq x 15 then some (.ifCond .ne 10, 3) else none)) else (bif Nat.blt x 19 then (bif Nat.beq x 18 then some (.aload_n 0, 1) else none) else (bif Nat.beq x 19 then some (.getfield 212, 3) else none))) else (bif Nat.blt x 26 then (bif Nat.blt x 25 then (bif Nat.beq x 22 then some (.goto 40, 3) else none) else (bif Nat.beq x 25 then some (.iload_n 1, 1) else none)) else (bif Nat.blt x 27 then (bif Nat.beq x 26 then some (.iconst 1, 1) else none) else (bif Nat.beq x 27 then some (.if_icmp .ne 10, 3) else none))))) else (bif Nat.blt x 46 then (bif Nat.blt x 38 then (bif Nat.blt x 34 then (bif Nat.blt x 31 then (bif Nat.beq x 30 then some (.aload_n 0, 1) else none) else (bif Nat.beq x 31 then some (.getfield 221, 3) else none)) else (bif Nat.blt x 37 then (bif Nat.beq x 34 then some (.goto 28, 3) else none) else (bif Nat.beq x 37 then some (.iload_n 1, 1) else none))) else (bif Nat.blt x 42 then (bif Nat.blt x 39 then (bif Nat.beq x 38 then some (.iconst 2, 1) else none) else (bif Nat.beq x 39 then some (.if_icmp .ne 10, 3) else none)) else (bif Nat.blt x 43 then (bif Nat.beq x 42 then some (.aload_n 0, 1) else none) else (bif Nat.beq x 43 then some (.getfield 224, 3) else none)))) else (bif Nat.blt x 54 then (bif Nat.blt x 50 then (bif Nat.blt x 49 then (bif Nat.beq x 46 then some (.goto 16, 3) else none) else (bif Nat.beq x 49 then some (.iload_n 1, 1) else none)) else (bif Nat.blt x 51 then (bif Nat.beq x 50 then some (.iconst 3, 1) else none) else (bif Nat.beq x 51 then some (.if_icmp .ne 10, 3) else none))) else (bif Nat.blt x 58 then (bif Nat.blt x 55 then (bif Nat.beq x 54 then some (.aload_n 0, 1) else none) else (bif Nat.beq x 55 then some (.getfield 227, 3) else none)) else (bif Nat.blt x 61 then (bif Nat.beq x 58 then some (.goto 4, 3) else none) else (bif Nat.blt x 62 then (bif Nat.beq x 61 then some (.iconst (-1), 1) else none) else (bif Nat.beq x 62 then some (.ireturn, 1) else none))))))
def q_t77 (x : Nat) : Option (Instr × Nat) := bif Nat.blt x 24 then (bif Nat.blt x 12 then (bif Nat.blt x 5 then (bif Nat.blt x 1 then (bif Nat.beq x 0 then some (.aload_n 0, 1) else none) else (bif Nat.blt x 2 then (bif Nat.beq x 1 then some (.aload_n 0, 1) else none) else (bif Nat.beq x 2 then some (.getfield 122, 3) else none))) else (bif Nat.blt x 8 then (bif Nat.beq x 5 then some (.ifCond .eq 15, 3) else none) else (bif Nat.blt x 9 then (bif Nat.beq x 8 then some (.iload_n 1, 1) else none) else (bif Nat.beq x 9 then some (.ifCond .lt 11, 3) else none)))) else (bif Nat.blt x 17 then (bif Nat.blt x 13 then (bif Nat.beq x 12 then some (.iload_n 1, 1) else none) else (bif Nat.blt x 14 then (bif Nat.beq x 13 then some (.aload_n 0, 1) else none) else (bif Nat.beq x 14 then some (.getfield 221, 3) else none))) else (bif Nat.blt x 20 then (bif Nat.beq x 17 then some (.if_icmp .lt 7, 3) else none) else (bif Nat.blt x 21 then (bif Nat.beq x 20 then some (.iconst 1, 1) else none) else (bif Nat.beq x 21 then some (.goto 4, 3) else none))))) else (bif Nat.blt x 36 then (bif Nat.blt x 29 then (bif Nat.blt x 25 then (bif Nat.beq x 24 then some (.iconst 0, 1) else none) else (bif Nat.blt x 28 then (bif Nat.beq x 25 then some (.putfield 90, 3) else none) else (bif Nat.beq x 28 then some (.aload_n 0, 1) else none))) else (bif Nat.blt x 32 then (bif Nat.beq x 29 then some (.getfield 90, 3) else none) else (bif Nat.blt x 35 then (bif Nat.beq x 32 then some (.ifCond .eq 7, 3) else none) else (bif Nat.beq x 35 then some (.iconst 0, 1) else none)))) else (bif Nat.blt x 43 then (bif Nat.blt x 39 then (bif Nat.beq x 36 then some (.goto 9, 3) else none) else (bif Nat.blt x 40 then (bif Nat.beq x 39 then some (.aload_n 0, 1) else none) else (bif Nat.beq x 40 then some (.getfield 66, 3) else none))) else (bif Nat.blt x 44 then (bif Nat.beq x 43 then some (.iload_n 1, 1) else none) else (bif Nat.blt x 45 then (bif Nat.beq x 44 then some (.iaload, 1) else none) else (bif Nat.beq x 45 then some (.ireturn, 1) else none)))))
def q_t78 (x : Nat) : Option (Instr × Nat) := bif Nat.blt x 35 then (bif Nat.blt x 18 then (bif Nat.blt x 9 then (bif Nat.blt x 2 then (bif Nat.blt x 1 then (bif Nat.beq x 0 then some (.aload_n 0, 1) else none) else (bif Nat.beq x 1 then some (.aload_n 0, 1) else none)) else (bif Nat.blt x 5 then (bif Nat.beq x 2 then some (.getfield 122, 3) else none) else (bif Nat.blt x 8 then (bif Nat.beq x 5 then some (.ifCond .ne 7, 3) else none) else (bif Nat.beq x 8 then some (.iconst 1, 1) else none)))) else (bif Nat.blt x 13 then (bif Nat.blt x 12 then (bif Nat.beq x 9 then some (.goto 4, 3) else none) else (bif Nat.beq x 12 then some (.iconst 0, 1) else none)) else (bif Nat.blt x 16 then (bif Nat.beq x 13 then some (.putfield 90, 3) else none) else (bif Nat.blt x 17 then (bif Nat.beq x 16 then some (.iconst 0, 1) else none) else (bif Nat.beq x 17 then some (.istore_n 1, 1) else none))))) else (bif Nat.blt x 26 then (bif Nat.blt x 20 then (bif Nat.blt x 19 then (bif Nat.beq x 18 then some (.iconst 0, 1) else none) else (bif Nat.beq x 19 then some (.istore_n 2, 1) else none)) else (bif Nat.blt x 21 then (bif Nat.beq x 20 then some (.iload_n 2, 1) else none) else (bif Nat.blt x 23 then (bif Nat.beq x 21 then some (.bipush 9, 2) else none) else (bif Nat.beq x 23 then some (.if_icmp .ge 45, 3) else none)))) else (bif Nat.blt x 30 then (bif Nat.blt x 27 then (bif Nat.beq x 26 then some (.aload_n 0, 1) else none) else (bif Nat.beq x 27 then some (.getfield 122, 3) else none)) else (bif Nat.blt x 33 then (bif Nat.beq x 30 then some (.ifCond .eq 38, 3) else none) else (bif Nat.blt x 34 then (bif Nat.beq x 33 then some (.aload_n 0, 1) else none) else (bif Nat.beq x 34 then some (.aload_n 0, 1) else none)))))) else (bif Nat.blt x 53 then (bif Nat.blt x 44 then (bif Nat.blt x 39 then (bif Nat.blt x 38 then (bif Nat.beq x 35 then some (.getfield 66, 3) else none) else (bif Nat.beq x 38 then some (.aload_n 0, 1) else none)) else (bif Nat.blt x 42 then (bif Nat.beq x 39 then some (.getfield 221, 3) else none) else (bif Nat.blt x 43 then (bif Nat.beq x 42 then some (.iconst 1, 1) else none) else (bif Nat.beq x 43 then some (.isub, 1) else none)))) else (bif Nat.blt x 46 then (bif Nat.blt x 45 then (bif Nat.beq x 44 then some (.iaload, 1) else none) else (bif Nat.beq x 45 then some (.iload_n 2, 1) else none)) else (bif Nat.blt x 49 then (bif Nat.beq x 46 then some (.invokevirtual 209, 3) else none) else (bif Nat.blt x 52 then (bif Nat.beq x 49 then some (.ifCond .eq 11, 3) else none) else (bif Nat.beq x 52 then some (.iload_n 1, 1) else none))))) else (bif Nat.blt x 60 then (bif Nat.blt x 55 then (bif Nat.blt x 54 then (bif Nat.beq x 53 then some (.iconst 1, 1) else none) else (bif Nat.beq x 54 then some (.iload_n 2, 1) else none)) else (bif Nat.blt x 56 then (bif Nat.beq x 55 then some (.ishl, 1) else none) else (bif Nat.blt x 57 then (bif Nat.beq x 56 then some (.ior, 1) else none) else (bif Nat.beq x 57 then some (.goto 4, 3) else none)))) else (bif Nat.blt x 65 then (bif Nat.blt x 61 then (bif Nat.beq x 60 then some (.iload_n 1, 1) else none) else (bif Nat.blt x 62 then (bif Nat.beq x 61 then some (.istore_n 1, 1) else none) else (bif Nat.beq x 62 then some (.iinc 2 1, 3) else none))) else (bif Nat.blt x 68 then (bif Nat.beq x 65 then some (.goto (-45), 3) else none) else (bif Nat.blt x 69 then (bif Nat.beq x 68 then some (.iload_n 1, 1) else none) else (bif Nat.beq x 69 then some (.ireturn, 1) else none))))))
def q_t79 (x : Nat) : Option (Instr × Nat) := bif Nat.blt x 59 then (bif Nat.blt x 29 then (bif Nat.blt x 13 then (bif Nat.blt x 5 then (bif Nat.blt x 1 then (bif Nat.beq x 0 then some (.aload_n 0, 1) else none) else (bif Nat.blt x 2 then (bif Nat.beq x 1 then some (.aload_n 0, 1) else none) else (bif Nat.beq x 2 then some (.getfield 122, 3) else none))) else (bif Nat.blt x 9 then (bif Nat.blt x 8 then (bif Nat.beq x 5 then some (.ifCond .eq 15, 3) else none) else (bif Nat.beq x 8 then some (.iload_n 1, 1) else none)) else (bif Nat.blt x 12 then (bif Nat.beq x 9 then some (.ifCond .lt 11, 3) else none) else (bif Nat.beq x 12 then some (.iload_n 1, 1) else none)))) else (bif Nat.blt x 21 then (bif Nat.blt x 17 then (bif Nat.blt x 14 then (bif Nat.beq x 13 then some (.aload_n 0, 1) else none) else (bif Nat.beq x 14 then some (.getfield 227, 3) else none)) else (bif Nat.blt x 20 then (bif Nat.beq x 17 then some (.if_icmp .lt 7, 3) else none) else (bif Nat.beq x 20 then some (.iconst 1, 1) else none))) else (bif Nat.blt x 25 then (bif Nat.blt x 24 then (bif Nat.beq x 21 then some (.goto 17, 3) else none) else (bif Nat.beq x 24 then some (.iload_n 2, 1) else none)) else (bif Nat.blt x 28 then (bif Nat.beq x 25 then some (.ifCond .lt 8, 3) else none) else (bif Nat.beq x 28 then some (.iload_n 2, 1) else none))))) else (bif Nat.blt x 45 then (bif Nat.blt x 37 then (bif Nat.blt x 33 then (bif Nat.blt x 30 then (bif Nat.beq x 29 then some (.iconst 4, 1) else none) else (bif Nat.beq x 30 then some (.if_icmp .le 7, 3) else none)) else (bif Nat.blt x 34 then (bif Nat.beq x 33 then some (.iconst 2, 1) else none) else (bif Nat.beq x 34 then some (.goto 4, 3) else none))) else (bif Nat.blt x 41 then (bif Nat.blt x 38 then (bif Nat.beq x 37 then some (.iconst 0, 1) else none) else (bif Nat.beq x 38 then some (.putfield 90, 3) else none)) else (bif Nat.blt x 42 then (bif Nat.beq x 41 then some (.aload_n 0, 1) else none) else (bif Nat.beq x 42 then some (.getfield 90, 3) else none)))) else (bif Nat.blt x 51 then (bif Nat.blt x 49 then (bif Nat.blt x 48 then (bif Nat.beq x 45 then some (.ifCond .eq 5, 3) else none) else (bif Nat.beq x 48 then some (.iconst 0, 1) else none)) else (bif Nat.blt x 50 then (bif Nat.beq x 49 then some (.ireturn, 1) else none) else (bif Nat.beq x 50 then some (.iload_n 2, 1) else none))) else (bif Nat.blt x 55 then (bif Nat.blt x 54 then (bif Nat.beq x 51 then some (.ifCond .ne 12, 3) else none) else (bif Nat.beq x 54 then some (.aload_n 0, 1) else none)) else (bif Nat.blt x 58 then (bif Nat.beq x 55 then some (.getfield 72, 3) else none) else (bif Nat.beq x 58 then some (.iload_n 1, 1) else none)))))) else (bif Nat.blt x 86 then (bif Nat.blt x 72 then (bif Nat.blt x 64 then (bif Nat.blt x 60 then (bif Nat.beq x 59 then some (.iaload, 1) else none) else (bif Nat.blt x 63 then (bif Nat.beq x 60 then some (.goto 51, 3) else none) else (bif Nat.beq x 63 then some (.iload_n 2, 1) else none))) else (bif Nat.blt x 68 then (bif Nat.blt x 65 then (bif Nat.beq x 64 then some (.iconst 1, 1) else none) else (bif Nat.beq x 65 then some (.if_icmp .ne 12, 3) else none)) else (bif Nat.blt x 69 then (bif Nat.beq x 68 then some (.aload_n 0, 1) else none) else (bif Nat.beq x 69 then some (.getfield 75, 3) else none)))) else (bif Nat.blt x 78 then (bif Nat.blt x 74 then (bif Nat.blt x 73 then (bif Nat.beq x 72 then some (.iload_n 1, 1) else none) else (bif Nat.beq x 73 then some (.iaload, 1) else none)) else (bif Nat.blt x 77 then (bif Nat.beq x 74 then some (.goto 37, 3) else none) else (bif Nat.beq x 77 then some (.iload_n 2, 1) else none))) else (bif Nat.blt x 82 then (bif Nat.blt x 79 then (bif Nat.beq x 78 then some (.iconst 2, 1) else none) else (bif Nat.beq x 79 then some (.if_icmp .ne 12, 3) else none)) else (bif Nat.blt x 83 then (bif Nat.beq x 82 then some (.aload_n 0, 1) else none) else (bif Nat.beq x 83 then some (.getfield 78, 3) else none))))) else (bif Nat.blt x 100 then (bif Nat.blt x 92 then (bif Nat.blt x 88 then (bif Nat.blt x 87 then (bif Nat.beq x 86 then some (.iload_n 1, 1) else none) else (bif Nat.beq x 87 then some (.iaload, 1) else none)) else (bif Nat.blt x 91 then (bif Nat.beq x 88 then some (.goto 23, 3) else none) else (bif Nat.beq x 91 then some (.iload_n 2, 1) else none))) else (bif Nat.blt x 96 then (bif Nat.blt x 93 then (bif Nat.beq x 92 then some (.iconst 3, 1) else none) else (bif Nat.beq x 93 then some (.if_icmp .ne 12, 3) else none)) else (bif Nat.blt x 97 then (bif Nat.beq x 96 then some (.aload_n 0, 1) else none) else (bif Nat.beq x 97 then some (.getfield 81, 3) else none)))) else (bif Nat.blt x 106 then (bif Nat.blt x 102 then (bif Nat.blt x 101 then (bif Nat.beq x 100 then some (.iload_n 1, 1) else none) else (bif Nat.beq x 101 then some (.iaload, 1) else none)) else (bif Nat.blt x 105 then (bif Nat.beq x 102 then some (.goto 9, 3) else none) else (bif Nat.beq x 105 then some (.aload_n 0, 1) else none))) else (bif Nat.blt x 110 then (bif Nat.blt x 109 then (bif Nat.beq x 106 then some (.getfield 84, 3) else none) else (bif Nat.beq x 109 then some (.iload_n 1, 1) else none)) else (bif Nat.blt x 111 then (bif Nat.beq x 110 then some (.iaload, 1) else none) else (bif Nat.beq x 111 then some (.ireturn, 1) else none))))))
def q_t80 (x : Nat) : Option (Instr × Nat) := bif Nat.blt x 34 then (bif Nat.blt x 17 then (bif Nat.blt x 8 then (bif Nat.blt x 2 then (bif Nat.blt x 1 then (bif Nat.beq x 0 then some (.aload_n 0, 1) else none) else (bif Nat.beq x 1 then some (.aload_n 0, 1) else none)) else (bif Nat.blt x 5 then (bif Nat.beq x 2 then some (.getfield 122, 3) else none) else (bif Nat.beq x 5 then some (.ifCond .eq 29, 3) else none))) else (bif Nat.blt x 12 then (bif Nat.blt x 9 then (bif Nat.beq x 8 then some (.iload_n 1, 1) else none) else (bif Nat.beq x 9 then some (.ifCond .lt 25, 3) else none)) else (bif Nat.blt x 13 then (bif Nat.beq x 12 then some (.iload_n 1, 1) else none) else (bif Nat.blt x 14 then (bif Nat.beq x 13 then some (.aload_n 0, 1) else none) else (bif Nat.beq x 14 then some (.getfield 227, 3) else none))))) else (bif Nat.blt x 25 then (bif Nat.blt x 21 then (bif Nat.blt x 20 then (bif Nat.beq x 17 then some (.if_icmp .ge 17, 3) else none) else (bif Nat.beq x 20 then some (.iload_n 2, 1) else none)) else (bif Nat.blt x 24 then (bif Nat.beq x 21 then some (.ifCond .lt 13, 3) else none) else (bif Nat.beq x 24 then some (.iload_n 2, 1) else none))) else (bif Nat.blt x 29 then (bif Nat.blt x 26 then (bif Nat.beq x 25 then some (.aload_n 0, 1) else none) else (bif Nat.beq x 26 then some (.getfield 78, 3) else none)) else (bif Nat.blt x 30 then (bif Nat.beq x 29 then some (.iload_n 1, 1) else none) else (bif Nat.blt x 31 then (bif Nat.beq x 30 then some (.iaload, 1) else none) else (bif Nat.beq x 31 then some (.if_icmp .lt 7, 3) else none)))))) else (bif Nat.blt x 53 then (bif Nat.blt x 42 then (bif Nat.blt x 38 then (bif Nat.blt x 35 then (bif Nat.beq x 34 then some (.iconst 1, 1) else none) else (bif Nat.beq x 35 then some (.goto 4, 3) else none)) else (bif Nat.blt x 39 then (bif Nat.beq x 38 then some (.iconst 0, 1) else none) else (bif Nat.beq x 39 then some (.putfield 90, 3) else none))) else (bif Nat.blt x 46 then (bif Nat.blt x 43 then (bif Nat.beq x 42 then some (.aload_n 0, 1) else none) else (bif Nat.beq x 43 then some (.getfield 90, 3) else none)) else (bif Nat.blt x 49 then (bif Nat.beq x 46 then some (.ifCond .eq 7, 3) else none) else (bif Nat.blt x 50 then (bif Nat.beq x 49 then some (.iconst 0, 1) else none) else (bif Nat.beq x 50 then some (.goto 13, 3) else none))))) else (bif Nat.blt x 59 then (bif Nat.blt x 57 then (bif Nat.blt x 54 then (bif Nat.beq x 53 then some (.aload_n 0, 1) else none) else (bif Nat.beq x 54 then some (.getfield 87, 3) else none)) else (bif Nat.blt x 58 then (bif Nat.beq x 57 then some (.iconst 4, 1) else none) else (bif Nat.beq x 58 then some (.iload_n 1, 1) else none))) else (bif Nat.blt x 61 then (bif Nat.blt x 60 then (bif Nat.beq x 59 then some (.imul, 1) else none) else (bif Nat.beq x 60 then some (.iload_n 2, 1) else none)) else (bif Nat.blt x 62 then (bif Nat.beq x 61 then some (.iadd, 1) else none) else (bif Nat.blt x 63 then (bif Nat.beq x 62 then some (.iaload, 1) else none) else (bif Nat.beq x 63 then some (.ireturn, 1) else none))))))
def q_t81 (x : Nat) : Option (Instr × Nat) := bif Nat.blt x 52 then (bif Nat.blt x 25 then (bif Nat.blt x 11 then (bif Nat.blt x 5 then (bif Nat.blt x 1 then (bif Nat.beq x 0 then some (.aload_n 0, 1) else none) else (bif Nat.blt x 4 then (bif Nat.beq x 1 then some (.getfield 9, 3) else none) else (bif Nat.beq x 4 then some (.iconst 0, 1) else none))) else (bif Nat.blt x 9 then (bif Nat.blt x 8 then (bif Nat.beq x 5 then some (.invokestatic 31, 3) else none) else (bif Nat.beq x 8 then some (.aload_n 0, 1) else none)) else (bif Nat.blt x 10 then (bif Nat.beq x 9 then some (.lconst 1, 1) else none) else (bif Nat.beq x 10 then some (.aload_n 0, 1) else none)))) else (bif Nat.blt x 19 then (bif Nat.blt x 17 then (bif Nat.blt x 14 then (bif Nat.beq x 11 then some (.getfield 27, 3) else none) else (bif Nat.beq x 14 then some (.getfield 37, 3) else none)) else (bif Nat.blt x 18 then (bif Nat.beq x 17 then some (.lshl, 1) else none) else (bif Nat.beq x 18 then some (.lconst 1, 1) else none))) else (bif Nat.blt x 23 then (bif Nat.blt x 20 then (bif Nat.beq x 19 then some (.lsub, 1) else none) else (bif Nat.beq x 20 then some (.putfield 15, 3) else none)) else (bif Nat.blt x 24 then (bif Nat.beq x 23 then some (.aload_n 0, 1) else none) else (bif Nat.beq x 24 then some (.iconst 0, 1) else none))))) else (bif Nat.blt x 39 then (bif Nat.blt x 33 then (bif Nat.blt x 27 then (bif Nat.blt x 26 then (bif Nat.beq x 25 then some (.iconst 0, 1) else none) else (bif Nat.beq x 26 then some (.iconst 0, 1) else none)) else (bif Nat.blt x 30 then (bif Nat.beq x 27 then some (.sipush 256, 3) else none) else (bif Nat.beq x 30 then some (.invokevirtual 43, 3) else none))) else (bif Nat.blt x 35 then (bif Nat.blt x 34 then (bif Nat.beq x 33 then some (.iconst 0, 1) else none) else (bif Nat.beq x 34 then some (.istore_n 1, 1) else none)) else (bif Nat.blt x 36 then (bif Nat.beq x 35 then some (.aload_n 0, 1) else none) else (bif Nat.beq x 36 then some (.getfield 15, 3) else none)))) else (bif Nat.blt x 45 then (bif Nat.blt x 41 then (bif Nat.blt x 40 then (bif Nat.beq x 39 then some (.lconst 0, 1) else none) else (bif Nat.beq x 40 then some (.lcmp, 1) else none)) else (bif Nat.blt x 44 then (bif Nat.beq x 41 then some (.ifCond .eq 68, 3) else none) else (bif Nat.beq x 44 then some (.iload_n 1, 1) else none))) else (bif Nat.blt x 50 then (bif Nat.blt x 47 then (bif Nat.beq x 45 then some (.ldc 47, 2) else none) else (bif Nat.beq x 47 then some (.if_icmp .ge 62, 3) else none)) else (bif Nat.blt x 51 then (bif Nat.beq x 50 then some (.iconst 0, 1) else none) else (bif Nat.beq x 51 then some (.istore_n 2, 1) else none)))))) else (bif Nat.blt x 78 then (bif Nat.blt x 68 then (bif Nat.blt x 60 then (bif Nat.blt x 54 then (bif Nat.blt x 53 then (bif Nat.beq x 52 then some (.iload_n 2, 1) else none) else (bif Nat.beq x 53 then some (.aload_n 0, 1) else none)) else (bif Nat.blt x 57 then (bif Nat.beq x 54 then some (.getfield 27, 3) else none) else (bif Nat.beq x 57 then some (.getfield 37, 3) else none))) else (bif Nat.blt x 64 then (bif Nat.blt x 63 then (bif Nat.beq x 60 then some (.if_icmp .ge 43, 3) else none) else (bif Nat.beq x 63 then some (.aload_n 0, 1) else none)) else (bif Nat.blt x 67 then (bif Nat.beq x 64 then some (.getfield 15, 3) else none) else (bif Nat.beq x 67 then some (.iload_n 2, 1) else none)))) else (bif Nat.blt x 72 then (bif Nat.blt x 70 then (bif Nat.blt x 69 then (bif Nat.beq x 68 then some (.lshr, 1) else none) else (bif Nat.beq x 69 then some (.lconst 1, 1) else none)) else (bif Nat.blt x 71 then (bif Nat.beq x 70 then some (.land, 1) else none) else (bif Nat.beq x 71 then some (.lconst 0, 1) else none))) else (bif Nat.blt x 76 then (bif Nat.blt x 73 then (bif Nat.beq x 72 then some (.lcmp, 1) else none) else (bif Nat.beq x 73 then some (.ifCond .eq 24, 3) else none)) else (bif Nat.blt x 77 then (bif Nat.beq x 76 then some (.aload_n 0, 1) else none) else (bif Nat.beq x 77 then some (.dup, 1) else none))))) else (bif Nat.blt x 92 then (bif Nat.blt x 84 then (bif Nat.blt x 82 then (bif Nat.blt x 81 then (bif Nat.beq x 78 then some (.getfield 15, 3) else none) else (bif Nat.beq x 81 then some (.lconst 1, 1) else none)) else (bif Nat.blt x 83 then (bif Nat.beq x 82 then some (.iload_n 2, 1) else none) else (bif Nat.beq x 83 then some (.lshl, 1) else none))) else (bif Nat.blt x 88 then (bif Nat.blt x 87 then (bif Nat.beq x 84 then some (.ldc2_w 48, 3) else none) else (bif Nat.beq x 87 then some (.lxor, 1) else none)) else (bif Nat.blt x 89 then (bif Nat.beq x 88 then some (.land, 1) else none) else (bif Nat.beq x 89 then some (.putfield 15, 3) else none)))) else (bif Nat.blt x 100 then (bif Nat.blt x 94 then (bif Nat.blt x 93 then (bif Nat.beq x 92 then some (.aload_n 0, 1) else none) else (bif Nat.beq x 93 then some (.iload_n 2, 1) else none)) else (bif Nat.blt x 97 then (bif Nat.beq x 94 then some (.invokevirtual 50, 3) else none) else (bif Nat.beq x 97 then some (.iinc 2 1, 3) else none))) else (bif Nat.blt x 106 then (bif Nat.blt x 103 then (bif Nat.beq x 100 then some (.goto (-48), 3) else none) else (bif Nat.beq x 103 then some (.iinc 1 1, 3) else none)) else (bif Nat.blt x 109 then (bif Nat.beq x 106 then some (.goto (-71), 3) else none) else (bif Nat.beq x 109 then some (.return_, 1) else none))))))
def q_t82 (x : Nat) : Option (Instr × Nat) := bif Nat.blt x 9 then (bif Nat.blt x 5 then (bif Nat.blt x 1 then (bif Nat.beq x 0 then some (.aload_n 0, 1) else none) else (bif Nat.blt x 4 then (bif Nat.beq x 1 then some (.getfield 9, 3) else none) else (bif Nat.beq x 4 then some (.iload_n 1, 1) else none))) else (bif Nat.blt x 7 then (bif Nat.beq x 5 then some (.bipush 80, 2) else none) else (bif Nat.blt x 8 then (bif Nat.beq x 7 then some (.imul, 1) else none) else (bif Nat.beq x 8 then some (.iload_n 2, 1) else none)))) else (bif Nat.blt x 12 then (bif Nat.blt x 10 then (bif Nat.beq x 9 then some (.iconst 5, 1) else none) else (bif Nat.blt x 11 then (bif Nat.beq x 10 then some (.imul, 1) else none) else (bif Nat.beq x 11 then some (.iadd, 1) else none))) else (bif Nat.blt x 14 then (bif Nat.blt x 13 then (bif Nat.beq x 12 then some (.iload_n 3, 1) else none) else (bif Nat.beq x 13 then some (.iadd, 1) else none)) else (bif Nat.blt x 15 then (bif Nat.beq x 14 then some (.iaload, 1) else none) else (bif Nat.beq x 15 then some (.ireturn, 1) else none))))
def q_t83 (x : Nat) : Option (Instr × Nat) := bif Nat.blt x 28 then (bif Nat.blt x 14 then (bif Nat.blt x 4 then (bif Nat.blt x 2 then (bif Nat.blt x 1 then (bif Nat.beq x 0 then some (.iconst 0, 1) else none) else (bif Nat.beq x 1 then some (.istore_n 2, 1) else none)) else (bif Nat.blt x 3 then (bif Nat.beq x 2 then some (.iload_n 2, 1) else none) else (bif Nat.beq x 3 then some (.aload_n 0, 1) else none))) else (bif Nat.blt x 10 then (bif Nat.blt x 7 then (bif Nat.beq x 4 then some (.getfield 19, 3) else none) else (bif Nat.beq x 7 then some (.getfield 54, 3) else none)) else (bif Nat.blt x 13 then (bif Nat.beq x 10 then some (.if_icmp .gt 50, 3) else none) else (bif Nat.beq x 13 then some (.iconst 0, 1) else none)))) else (bif Nat.blt x 20 then (bif Nat.blt x 16 then (bif Nat.blt x 15 then (bif Nat.beq x 14 then some (.istore_n 3, 1) else none) else (bif Nat.beq x 15 then some (.iload_n 3, 1) else none)) else (bif Nat.blt x 17 then (bif Nat.beq x 16 then some (.aload_n 0, 1) else none) else (bif Nat.beq x 17 then some (.getfield 19, 3) else none))) else (bif Nat.blt x 24 then (bif Nat.blt x 23 then (bif Nat.beq x 20 then some (.getfield 59, 3) else none) else (bif Nat.beq x 23 then some (.iload_n 2, 1) else none)) else (bif Nat.blt x 25 then (bif Nat.beq x 24 then some (.iaload, 1) else none) else (bif Nat.beq x 25 then some (.if_icmp .ge 29, 3) else none))))) else (bif Nat.blt x 42 then (bif Nat.blt x 34 then (bif Nat.blt x 32 then (bif Nat.blt x 29 then (bif Nat.beq x 28 then some (.aload_n 0, 1) else none) else (bif Nat.beq x 29 then some (.getfield 27, 3) else none)) else (bif Nat.blt x 33 then (bif Nat.beq x 32 then some (.iload_n 1, 1) else none) else (bif Nat.beq x 33 then some (.iload_n 2, 1) else none))) else (bif Nat.blt x 38 then (bif Nat.blt x 35 then (bif Nat.beq x 34 then some (.iload_n 3, 1) else none) else (bif Nat.beq x 35 then some (.invokevirtual 62, 3) else none)) else (bif Nat.blt x 41 then (bif Nat.beq x 38 then some (.ifCond .eq 10, 3) else none) else (bif Nat.beq x 41 then some (.aload_n 0, 1) else none)))) else (bif Nat.blt x 48 then (bif Nat.blt x 44 then (bif Nat.blt x 43 then (bif Nat.beq x 42 then some (.iload_n 1, 1) else none) else (bif Nat.beq x 43 then some (.iload_n 2, 1) else none)) else (bif Nat.blt x 45 then (bif Nat.beq x 44 then some (.iload_n 3, 1) else none) else (bif Nat.beq x 45 then some (.invokevirtual 66, 3) else none))) else (bif Nat.blt x 54 then (bif Nat.blt x 51 then (bif Nat.beq x 48 then some (.iinc 3 1, 3) else none) else (bif Nat.beq x 51 then some (.goto (-36), 3) else none)) else (bif Nat.blt x 57 then (bif Nat.beq x 54 then some (.iinc 2 1, 3) else none) else (bif Nat.blt x 60 then (bif Nat.beq x 57 then some (.goto (-55), 3) else none) else (bif Nat.beq x 60 then some (.return_, 1) else none))))))
def q_t84 (x : Nat) : Option (Instr × Nat) := bif Nat.blt x 54 then (bif Nat.blt x 25 then (bif Nat.blt x 10 then (bif Nat.blt x 3 then (bif Nat.blt x 1 then (bif Nat.beq x 0 then some (.aload_n 0, 1) else none) else (bif Nat.blt x 2 then (bif Nat.beq x 1 then some (.iload_n 1, 1) else none) else (bif Nat.beq x 2 then some (.iload_n 2, 1) else none))) else (bif Nat.blt x 7 then (bif Nat.blt x 4 then (bif Nat.beq x 3 then some (.iload_n 3, 1) else none) else (bif Nat.beq x 4 then some (.invokevirtual 70, 3) else none)) else (bif Nat.blt x 9 then (bif Nat.beq x 7 then some (.istore 4, 2) else none) else (bif Nat.beq x 9 then some (.aload_n 0, 1) else none)))) else (bif Nat.blt x 18 then (bif Nat.blt x 14 then (bif Nat.blt x 13 then (bif Nat.beq x 10 then some (.getfield 19, 3) else none) else (bif Nat.beq x 13 then some (.iload_n 2, 1) else none)) else (bif Nat.blt x 15 then (bif Nat.beq x 14 then some (.iload_n 3, 1) else none) else (bif Nat.beq x 15 then some (.invokevirtual 74, 3) else none))) else (bif Nat.blt x 21 then (bif Nat.blt x 20 then (bif Nat.beq x 18 then some (.istore 5, 2) else none) else (bif Nat.beq x 20 then some (.aload_n 0, 1) else none)) else (bif Nat.blt x 24 then (bif Nat.beq x 21 then some (.getfield 27, 3) else none) else (bif Nat.beq x 24 then some (.iload_n 1, 1) else none))))) else (bif Nat.blt x 41 then (bif Nat.blt x 34 then (bif Nat.blt x 30 then (bif Nat.blt x 27 then (bif Nat.beq x 25 then some (.iload 5, 2) else none) else (bif Nat.beq x 27 then some (.invokevirtual 78, 3) else none)) else (bif Nat.blt x 32 then (bif Nat.beq x 30 then some (.istore 6, 2) else none) else (bif Nat.beq x 32 then some (.iload 6, 2) else none))) else (bif Nat.blt x 38 then (bif Nat.blt x 35 then (bif Nat.beq x 34 then some (.iconst (-1), 1) else none) else (bif Nat.beq x 35 then some (.if_icmp .eq 15, 3) else none)) else (bif Nat.blt x 39 then (bif Nat.beq x 38 then some (.aload_n 0, 1) else none) else (bif Nat.beq x 39 then some (.iload 6, 2) else none)))) else (bif Nat.blt x 45 then (bif Nat.blt x 43 then (bif Nat.blt x 42 then (bif Nat.beq x 41 then some (.iload_n 2, 1) else none) else (bif Nat.beq x 42 then some (.iload_n 3, 1) else none)) else (bif Nat.blt x 44 then (bif Nat.beq x 43 then some (.iconst 1, 1) else none) else (bif Nat.beq x 44 then some (.iadd, 1) else none))) else (bif Nat.blt x 50 then (bif Nat.blt x 47 then (bif Nat.beq x 45 then some (.iload 4, 2) else none) else (bif Nat.beq x 47 then some (.invokevirtual 43, 3) else none)) else (bif Nat.blt x 52 then (bif Nat.beq x 50 then some (.iload 5, 2) else none) else (bif Nat.beq x 52 then some (.bipush 8, 2) else none)))))) else (bif Nat.blt x 84 then (bif Nat.blt x 67 then (bif Nat.blt x 62 then (bif Nat.blt x 58 then (bif Nat.blt x 57 then (bif Nat.beq x 54 then some (.if_icmp .ge 61, 3) else none) else (bif Nat.beq x 57 then some (.aload_n 0, 1) else none)) else (bif Nat.blt x 61 then (bif Nat.beq x 58 then some (.getfield 23, 3) else none) else (bif Nat.beq x 61 then some (.iload_n 2, 1) else none))) else (bif Nat.blt x 64 then (bif Nat.blt x 63 then (bif Nat.beq x 62 then some (.iload_n 3, 1) else none) else (bif Nat.beq x 63 then some (.iconst 1, 1) else none)) else (bif Nat.blt x 65 then (bif Nat.beq x 64 then some (.iadd, 1) else none) else (bif Nat.beq x 65 then some (.iload 4, 2) else none)))) else (bif Nat.blt x 76 then (bif Nat.blt x 72 then (bif Nat.blt x 70 then (bif Nat.beq x 67 then some (.invokevirtual 81, 3) else none) else (bif Nat.beq x 70 then some (.istore 7, 2) else none)) else (bif Nat.blt x 73 then (bif Nat.beq x 72 then some (.aload_n 0, 1) else none) else (bif Nat.beq x 73 then some (.getfield 19, 3) else none))) else (bif Nat.blt x 81 then (bif Nat.blt x 79 then (bif Nat.beq x 76 then some (.getfield 86, 3) else none) else (bif Nat.beq x 79 then some (.iload 5, 2) else none)) else (bif Nat.blt x 82 then (bif Nat.beq x 81 then some (.iaload, 1) else none) else (bif Nat.beq x 82 then some (.istore 8, 2) else none))))) else (bif Nat.blt x 100 then (bif Nat.blt x 93 then (bif Nat.blt x 87 then (bif Nat.blt x 86 then (bif Nat.beq x 84 then some (.iload 8, 2) else none) else (bif Nat.beq x 86 then some (.aload_n 0, 1) else none)) else (bif Nat.blt x 90 then (bif Nat.beq x 87 then some (.getfield 19, 3) else none) else (bif Nat.beq x 90 then some (.getfield 89, 3) else none))) else (bif Nat.blt x 96 then (bif Nat.blt x 95 then (bif Nat.beq x 93 then some (.iload 5, 2) else none) else (bif Nat.beq x 95 then some (.iaload, 1) else none)) else (bif Nat.blt x 99 then (bif Nat.beq x 96 then some (.if_icmp .gt 19, 3) else none) else (bif Nat.beq x 99 then some (.aload_n 0, 1) else none)))) else (bif Nat.blt x 106 then (bif Nat.blt x 103 then (bif Nat.blt x 101 then (bif Nat.beq x 100 then some (.iload_n 1, 1) else none) else (bif Nat.beq x 101 then some (.iload 8, 2) else none)) else (bif Nat.blt x 104 then (bif Nat.beq x 103 then some (.iconst 0, 1) else none) else (bif Nat.beq x 104 then some (.iload 7, 2) else none))) else (bif Nat.blt x 112 then (bif Nat.blt x 109 then (bif Nat.beq x 106 then some (.invokevirtual 43, 3) else none) else (bif Nat.beq x 109 then some (.iinc 8 1, 3) else none)) else (bif Nat.blt x 115 then (bif Nat.beq x 112 then some (.goto (-28), 3) else none) else (bif Nat.beq x 115 then some (.return_, 1) else none))))))
def q_t85 (x : Nat) : Option (Instr × Nat) := bif Nat.blt x 24 then (bif Nat.blt x 10 then (bif Nat.blt x 5 then (bif Nat.blt x 3 then (bif Nat.blt x 1 then (bif Nat.beq x 0 then some (.iload_n 1, 1) else none) else (bif Nat.beq x 1 then some (.bipush 80, 2) else none)) else (bif Nat.blt x 4 then (bif Nat.beq x 3 then some (.imul, 1) else none) else (bif Nat.beq x 4 then some (.iload_n 2, 1) else none))) else (bif Nat.blt x 7 then (bif Nat.blt x 6 then (bif Nat.beq x 5 then some (.iconst 5, 1) else none) else (bif Nat.beq x 6 then some (.imul, 1) else none)) else (bif Nat.blt x 8 then (bif Nat.beq x 7 then some (.iadd, 1) else none) else (bif Nat.blt x 9 then (bif Nat.beq x 8 then some (.iload_n 3, 1) else none) else (bif Nat.beq x 9 then some (.iadd, 1) else none))))) else (bif Nat.blt x 18 then (bif Nat.blt x 14 then (bif Nat.blt x 12 then (bif Nat.beq x 10 then some (.istore 5, 2) else none) else (bif Nat.beq x 12 then some (.iload 4, 2) else none)) else (bif Nat.blt x 15 then (bif Nat.beq x 14 then some (.aload_n 0, 1) else none) else (bif Nat.beq x 15 then some (.getfield 9, 3) else none))) else (bif Nat.blt x 21 then (bif Nat.blt x 20 then (bif Nat.beq x 18 then some (.iload 5, 2) else none) else (bif Nat.beq x 20 then some (.iaload, 1) else none)) else (bif Nat.blt x 22 then (bif Nat.beq x 21 then some (.iconst (-1), 1) else none) else (bif Nat.blt x 23 then (bif Nat.beq x 22 then some (.ixor, 1) else none) else (bif Nat.beq x 23 then some (.iand, 1) else none)))))) else (bif Nat.blt x 39 then (bif Nat.blt x 33 then (bif Nat.blt x 28 then (bif Nat.blt x 27 then (bif Nat.beq x 24 then some (.ifCond .eq 27, 3) else none) else (bif Nat.beq x 27 then some (.aload_n 0, 1) else none)) else (bif Nat.blt x 31 then (bif Nat.beq x 28 then some (.getfield 9, 3) else none) else (bif Nat.beq x 31 then some (.iload 5, 2) else none))) else (bif Nat.blt x 35 then (bif Nat.blt x 34 then (bif Nat.beq x 33 then some (.dup2, 1) else none) else (bif Nat.beq x 34 then some (.iaload, 1) else none)) else (bif Nat.blt x 37 then (bif Nat.beq x 35 then some (.iload 4, 2) else none) else (bif Nat.blt x 38 then (bif Nat.beq x 37 then some (.ior, 1) else none) else (bif Nat.beq x 38 then some (.iastore, 1) else none))))) else (bif Nat.blt x 45 then (bif Nat.blt x 41 then (bif Nat.blt x 40 then (bif Nat.beq x 39 then some (.aload_n 0, 1) else none) else (bif Nat.beq x 40 then some (.dup, 1) else none)) else (bif Nat.blt x 44 then (bif Nat.beq x 41 then some (.getfield 15, 3) else none) else (bif Nat.beq x 44 then some (.lconst 1, 1) else none))) else (bif Nat.blt x 47 then (bif Nat.blt x 46 then (bif Nat.beq x 45 then some (.iload_n 1, 1) else none) else (bif Nat.beq x 46 then some (.lshl, 1) else none)) else (bif Nat.blt x 48 then (bif Nat.beq x 47 then some (.lor, 1) else none) else (bif Nat.blt x 51 then (bif Nat.beq x 48 then some (.putfield 15, 3) else none) else (bif Nat.beq x 51 then some (.return_, 1) else none))))))
def q_t86 (x : Nat) : Option (Instr × Nat) := bif Nat.blt x 10 then (bif Nat.blt x 5 then (bif Nat.blt x 1 then (bif Nat.beq x 0 then some (.aload_n 0, 1) else none) else (bif Nat.blt x 4 then (bif Nat.beq x 1 then some (.getfield 9, 3) else none) else (bif Nat.beq x 4 then some (.iload_n 1, 1) else none))) else (bif Nat.blt x 6 then (bif Nat.beq x 5 then some (.iaload, 1) else none) else (bif Nat.blt x 9 then (bif Nat.beq x 6 then some (.ifCond .le 15, 3) else none) else (bif Nat.beq x 9 then some (.aload_n 0, 1) else none)))) else (bif Nat.blt x 17 then (bif Nat.blt x 11 then (bif Nat.beq x 10 then some (.iload_n 2, 1) else none) else (bif Nat.blt x 14 then (bif Nat.beq x 11 then some (.invokevirtual 22, 3) else none) else (bif Nat.beq x 14 then some (.ifCond .le 7, 3) else none))) else (bif Nat.blt x 21 then (bif Nat.blt x 18 then (bif Nat.beq x 17 then some (.iconst 1, 1) else none) else (bif Nat.beq x 18 then some (.goto 4, 3) else none)) else (bif Nat.blt x 22 then (bif Nat.beq x 21 then some (.iconst 0, 1) else none) else (bif Nat.beq x 22 then some (.ireturn, 1) else none))))
def q_t87 (x : Nat) : Option (Instr × Nat) := bif Nat.blt x 25 then (bif Nat.blt x 9 then (bif Nat.blt x 5 then (bif Nat.blt x 1 then (bif Nat.beq x 0 then some (.aload_n 0, 1) else none) else (bif Nat.blt x 2 then (bif Nat.beq x 1 then some (.iload_n 2, 1) else none) else (bif Nat.beq x 2 then some (.invokevirtual 22, 3) else none))) else (bif Nat.blt x 7 then (bif Nat.blt x 6 then (bif Nat.beq x 5 then some (.istore_n 3, 1) else none) else (bif Nat.beq x 6 then some (.aload_n 0, 1) else none)) else (bif Nat.blt x 8 then (bif Nat.beq x 7 then some (.iload_n 1, 1) else none) else (bif Nat.beq x 8 then some (.iload_n 2, 1) else none)))) else (bif Nat.blt x 17 then (bif Nat.blt x 15 then (bif Nat.blt x 12 then (bif Nat.beq x 9 then some (.invokevirtual 26, 3) else none) else (bif Nat.beq x 12 then some (.ifCond .eq 13, 3) else none)) else (bif Nat.blt x 16 then (bif Nat.beq x 15 then some (.iload_n 3, 1) else none) else (bif Nat.beq x 16 then some (.aload_n 0, 1) else none))) else (bif Nat.blt x 21 then (bif Nat.blt x 20 then (bif Nat.beq x 17 then some (.getfield 9, 3) else none) else (bif Nat.beq x 20 then some (.iload_n 1, 1) else none)) else (bif Nat.blt x 22 then (bif Nat.beq x 21 then some (.iaload, 1) else none) else (bif Nat.beq x 22 then some (.if_icmp .ge 5, 3) else none))))) else (bif Nat.blt x 34 then (bif Nat.blt x 28 then (bif Nat.blt x 26 then (bif Nat.beq x 25 then some (.iconst 1, 1) else none) else (bif Nat.blt x 27 then (bif Nat.beq x 26 then some (.ireturn, 1) else none) else (bif Nat.beq x 27 then some (.iload_n 3, 1) else none))) else (bif Nat.blt x 32 then (bif Nat.blt x 29 then (bif Nat.beq x 28 then some (.aload_n 0, 1) else none) else (bif Nat.beq x 29 then some (.getfield 9, 3) else none)) else (bif Nat.blt x 33 then (bif Nat.beq x 32 then some (.iload_n 1, 1) else none) else (bif Nat.beq x 33 then some (.iaload, 1) else none)))) else (bif Nat.blt x 42 then (bif Nat.blt x 38 then (bif Nat.blt x 37 then (bif Nat.beq x 34 then some (.if_icmp .le 7, 3) else none) else (bif Nat.beq x 37 then some (.iconst 0, 1) else none)) else (bif Nat.blt x 41 then (bif Nat.beq x 38 then some (.goto 9, 3) else none) else (bif Nat.beq x 41 then some (.aload_n 0, 1) else none))) else (bif Nat.blt x 46 then (bif Nat.blt x 45 then (bif Nat.beq x 42 then some (.getfield 15, 3) else none) else (bif Nat.beq x 45 then some (.iload_n 1, 1) else none)) else (bif Nat.blt x 47 then (bif Nat.beq x 46 then some (.iaload, 1) else none) else (bif Nat.beq x 47 then some (.ireturn, 1) else none)))))
def q_t88 (x : Nat) : Option (Instr × Nat) := bif Nat.blt x 25 then (bif Nat.blt x 11 then (bif Nat.blt x 7 then (bif Nat.blt x 1 then (bif Nat.beq x 0 then some (.aload_n 0, 1) else none) else (bif Nat.blt x 4 then (bif Nat.beq x 1 then some (.getfield 18, 3) else none) else (bif Nat.beq x 4 then some (.getfield 30, 3) else none))) else (bif Nat.blt x 9 then (bif Nat.blt x 8 then (bif Nat.beq x 7 then some (.iload_n 1, 1) else none) else (bif Nat.beq x 8 then some (.iaload, 1) else none)) else (bif Nat.blt x 10 then (bif Nat.beq x 9 then some (.iconst 1, 1) else none) else (bif Nat.beq x 10 then some (.isub, 1) else none)))) else (bif Nat.blt x 17 then (bif Nat.blt x 13 then (bif Nat.blt x 12 then (bif Nat.beq x 11 then some (.istore_n 2, 1) else none) else (bif Nat.beq x 12 then some (.iload_n 2, 1) else none)) else (bif Nat.blt x 16 then (bif Nat.beq x 13 then some (.ifCond .lt 35, 3) else none) else (bif Nat.beq x 16 then some (.aload_n 0, 1) else none))) else (bif Nat.blt x 21 then (bif Nat.blt x 20 then (bif Nat.beq x 17 then some (.getfield 18, 3) else none) else (bif Nat.beq x 20 then some (.iload_n 1, 1) else none)) else (bif Nat.blt x 22 then (bif Nat.beq x 21 then some (.iload_n 2, 1) else none) else (bif Nat.beq x 22 then some (.invokevirtual 35, 3) else none))))) else (bif Nat.blt x 37 then (bif Nat.blt x 29 then (bif Nat.blt x 26 then (bif Nat.beq x 25 then some (.istore_n 3, 1) else none) else (bif Nat.blt x 27 then (bif Nat.beq x 26 then some (.iload_n 3, 1) else none) else (bif Nat.beq x 27 then some (.bipush 8, 2) else none))) else (bif Nat.blt x 33 then (bif Nat.blt x 32 then (bif Nat.beq x 29 then some (.if_icmp .lt 13, 3) else none) else (bif Nat.beq x 32 then some (.aload_n 0, 1) else none)) else (bif Nat.blt x 36 then (bif Nat.beq x 33 then some (.getfield 9, 3) else none) else (bif Nat.beq x 36 then some (.iload_n 3, 1) else none)))) else (bif Nat.blt x 42 then (bif Nat.blt x 40 then (bif Nat.blt x 39 then (bif Nat.beq x 37 then some (.bipush 8, 2) else none) else (bif Nat.beq x 39 then some (.isub, 1) else none)) else (bif Nat.blt x 41 then (bif Nat.beq x 40 then some (.iaload, 1) else none) else (bif Nat.beq x 41 then some (.ireturn, 1) else none))) else (bif Nat.blt x 48 then (bif Nat.blt x 45 then (bif Nat.beq x 42 then some (.iinc 2 (-1), 3) else none) else (bif Nat.beq x 45 then some (.goto (-33), 3) else none)) else (bif Nat.blt x 49 then (bif Nat.beq x 48 then some (.iconst 0, 1) else none) else (bif Nat.beq x 49 then some (.ireturn, 1) else none)))))
def q_t89 (x : Nat) : Option (Instr × Nat) := bif Nat.blt x 56 then (bif Nat.blt x 15 then (bif Nat.blt x 6 then (bif Nat.blt x 4 then (bif Nat.blt x 1 then (bif Nat.beq x 0 then some (.aload_n 0, 1) else none) else (bif Nat.beq x 1 then some (.getfield 19, 3) else none)) else (bif Nat.blt x 5 then (bif Nat.beq x 4 then some (.iload_n 1, 1) else none) else (bif Nat.beq x 5 then some (.iload_n 2, 1) else none))) else (bif Nat.blt x 12 then (bif Nat.blt x 9 then (bif Nat.beq x 6 then some (.invokevirtual 31, 3) else none) else (bif Nat.beq x 9 then some (.ifCond .ne 5, 3) else none)) else (bif Nat.blt x 13 then (bif Nat.beq x 12 then some (.iconst 0, 1) else none) else (bif Nat.blt x 14 then (bif Nat.beq x 13 then some (.ireturn, 1) else none) else (bif Nat.beq x 14 then some (.iload_n 2, 1) else none))))) else (bif Nat.blt x 23 then (bif Nat.blt x 21 then (bif Nat.blt x 18 then (bif Nat.beq x 15 then some (.ifCond .ne 7, 3) else none) else (bif Nat.beq x 18 then some (.sipush 256, 3) else none)) else (bif Nat.blt x 22 then (bif Nat.beq x 21 then some (.ireturn, 1) else none) else (bif Nat.beq x 22 then some (.iload_n 3, 1) else none))) else (bif Nat.blt x 51 then (bif Nat.blt x 48 then (bif Nat.beq x 23 then some (.lookupswitch 47 #[(0, 25), (1, 29)], 25) else none) else (bif Nat.beq x 48 then some (.sipush 511, 3) else none)) else (bif Nat.blt x 52 then (bif Nat.beq x 51 then some (.ireturn, 1) else none) else (bif Nat.blt x 53 then (bif Nat.beq x 52 then some (.aload_n 0, 1) else none) else (bif Nat.beq x 53 then some (.getfield 15, 3) else none)))))) else (bif Nat.blt x 71 then (bif Nat.blt x 66 then (bif Nat.blt x 60 then (bif Nat.blt x 59 then (bif Nat.beq x 56 then some (.getfield 37, 3) else none) else (bif Nat.beq x 59 then some (.aload_n 0, 1) else none)) else (bif Nat.blt x 63 then (bif Nat.beq x 60 then some (.getfield 9, 3) else none) else (bif Nat.beq x 63 then some (.getfield 43, 3) else none))) else (bif Nat.blt x 68 then (bif Nat.blt x 67 then (bif Nat.beq x 66 then some (.iload_n 2, 1) else none) else (bif Nat.beq x 67 then some (.iaload, 1) else none)) else (bif Nat.blt x 69 then (bif Nat.beq x 68 then some (.iaload, 1) else none) else (bif Nat.blt x 70 then (bif Nat.beq x 69 then some (.ireturn, 1) else none) else (bif Nat.beq x 70 then some (.aload_n 0, 1) else none))))) else (bif Nat.blt x 80 then (bif Nat.blt x 75 then (bif Nat.blt x 74 then (bif Nat.beq x 71 then some (.getfield 23, 3) else none) else (bif Nat.beq x 74 then some (.iload_n 1, 1) else none)) else (bif Nat.blt x 76 then (bif Nat.beq x 75 then some (.iload_n 2, 1) else none) else (bif Nat.blt x 77 then (bif Nat.beq x 76 then some (.aload_n 0, 1) else none) else (bif Nat.beq x 77 then some (.getfield 9, 3) else none)))) else (bif Nat.blt x 84 then (bif Nat.blt x 83 then (bif Nat.beq x 80 then some (.getfield 48, 3) else none) else (bif Nat.beq x 83 then some (.iload_n 2, 1) else none)) else (bif Nat.blt x 85 then (bif Nat.beq x 84 then some (.iaload, 1) else none) else (bif Nat.blt x 88 then (bif Nat.beq x 85 then some (.invokevirtual 51, 3) else none) else (bif Nat.beq x 88 then some (.ireturn, 1) else none))))))
def q_t90 (x : Nat) : Option (Instr × Nat) := bif Nat.blt x 9 then (bif Nat.blt x 3 then (bif Nat.blt x 1 then (bif Nat.beq x 0 then some (.iconst 0, 1) else none) else (bif Nat.blt x 2 then (bif Nat.beq x 1 then some (.istore_n 1, 1) else none) else (bif Nat.beq x 2 then some (.iload_n 1, 1) else none))) else (bif Nat.blt x 7 then (bif Nat.blt x 4 then (bif Nat.beq x 3 then some (.iconst 3, 1) else none) else (bif Nat.beq x 4 then some (.if_icmp .ge 19, 3) else none)) else (bif Nat.blt x 8 then (bif Nat.beq x 7 then some (.aload_n 0, 1) else none) else (bif Nat.beq x 8 then some (.iload_n 1, 1) else none)))) else (bif Nat.blt x 17 then (bif Nat.blt x 15 then (bif Nat.blt x 12 then (bif Nat.beq x 9 then some (.invokevirtual 57, 3) else none) else (bif Nat.beq x 12 then some (.ifCond .eq 5, 3) else none)) else (bif Nat.blt x 16 then (bif Nat.beq x 15 then some (.iload_n 1, 1) else none) else (bif Nat.beq x 16 then some (.ireturn, 1) else none))) else (bif Nat.blt x 23 then (bif Nat.blt x 20 then (bif Nat.beq x 17 then some (.iinc 1 1, 3) else none) else (bif Nat.beq x 20 then some (.goto (-18), 3) else none)) else (bif Nat.blt x 24 then (bif Nat.beq x 23 then some (.iconst 3, 1) else none) else (bif Nat.beq x 24 then some (.ireturn, 1) else none))))
def q_t91 (x : Nat) : Option (Instr × Nat) := bif Nat.blt x 38 then (bif Nat.blt x 18 then (bif Nat.blt x 8 then (bif Nat.blt x 3 then (bif Nat.blt x 1 then (bif Nat.beq x 0 then some (.aload_n 0, 1) else none) else (bif Nat.blt x 2 then (bif Nat.beq x 1 then some (.iload_n 1, 1) else none) else (bif Nat.beq x 2 then some (.iload_n 2, 1) else none))) else (bif Nat.blt x 6 then (bif Nat.beq x 3 then some (.invokevirtual 61, 3) else none) else (bif Nat.blt x 7 then (bif Nat.beq x 6 then some (.istore_n 3, 1) else none) else (bif Nat.beq x 7 then some (.aload_n 0, 1) else none)))) else (bif Nat.blt x 11 then (bif Nat.blt x 9 then (bif Nat.beq x 8 then some (.iload_n 1, 1) else none) else (bif Nat.blt x 10 then (bif Nat.beq x 9 then some (.iload_n 2, 1) else none) else (bif Nat.beq x 10 then some (.iconst 0, 1) else none))) else (bif Nat.blt x 14 then (bif Nat.beq x 11 then some (.invokevirtual 65, 3) else none) else (bif Nat.blt x 16 then (bif Nat.beq x 14 then some (.istore 4, 2) else none) else (bif Nat.beq x 16 then some (.iload 4, 2) else none))))) else (bif Nat.blt x 28 then (bif Nat.blt x 23 then (bif Nat.blt x 19 then (bif Nat.beq x 18 then some (.iconst (-1), 1) else none) else (bif Nat.blt x 22 then (bif Nat.beq x 19 then some (.if_icmp .ne 17, 3) else none) else (bif Nat.beq x 22 then some (.iload_n 3, 1) else none))) else (bif Nat.blt x 24 then (bif Nat.beq x 23 then some (.iconst (-1), 1) else none) else (bif Nat.blt x 27 then (bif Nat.beq x 24 then some (.if_icmp .ne 7, 3) else none) else (bif Nat.beq x 27 then some (.iconst 0, 1) else none)))) else (bif Nat.blt x 34 then (bif Nat.blt x 31 then (bif Nat.beq x 28 then some (.goto 7, 3) else none) else (bif Nat.blt x 33 then (bif Nat.beq x 31 then some (.bipush 20, 2) else none) else (bif Nat.beq x 33 then some (.iload_n 3, 1) else none))) else (bif Nat.blt x 35 then (bif Nat.beq x 34 then some (.iadd, 1) else none) else (bif Nat.blt x 36 then (bif Nat.beq x 35 then some (.ireturn, 1) else none) else (bif Nat.beq x 36 then some (.iload 4, 2) else none)))))) else (bif Nat.blt x 62 then (bif Nat.blt x 51 then (bif Nat.blt x 46 then (bif Nat.blt x 41 then (bif Nat.beq x 38 then some (.ifCond .ne 8, 3) else none) else (bif Nat.blt x 43 then (bif Nat.beq x 41 then some (.bipush 16, 2) else none) else (bif Nat.beq x 43 then some (.goto 5, 3) else none))) else (bif Nat.blt x 48 then (bif Nat.beq x 46 then some (.iload 4, 2) else none) else (bif Nat.blt x 50 then (bif Nat.beq x 48 then some (.istore 5, 2) else none) else (bif Nat.beq x 50 then some (.iload_n 3, 1) else none)))) else (bif Nat.blt x 57 then (bif Nat.blt x 52 then (bif Nat.beq x 51 then some (.iconst (-1), 1) else none) else (bif Nat.blt x 55 then (bif Nat.beq x 52 then some (.if_icmp .ne 6, 3) else none) else (bif Nat.beq x 55 then some (.iload 5, 2) else none))) else (bif Nat.blt x 58 then (bif Nat.beq x 57 then some (.ireturn, 1) else none) else (bif Nat.blt x 59 then (bif Nat.beq x 58 then some (.aload_n 0, 1) else none) else (bif Nat.beq x 59 then some (.getfield 27, 3) else none))))) else (bif Nat.blt x 99 then (bif Nat.blt x 68 then (bif Nat.blt x 63 then (bif Nat.beq x 62 then some (.iload_n 2, 1) else none) else (bif Nat.blt x 65 then (bif Nat.beq x 63 then some (.iload 4, 2) else none) else (bif Nat.beq x 65 then some (.invokevirtual 68, 3) else none))) else (bif Nat.blt x 96 then (bif Nat.beq x 68 then some (.lookupswitch 36 #[(0, 28), (1, 31)], 28) else none) else (bif Nat.blt x 98 then (bif Nat.beq x 96 then some (.iload 5, 2) else none) else (bif Nat.beq x 98 then some (.ireturn, 1) else none)))) else (bif Nat.blt x 103 then (bif Nat.blt x 101 then (bif Nat.beq x 99 then some (.bipush 20, 2) else none) else (bif Nat.blt x 102 then (bif Nat.beq x 101 then some (.iload_n 3, 1) else none) else (bif Nat.beq x 102 then some (.iadd, 1) else none))) else (bif Nat.blt x 104 then (bif Nat.beq x 103 then some (.ireturn, 1) else none) else (bif Nat.blt x 105 then (bif Nat.beq x 104 then some (.iconst 0, 1) else none) else (bif Nat.beq x 105 then some (.ireturn, 1) else none))))))
def q_t92 (x : Nat) : Option (Instr × Nat) := bif Nat.blt x 16 then (bif Nat.blt x 5 then (bif Nat.blt x 2 then (bif Nat.blt x 1 then (bif Nat.beq x 0 then some (.iconst 0, 1) else none) else (bif Nat.beq x 1 then some (.istore_n 2, 1) else none)) else (bif Nat.blt x 3 then (bif Nat.beq x 2 then some (.iconst 0, 1) else none) else (bif Nat.blt x 4 then (bif Nat.beq x 3 then some (.istore_n 3, 1) else none) else (bif Nat.beq x 4 then some (.iload_n 3, 1) else none)))) else (bif Nat.blt x 11 then (bif Nat.blt x 7 then (bif Nat.beq x 5 then some (.bipush 9, 2) else none) else (bif Nat.blt x 10 then (bif Nat.beq x 7 then some (.if_icmp .ge 24, 3) else none) else (bif Nat.beq x 10 then some (.aload_n 0, 1) else none))) else (bif Nat.blt x 12 then (bif Nat.beq x 11 then some (.iload_n 1, 1) else none) else (bif Nat.blt x 13 then (bif Nat.beq x 12 then some (.iload_n 3, 1) else none) else (bif Nat.beq x 13 then some (.invokevirtual 73, 3) else none))))) else (bif Nat.blt x 23 then (bif Nat.blt x 20 then (bif Nat.blt x 19 then (bif Nat.beq x 16 then some (.ifCond .eq 9, 3) else none) else (bif Nat.beq x 19 then some (.iload_n 2, 1) else none)) else (bif Nat.blt x 21 then (bif Nat.beq x 20 then some (.iconst 1, 1) else none) else (bif Nat.blt x 22 then (bif Nat.beq x 21 then some (.iload_n 3, 1) else none) else (bif Nat.beq x 22 then some (.ishl, 1) else none)))) else (bif Nat.blt x 28 then (bif Nat.blt x 24 then (bif Nat.beq x 23 then some (.ior, 1) else none) else (bif Nat.blt x 25 then (bif Nat.beq x 24 then some (.istore_n 2, 1) else none) else (bif Nat.beq x 25 then some (.iinc 3 1, 3) else none))) else (bif Nat.blt x 31 then (bif Nat.beq x 28 then some (.goto (-24), 3) else none) else (bif Nat.blt x 32 then (bif Nat.beq x 31 then some (.iload_n 2, 1) else none) else (bif Nat.beq x 32 then some (.ireturn, 1) else none)))))
def q_t93 (x : Nat) : Option (Instr × Nat) := bif Nat.blt x 20 then (bif Nat.blt x 6 then (bif Nat.blt x 3 then (bif Nat.blt x 1 then (bif Nat.beq x 0 then some (.iconst 0, 1) else none) else (bif Nat.blt x 2 then (bif Nat.beq x 1 then some (.istore_n 1, 1) else none) else (bif Nat.beq x 2 then some (.iconst 0, 1) else none))) else (bif Nat.blt x 4 then (bif Nat.beq x 3 then some (.istore_n 2, 1) else none) else (bif Nat.blt x 5 then (bif Nat.beq x 4 then some (.iload_n 2, 1) else none) else (bif Nat.beq x 5 then some (.aload_n 0, 1) else none)))) else (bif Nat.blt x 15 then (bif Nat.blt x 9 then (bif Nat.beq x 6 then some (.getfield 19, 3) else none) else (bif Nat.blt x 12 then (bif Nat.beq x 9 then some (.getfield 76, 3) else none) else (bif Nat.beq x 12 then some (.if_icmp .ge 35, 3) else none))) else (bif Nat.blt x 17 then (bif Nat.blt x 16 then (bif Nat.beq x 15 then some (.iconst 0, 1) else none) else (bif Nat.beq x 16 then some (.istore_n 3, 1) else none)) else (bif Nat.blt x 18 then (bif Nat.beq x 17 then some (.iload_n 3, 1) else none) else (bif Nat.beq x 18 then some (.bipush 9, 2) else none))))) else (bif Nat.blt x 32 then (bif Nat.blt x 25 then (bif Nat.blt x 23 then (bif Nat.beq x 20 then some (.if_icmp .ge 21, 3) else none) else (bif Nat.blt x 24 then (bif Nat.beq x 23 then some (.aload_n 0, 1) else none) else (bif Nat.beq x 24 then some (.iload_n 2, 1) else none))) else (bif Nat.blt x 26 then (bif Nat.beq x 25 then some (.iload_n 3, 1) else none) else (bif Nat.blt x 29 then (bif Nat.beq x 26 then some (.invokevirtual 80, 3) else none) else (bif Nat.beq x 29 then some (.ifCond .eq 6, 3) else none)))) else (bif Nat.blt x 41 then (bif Nat.blt x 35 then (bif Nat.beq x 32 then some (.iinc 1 1, 3) else none) else (bif Nat.blt x 38 then (bif Nat.beq x 35 then some (.iinc 3 1, 3) else none) else (bif Nat.beq x 38 then some (.goto (-21), 3) else none))) else (bif Nat.blt x 47 then (bif Nat.blt x 44 then (bif Nat.beq x 41 then some (.iinc 2 1, 3) else none) else (bif Nat.beq x 44 then some (.goto (-40), 3) else none)) else (bif Nat.blt x 48 then (bif Nat.beq x 47 then some (.iload_n 1, 1) else none) else (bif Nat.beq x 48 then some (.ireturn, 1) else none)))))
def q_t94 (x : Nat) : Option (Instr × Nat) := bif Nat.blt x 29 then (bif Nat.blt x 12 then (bif Nat.blt x 4 then (bif Nat.blt x 2 then (bif Nat.blt x 1 then (bif Nat.beq x 0 then some (.iconst 0, 1) else none) else (bif Nat.beq x 1 then some (.istore_n 2, 1) else none)) else (bif Nat.blt x 3 then (bif Nat.beq x 2 then some (.iconst 0, 1) else none) else (bif Nat.beq x 3 then some (.istore_n 3, 1) else none))) else (bif Nat.blt x 6 then (bif Nat.blt x 5 then (bif Nat.beq x 4 then some (.iload_n 3, 1) else none) else (bif Nat.beq x 5 then some (.aload_n 0, 1) else none)) else (bif Nat.blt x 9 then (bif Nat.beq x 6 then some (.getfield 19, 3) else none) else (bif Nat.beq x 9 then some (.getfield 76, 3) else none)))) else (bif Nat.blt x 20 then (bif Nat.blt x 16 then (bif Nat.blt x 15 then (bif Nat.beq x 12 then some (.if_icmp .ge 51, 3) else none) else (bif Nat.beq x 15 then some (.iconst 0, 1) else none)) else (bif Nat.blt x 18 then (bif Nat.beq x 16 then some (.istore 4, 2) else none) else (bif Nat.beq x 18 then some (.iload 4, 2) else none))) else (bif Nat.blt x 25 then (bif Nat.blt x 22 then (bif Nat.beq x 20 then some (.bipush 9, 2) else none) else (bif Nat.beq x 22 then some (.if_icmp .ge 35, 3) else none)) else (bif Nat.blt x 26 then (bif Nat.beq x 25 then some (.aload_n 0, 1) else none) else (bif Nat.blt x 27 then (bif Nat.beq x 26 then some (.iload_n 3, 1) else none) else (bif Nat.beq x 27 then some (.iload 4, 2) else none)))))) else (bif Nat.blt x 46 then (bif Nat.blt x 37 then (bif Nat.blt x 35 then (bif Nat.blt x 32 then (bif Nat.beq x 29 then some (.invokevirtual 80, 3) else none) else (bif Nat.beq x 32 then some (.ifCond .eq 19, 3) else none)) else (bif Nat.blt x 36 then (bif Nat.beq x 35 then some (.iload_n 2, 1) else none) else (bif Nat.beq x 36 then some (.iload_n 1, 1) else none))) else (bif Nat.blt x 42 then (bif Nat.blt x 40 then (bif Nat.beq x 37 then some (.if_icmp .ne 11, 3) else none) else (bif Nat.beq x 40 then some (.bipush 16, 2) else none)) else (bif Nat.blt x 43 then (bif Nat.beq x 42 then some (.iload_n 3, 1) else none) else (bif Nat.blt x 44 then (bif Nat.beq x 43 then some (.imul, 1) else none) else (bif Nat.beq x 44 then some (.iload 4, 2) else none))))) else (bif Nat.blt x 54 then (bif Nat.blt x 48 then (bif Nat.blt x 47 then (bif Nat.beq x 46 then some (.iadd, 1) else none) else (bif Nat.beq x 47 then some (.ireturn, 1) else none)) else (bif Nat.blt x 51 then (bif Nat.beq x 48 then some (.iinc 2 1, 3) else none) else (bif Nat.beq x 51 then some (.iinc 4 1, 3) else none))) else (bif Nat.blt x 60 then (bif Nat.blt x 57 then (bif Nat.beq x 54 then some (.goto (-36), 3) else none) else (bif Nat.beq x 57 then some (.iinc 3 1, 3) else none)) else (bif Nat.blt x 63 then (bif Nat.beq x 60 then some (.goto (-56), 3) else none) else (bif Nat.blt x 64 then (bif Nat.beq x 63 then some (.iconst (-1), 1) else none) else (bif Nat.beq x 64 then some (.ireturn, 1) else none))))))
def q_t95 (x : Nat) : Option (Instr × Nat) := bif Nat.blt x 25 then (bif Nat.blt x 13 then (bif Nat.blt x 4 then (bif Nat.blt x 2 then (bif Nat.blt x 1 then (bif Nat.beq x 0 then some (.aload_n 0, 1) else none) else (bif Nat.beq x 1 then some (.iload_n 1, 1) else none)) else (bif Nat.blt x 3 then (bif Nat.beq x 2 then some (.iload_n 2, 1) else none) else (bif Nat.beq x 3 then some (.iconst 0, 1) else none))) else (bif Nat.blt x 8 then (bif Nat.blt x 7 then (bif Nat.beq x 4 then some (.invokevirtual 65, 3) else none) else (bif Nat.beq x 7 then some (.istore_n 3, 1) else none)) else (bif Nat.blt x 9 then (bif Nat.beq x 8 then some (.iload_n 3, 1) else none) else (bif Nat.blt x 10 then (bif Nat.beq x 9 then some (.iconst (-1), 1) else none) else (bif Nat.beq x 10 then some (.if_icmp .ne 5, 3) else none))))) else (bif Nat.blt x 18 then (bif Nat.blt x 15 then (bif Nat.blt x 14 then (bif Nat.beq x 13 then some (.iconst 0, 1) else none) else (bif Nat.beq x 14 then some (.ireturn, 1) else none)) else (bif Nat.blt x 16 then (bif Nat.beq x 15 then some (.aload_n 0, 1) else none) else (bif Nat.blt x 17 then (bif Nat.beq x 16 then some (.iload_n 1, 1) else none) else (bif Nat.beq x 17 then some (.iload_n 2, 1) else none)))) else (bif Nat.blt x 20 then (bif Nat.blt x 19 then (bif Nat.beq x 18 then some (.iload_n 3, 1) else none) else (bif Nat.beq x 19 then some (.iconst 1, 1) else none)) else (bif Nat.blt x 21 then (bif Nat.beq x 20 then some (.iadd, 1) else none) else (bif Nat.blt x 24 then (bif Nat.beq x 21 then some (.invokevirtual 65, 3) else none) else (bif Nat.beq x 24 then some (.iconst (-1), 1) else none)))))) else (bif Nat.blt x 40 then (bif Nat.blt x 31 then (bif Nat.blt x 29 then (bif Nat.blt x 28 then (bif Nat.beq x 25 then some (.if_icmp .eq 5, 3) else none) else (bif Nat.beq x 28 then some (.iconst 1, 1) else none)) else (bif Nat.blt x 30 then (bif Nat.beq x 29 then some (.ireturn, 1) else none) else (bif Nat.beq x 30 then some (.aload_n 0, 1) else none))) else (bif Nat.blt x 33 then (bif Nat.blt x 32 then (bif Nat.beq x 31 then some (.iload_n 1, 1) else none) else (bif Nat.beq x 32 then some (.iload_n 2, 1) else none)) else (bif Nat.blt x 36 then (bif Nat.beq x 33 then some (.invokevirtual 61, 3) else none) else (bif Nat.blt x 37 then (bif Nat.beq x 36 then some (.iconst (-1), 1) else none) else (bif Nat.beq x 37 then some (.if_icmp .eq 19, 3) else none))))) else (bif Nat.blt x 49 then (bif Nat.blt x 44 then (bif Nat.blt x 41 then (bif Nat.beq x 40 then some (.aload_n 0, 1) else none) else (bif Nat.beq x 41 then some (.getfield 27, 3) else none)) else (bif Nat.blt x 45 then (bif Nat.beq x 44 then some (.iload_n 2, 1) else none) else (bif Nat.blt x 46 then (bif Nat.beq x 45 then some (.iload_n 3, 1) else none) else (bif Nat.beq x 46 then some (.invokevirtual 83, 3) else none)))) else (bif Nat.blt x 53 then (bif Nat.blt x 52 then (bif Nat.beq x 49 then some (.ifCond .ne 7, 3) else none) else (bif Nat.beq x 52 then some (.iconst 1, 1) else none)) else (bif Nat.blt x 56 then (bif Nat.beq x 53 then some (.goto 4, 3) else none) else (bif Nat.blt x 57 then (bif Nat.beq x 56 then some (.iconst 0, 1) else none) else (bif Nat.beq x 57 then some (.ireturn, 1) else none))))))
def q_t96 (x : Nat) : Option (Instr × Nat) := bif Nat.blt x 20 then (bif Nat.blt x 9 then (bif Nat.blt x 3 then (bif Nat.blt x 1 then (bif Nat.beq x 0 then some (.iload_n 3, 1) else none) else (bif Nat.beq x 1 then some (.istore 4, 2) else none)) else (bif Nat.blt x 5 then (bif Nat.beq x 3 then some (.iload 4, 2) else none) else (bif Nat.blt x 6 then (bif Nat.beq x 5 then some (.aload_n 0, 1) else none) else (bif Nat.beq x 6 then some (.getfield 9, 3) else none)))) else (bif Nat.blt x 16 then (bif Nat.blt x 12 then (bif Nat.beq x 9 then some (.getfield 86, 3) else none) else (bif Nat.blt x 15 then (bif Nat.beq x 12 then some (.if_icmp .gt 27, 3) else none) else (bif Nat.beq x 15 then some (.aload_n 0, 1) else none))) else (bif Nat.blt x 17 then (bif Nat.beq x 16 then some (.iload_n 1, 1) else none) else (bif Nat.blt x 19 then (bif Nat.beq x 17 then some (.iload 4, 2) else none) else (bif Nat.beq x 19 then some (.iconst 2, 1) else none))))) else (bif Nat.blt x 30 then (bif Nat.blt x 25 then (bif Nat.blt x 23 then (bif Nat.beq x 20 then some (.invokevirtual 89, 3) else none) else (bif Nat.blt x 24 then (bif Nat.beq x 23 then some (.iload_n 2, 1) else none) else (bif Nat.beq x 24 then some (.ishr, 1) else none))) else (bif Nat.blt x 26 then (bif Nat.beq x 25 then some (.iconst 1, 1) else none) else (bif Nat.blt x 27 then (bif Nat.beq x 26 then some (.iand, 1) else none) else (bif Nat.beq x 27 then some (.ifCond .eq 6, 3) else none)))) else (bif Nat.blt x 36 then (bif Nat.blt x 32 then (bif Nat.beq x 30 then some (.iload 4, 2) else none) else (bif Nat.blt x 33 then (bif Nat.beq x 32 then some (.ireturn, 1) else none) else (bif Nat.beq x 33 then some (.iinc 4 1, 3) else none))) else (bif Nat.blt x 39 then (bif Nat.beq x 36 then some (.goto (-33), 3) else none) else (bif Nat.blt x 40 then (bif Nat.beq x 39 then some (.iconst (-1), 1) else none) else (bif Nat.beq x 40 then some (.ireturn, 1) else none)))))
def q_t97 (x : Nat) : Option (Instr × Nat) := bif Nat.blt x 15 then (bif Nat.blt x 4 then (bif Nat.blt x 2 then (bif Nat.blt x 1 then (bif Nat.beq x 0 then some (.iconst 0, 1) else none) else (bif Nat.beq x 1 then some (.istore_n 2, 1) else none)) else (bif Nat.blt x 3 then (bif Nat.beq x 2 then some (.iload_n 2, 1) else none) else (bif Nat.beq x 3 then some (.aload_n 0, 1) else none))) else (bif Nat.blt x 10 then (bif Nat.blt x 7 then (bif Nat.beq x 4 then some (.getfield 19, 3) else none) else (bif Nat.beq x 7 then some (.getfield 76, 3) else none)) else (bif Nat.blt x 13 then (bif Nat.beq x 10 then some (.if_icmp .ge 20, 3) else none) else (bif Nat.blt x 14 then (bif Nat.beq x 13 then some (.aload_n 0, 1) else none) else (bif Nat.beq x 14 then some (.iload_n 2, 1) else none))))) else (bif Nat.blt x 23 then (bif Nat.blt x 19 then (bif Nat.blt x 16 then (bif Nat.beq x 15 then some (.iload_n 1, 1) else none) else (bif Nat.beq x 16 then some (.invokevirtual 92, 3) else none)) else (bif Nat.blt x 22 then (bif Nat.beq x 19 then some (.ifCond .eq 5, 3) else none) else (bif Nat.beq x 22 then some (.iconst 0, 1) else none))) else (bif Nat.blt x 27 then (bif Nat.blt x 24 then (bif Nat.beq x 23 then some (.ireturn, 1) else none) else (bif Nat.beq x 24 then some (.iinc 2 1, 3) else none)) else (bif Nat.blt x 30 then (bif Nat.beq x 27 then some (.goto (-25), 3) else none) else (bif Nat.blt x 31 then (bif Nat.beq x 30 then some (.iconst 1, 1) else none) else (bif Nat.beq x 31 then some (.ireturn, 1) else none)))))
def q_t98 (x : Nat) : Option (Instr × Nat) := bif Nat.blt x 26 then (bif Nat.blt x 11 then (bif Nat.blt x 5 then (bif Nat.blt x 1 then (bif Nat.beq x 0 then some (.aload_n 0, 1) else none) else (bif Nat.blt x 2 then (bif Nat.beq x 1 then some (.iload_n 1, 1) else none) else (bif Nat.beq x 2 then some (.invokevirtual 95, 3) else none))) else (bif Nat.blt x 7 then (bif Nat.blt x 6 then (bif Nat.beq x 5 then some (.istore_n 3, 1) else none) else (bif Nat.beq x 6 then some (.iconst 0, 1) else none)) else (bif Nat.blt x 9 then (bif Nat.beq x 7 then some (.istore 4, 2) else none) else (bif Nat.beq x 9 then some (.iload 4, 2) else none)))) else (bif Nat.blt x 21 then (bif Nat.blt x 15 then (bif Nat.blt x 12 then (bif Nat.beq x 11 then some (.aload_n 0, 1) else none) else (bif Nat.beq x 12 then some (.getfield 9, 3) else none)) else (bif Nat.blt x 18 then (bif Nat.beq x 15 then some (.getfield 86, 3) else none) else (bif Nat.beq x 18 then some (.if_icmp .gt 33, 3) else none))) else (bif Nat.blt x 23 then (bif Nat.blt x 22 then (bif Nat.beq x 21 then some (.aload_n 0, 1) else none) else (bif Nat.beq x 22 then some (.iload_n 1, 1) else none)) else (bif Nat.blt x 25 then (bif Nat.beq x 23 then some (.iload 4, 2) else none) else (bif Nat.beq x 25 then some (.iload_n 2, 1) else none))))) else (bif Nat.blt x 40 then (bif Nat.blt x 34 then (bif Nat.blt x 31 then (bif Nat.blt x 29 then (bif Nat.beq x 26 then some (.invokevirtual 89, 3) else none) else (bif Nat.beq x 29 then some (.istore 5, 2) else none)) else (bif Nat.blt x 32 then (bif Nat.beq x 31 then some (.iload_n 3, 1) else none) else (bif Nat.beq x 32 then some (.iload 5, 2) else none))) else (bif Nat.blt x 38 then (bif Nat.blt x 35 then (bif Nat.beq x 34 then some (.iand, 1) else none) else (bif Nat.beq x 35 then some (.ifCond .eq 5, 3) else none)) else (bif Nat.blt x 39 then (bif Nat.beq x 38 then some (.iconst 1, 1) else none) else (bif Nat.beq x 39 then some (.ireturn, 1) else none)))) else (bif Nat.blt x 45 then (bif Nat.blt x 43 then (bif Nat.blt x 41 then (bif Nat.beq x 40 then some (.iload_n 3, 1) else none) else (bif Nat.beq x 41 then some (.iload 5, 2) else none)) else (bif Nat.blt x 44 then (bif Nat.beq x 43 then some (.ior, 1) else none) else (bif Nat.beq x 44 then some (.istore_n 3, 1) else none))) else (bif Nat.blt x 51 then (bif Nat.blt x 48 then (bif Nat.beq x 45 then some (.iinc 4 1, 3) else none) else (bif Nat.beq x 48 then some (.goto (-39), 3) else none)) else (bif Nat.blt x 52 then (bif Nat.beq x 51 then some (.iconst 0, 1) else none) else (bif Nat.beq x 52 then some (.ireturn, 1) else none)))))
def q_t99 (x : Nat) : Option (Instr × Nat) := bif Nat.blt x 16 then (bif Nat.blt x 5 then (bif Nat.blt x 2 then (bif Nat.blt x 1 then (bif Nat.beq x 0 then some (.iconst 0, 1) else none) else (bif Nat.beq x 1 then some (.istore_n 2, 1) else none)) else (bif Nat.blt x 3 then (bif Nat.beq x 2 then some (.iconst 0, 1) else none) else (bif Nat.blt x 4 then (bif Nat.beq x 3 then some (.istore_n 3, 1) else none) else (bif Nat.beq x 4 then some (.iload_n 3, 1) else none)))) else (bif Nat.blt x 11 then (bif Nat.blt x 7 then (bif Nat.beq x 5 then some (.bipush 8, 2) else none) else (bif Nat.blt x 10 then (bif Nat.beq x 7 then some (.if_icmp .ge 25, 3) else none) else (bif Nat.beq x 10 then some (.aload_n 0, 1) else none))) else (bif Nat.blt x 12 then (bif Nat.beq x 11 then some (.iload_n 1, 1) else none) else (bif Nat.blt x 13 then (bif Nat.beq x 12 then some (.iload_n 3, 1) else none) else (bif Nat.beq x 13 then some (.invokevirtual 61, 3) else none))))) else (bif Nat.blt x 24 then (bif Nat.blt x 21 then (bif Nat.blt x 17 then (bif Nat.beq x 16 then some (.iconst (-1), 1) else none) else (bif Nat.blt x 20 then (bif Nat.beq x 17 then some (.if_icmp .eq 9, 3) else none) else (bif Nat.beq x 20 then some (.iload_n 2, 1) else none))) else (bif Nat.blt x 22 then (bif Nat.beq x 21 then some (.iconst 1, 1) else none) else (bif Nat.blt x 23 then (bif Nat.beq x 22 then some (.iload_n 3, 1) else none) else (bif Nat.beq x 23 then some (.ishl, 1) else none)))) else (bif Nat.blt x 29 then (bif Nat.blt x 25 then (bif Nat.beq x 24 then some (.ior, 1) else none) else (bif Nat.blt x 26 then (bif Nat.beq x 25 then some (.istore_n 2, 1) else none) else (bif Nat.beq x 26 then some (.iinc 3 1, 3) else none))) else (bif Nat.blt x 32 then (bif Nat.beq x 29 then some (.goto (-25), 3) else none) else (bif Nat.blt x 33 then (bif Nat.beq x 32 then some (.iload_n 2, 1) else none) else (bif Nat.beq x 33 then some (.ireturn, 1) else none)))))
def q_t100 (x : Nat) : Option (Instr × Nat) := bif Nat.blt x 11 then (bif Nat.blt x 6 then (bif Nat.blt x 1 then (bif Nat.beq x 0 then some (.iload_n 2, 1) else none) else (bif Nat.blt x 3 then (bif Nat.beq x 1 then some (.bipush 8, 2) else none) else (bif Nat.beq x 3 then some (.if_icmp .ne 7, 3) else none))) else (bif Nat.blt x 7 then (bif Nat.beq x 6 then some (.iconst (-1), 1) else none) else (bif Nat.blt x 10 then (bif Nat.beq x 7 then some (.goto 15, 3) else none) else (bif Nat.beq x 10 then some (.aload_n 0, 1) else none)))) else (bif Nat.blt x 17 then (bif Nat.blt x 14 then (bif Nat.beq x 11 then some (.getfield 19, 3) else none) else (bif Nat.blt x 15 then (bif Nat.beq x 14 then some (.iload_n 1, 1) else none) else (bif Nat.beq x 15 then some (.bipush 8, 2) else none))) else (bif Nat.blt x 19 then (bif Nat.blt x 18 then (bif Nat.beq x 17 then some (.iload_n 2, 1) else none) else (bif Nat.beq x 18 then some (.iadd, 1) else none)) else (bif Nat.blt x 22 then (bif Nat.beq x 19 then some (.invokevirtual 99, 3) else none) else (bif Nat.beq x 22 then some (.ireturn, 1) else none))))
def q_t101 (x : Nat) : Option (Instr × Nat) := bif Nat.blt x 10 then (bif Nat.blt x 5 then (bif Nat.blt x 1 then (bif Nat.beq x 0 then some (.aload_n 0, 1) else none) else (bif Nat.blt x 2 then (bif Nat.beq x 1 then some (.iconst 0, 1) else none) else (bif Nat.beq x 2 then some (.putfield 24, 3) else none))) else (bif Nat.blt x 6 then (bif Nat.beq x 5 then some (.aload_n 0, 1) else none) else (bif Nat.blt x 9 then (bif Nat.beq x 6 then some (.getfield 15, 3) else none) else (bif Nat.beq x 9 then some (.iconst 0, 1) else none)))) else (bif Nat.blt x 13 then (bif Nat.blt x 11 then (bif Nat.beq x 10 then some (.iconst 0, 1) else none) else (bif Nat.blt x 12 then (bif Nat.beq x 11 then some (.iastore, 1) else none) else (bif Nat.beq x 12 then some (.aload_n 0, 1) else none))) else (bif Nat.blt x 17 then (bif Nat.blt x 16 then (bif Nat.beq x 13 then some (.getfield 18, 3) else none) else (bif Nat.beq x 16 then some (.iconst 0, 1) else none)) else (bif Nat.blt x 20 then (bif Nat.beq x 17 then some (.invokestatic 31, 3) else none) else (bif Nat.beq x 20 then some (.return_, 1) else none))))
def q_t102 (x : Nat) : Option (Instr × Nat) := bif Nat.blt x 8 then (bif Nat.blt x 4 then (bif Nat.blt x 1 then (bif Nat.beq x 0 then some (.aload_n 0, 1) else none) else (bif Nat.beq x 1 then some (.getfield 24, 3) else none)) else (bif Nat.blt x 5 then (bif Nat.beq x 4 then some (.iconst 1, 1) else none) else (bif Nat.blt x 6 then (bif Nat.beq x 5 then some (.iadd, 1) else none) else (bif Nat.beq x 6 then some (.bipush 16, 2) else none)))) else (bif Nat.blt x 12 then (bif Nat.blt x 11 then (bif Nat.beq x 8 then some (.if_icmp .ne 7, 3) else none) else (bif Nat.beq x 11 then some (.iconst 1, 1) else none)) else (bif Nat.blt x 15 then (bif Nat.beq x 12 then some (.goto 4, 3) else none) else (bif Nat.blt x 16 then (bif Nat.beq x 15 then some (.iconst 0, 1) else none) else (bif Nat.beq x 16 then some (.ireturn, 1) else none))))
def q_t103 (x : Nat) : Option (Instr × Nat) := bif Nat.blt x 30 then (bif Nat.blt x 15 then (bif Nat.blt x 6 then (bif Nat.blt x 2 then (bif Nat.blt x 1 then (bif Nat.beq x 0 then some (.aload_n 0, 1) else none) else (bif Nat.beq x 1 then some (.dup, 1) else none)) else (bif Nat.blt x 5 then (bif Nat.beq x 2 then some (.getfield 24, 3) else none) else (bif Nat.beq x 5 then some (.iconst 1, 1) else none))) else (bif Nat.blt x 10 then (bif Nat.blt x 7 then (bif Nat.beq x 6 then some (.iadd, 1) else none) else (bif Nat.beq x 7 then some (.putfield 24, 3) else none)) else (bif Nat.blt x 11 then (bif Nat.beq x 10 then some (.aload_n 0, 1) else none) else (bif Nat.blt x 14 then (bif Nat.beq x 11 then some (.getfield 9, 3) else none) else (bif Nat.beq x 14 then some (.aload_n 0, 1) else none))))) else (bif Nat.blt x 21 then (bif Nat.blt x 19 then (bif Nat.blt x 18 then (bif Nat.beq x 15 then some (.getfield 24, 3) else none) else (bif Nat.beq x 18 then some (.iload_n 1, 1) else none)) else (bif Nat.blt x 20 then (bif Nat.beq x 19 then some (.iastore, 1) else none) else (bif Nat.beq x 20 then some (.aload_n 0, 1) else none))) else (bif Nat.blt x 25 then (bif Nat.blt x 24 then (bif Nat.beq x 21 then some (.getfield 15, 3) else none) else (bif Nat.beq x 24 then some (.aload_n 0, 1) else none)) else (bif Nat.blt x 28 then (bif Nat.beq x 25 then some (.getfield 24, 3) else none) else (bif Nat.blt x 29 then (bif Nat.beq x 28 then some (.iconst 0, 1) else none) else (bif Nat.beq x 29 then some (.iastore, 1) else none)))))) else (bif Nat.blt x 45 then (bif Nat.blt x 36 then (bif Nat.blt x 34 then (bif Nat.blt x 31 then (bif Nat.beq x 30 then some (.aload_n 0, 1) else none) else (bif Nat.beq x 31 then some (.getfield 18, 3) else none)) else (bif Nat.blt x 35 then (bif Nat.beq x 34 then some (.iload_n 1, 1) else none) else (bif Nat.beq x 35 then some (.iaload, 1) else none))) else (bif Nat.blt x 40 then (bif Nat.blt x 39 then (bif Nat.beq x 36 then some (.ifCond .ne 13, 3) else none) else (bif Nat.beq x 39 then some (.aload_n 0, 1) else none)) else (bif Nat.blt x 43 then (bif Nat.beq x 40 then some (.getfield 18, 3) else none) else (bif Nat.blt x 44 then (bif Nat.beq x 43 then some (.iload_n 1, 1) else none) else (bif Nat.beq x 44 then some (.aload_n 0, 1) else none))))) else (bif Nat.blt x 53 then (bif Nat.blt x 49 then (bif Nat.blt x 48 then (bif Nat.beq x 45 then some (.getfield 24, 3) else none) else (bif Nat.beq x 48 then some (.iastore, 1) else none)) else (bif Nat.blt x 50 then (bif Nat.beq x 49 then some (.aload_n 0, 1) else none) else (bif Nat.beq x 50 then some (.getfield 21, 3) else none))) else (bif Nat.blt x 55 then (bif Nat.blt x 54 then (bif Nat.beq x 53 then some (.iload_n 1, 1) else none) else (bif Nat.beq x 54 then some (.aload_n 0, 1) else none)) else (bif Nat.blt x 58 then (bif Nat.beq x 55 then some (.getfield 24, 3) else none) else (bif Nat.blt x 59 then (bif Nat.beq x 58 then some (.iastore, 1) else none) else (bif Nat.beq x 59 then some (.return_, 1) else none))))))
def q_t104 (x : Nat) : Option (Instr × Nat) := bif Nat.blt x 14 then (bif Nat.blt x 7 then (bif Nat.blt x 4 then (bif Nat.blt x 1 then (bif Nat.beq x 0 then some (.aload_n 0, 1) else none) else (bif Nat.beq x 1 then some (.getfield 28, 3) else none)) else (bif Nat.blt x 5 then (bif Nat.beq x 4 then some (.iload_n 1, 1) else none) else (bif Nat.blt x 6 then (bif Nat.beq x 5 then some (.iconst 4, 1) else none) else (bif Nat.beq x 6 then some (.imul, 1) else none)))) else (bif Nat.blt x 11 then (bif Nat.blt x 8 then (bif Nat.beq x 7 then some (.aload_n 0, 1) else none) else (bif Nat.beq x 8 then some (.getfield 15, 3) else none)) else (bif Nat.blt x 12 then (bif Nat.beq x 11 then some (.iload_n 1, 1) else none) else (bif Nat.blt x 13 then (bif Nat.beq x 12 then some (.iaload, 1) else none) else (bif Nat.beq x 13 then some (.iadd, 1) else none))))) else (bif Nat.blt x 21 then (bif Nat.blt x 16 then (bif Nat.blt x 15 then (bif Nat.beq x 14 then some (.iload_n 2, 1) else none) else (bif Nat.beq x 15 then some (.iastore, 1) else none)) else (bif Nat.blt x 17 then (bif Nat.beq x 16 then some (.aload_n 0, 1) else none) else (bif Nat.blt x 20 then (bif Nat.beq x 17 then some (.getfield 15, 3) else none) else (bif Nat.beq x 20 then some (.iload_n 1, 1) else none)))) else (bif Nat.blt x 24 then (bif Nat.blt x 22 then (bif Nat.beq x 21 then some (.dup2, 1) else none) else (bif Nat.blt x 23 then (bif Nat.beq x 22 then some (.iaload, 1) else none) else (bif Nat.beq x 23 then some (.iconst 1, 1) else none))) else (bif Nat.blt x 25 then (bif Nat.beq x 24 then some (.iadd, 1) else none) else (bif Nat.blt x 26 then (bif Nat.beq x 25 then some (.iastore, 1) else none) else (bif Nat.beq x 26 then some (.return_, 1) else none)))))
def q_t105 (x : Nat) : Option (Instr × Nat) := bif Nat.blt x 6 then (bif Nat.blt x 4 then (bif Nat.blt x 1 then (bif Nat.beq x 0 then some (.aload_n 0, 1) else none) else (bif Nat.beq x 1 then some (.getfield 28, 3) else none)) else (bif Nat.blt x 5 then (bif Nat.beq x 4 then some (.iload_n 1, 1) else none) else (bif Nat.beq x 5 then some (.iconst 4, 1) else none))) else (bif Nat.blt x 8 then (bif Nat.blt x 7 then (bif Nat.beq x 6 then some (.imul, 1) else none) else (bif Nat.beq x 7 then some (.iload_n 2, 1) else none)) else (bif Nat.blt x 9 then (bif Nat.beq x 8 then some (.iadd, 1) else none) else (bif Nat.blt x 10 then (bif Nat.beq x 9 then some (.iaload, 1) else none) else (bif Nat.beq x 10 then some (.ireturn, 1) else none))))
def q_t106 (x : Nat) : Option (Instr × Nat) := bif Nat.blt x 6 then (bif Nat.blt x 4 then (bif Nat.blt x 1 then (bif Nat.beq x 0 then some (.aload_n 0, 1) else none) else (bif Nat.beq x 1 then some (.getfield 18, 3) else none)) else (bif Nat.blt x 5 then (bif Nat.beq x 4 then some (.iload_n 1, 1) else none) else (bif Nat.beq x 5 then some (.iaload, 1) else none))) else (bif Nat.blt x 10 then (bif Nat.blt x 9 then (bif Nat.beq x 6 then some (.ifCond .eq 7, 3) else none) else (bif Nat.beq x 9 then some (.iconst 1, 1) else none)) else (bif Nat.blt x 13 then (bif Nat.beq x 10 then some (.goto 4, 3) else none) else (bif Nat.blt x 14 then (bif Nat.beq x 13 then some (.iconst 0, 1) else none) else (bif Nat.beq x 14 then some (.ireturn, 1) else none))))
def q_t107 (x : Nat) : Option (Instr × Nat) := bif Nat.blt x 4 then (bif Nat.blt x 1 then (bif Nat.beq x 0 then some (.aload_n 0, 1) else none) else (bif Nat.beq x 1 then some (.getfield 9, 3) else none)) else (bif Nat.blt x 5 then (bif Nat.beq x 4 then some (.iconst 1, 1) else none) else (bif Nat.blt x 6 then (bif Nat.beq x 5 then some (.iaload, 1) else none) else (bif Nat.beq x 6 then some (.ireturn, 1) else none)))
def q_t108 (x : Nat) : Option (Instr × Nat) := bif Nat.blt x 40 then (bif Nat.blt x 18 then (bif Nat.blt x 5 then (bif Nat.blt x 2 then (bif Nat.blt x 1 then (bif Nat.beq x 0 then some (.iload_n 1, 1) else none) else (bif Nat.beq x 1 then some (.istore_n 2, 1) else none)) else (bif Nat.blt x 3 then (bif Nat.beq x 2 then some (.iconst 1, 1) else none) else (bif Nat.blt x 4 then (bif Nat.beq x 3 then some (.istore_n 3, 1) else none) else (bif Nat.beq x 4 then some (.iconst 0, 1) else none)))) else (bif Nat.blt x 11 then (bif Nat.blt x 7 then (bif Nat.beq x 5 then some (.istore 4, 2) else none) else (bif Nat.blt x 8 then (bif Nat.beq x 7 then some (.iload_n 3, 1) else none) else (bif Nat.beq x 8 then some (.ifCond .eq 71, 3) else none))) else (bif Nat.blt x 13 then (bif Nat.beq x 11 then some (.iload 4, 2) else none) else (bif Nat.blt x 15 then (bif Nat.beq x 13 then some (.bipush 8, 2) else none) else (bif Nat.beq x 15 then some (.if_icmp .gt 64, 3) else none))))) else (bif Nat.blt x 27 then (bif Nat.blt x 22 then (bif Nat.blt x 19 then (bif Nat.beq x 18 then some (.iload_n 2, 1) else none) else (bif Nat.blt x 21 then (bif Nat.beq x 19 then some (.istore 5, 2) else none) else (bif Nat.beq x 21 then some (.iconst 1, 1) else none))) else (bif Nat.blt x 24 then (bif Nat.beq x 22 then some (.istore 6, 2) else none) else (bif Nat.blt x 26 then (bif Nat.beq x 24 then some (.iload 6, 2) else none) else (bif Nat.beq x 26 then some (.aload_n 0, 1) else none)))) else (bif Nat.blt x 34 then (bif Nat.blt x 30 then (bif Nat.beq x 27 then some (.getfield 24, 3) else none) else (bif Nat.blt x 33 then (bif Nat.beq x 30 then some (.if_icmp .gt 31, 3) else none) else (bif Nat.beq x 33 then some (.aload_n 0, 1) else none))) else (bif Nat.blt x 36 then (bif Nat.beq x 34 then some (.iload 6, 2) else none) else (bif Nat.blt x 37 then (bif Nat.beq x 36 then some (.iload_n 2, 1) else none) else (bif Nat.beq x 37 then some (.invokevirtual 37, 3) else none)))))) else (bif Nat.blt x 58 then (bif Nat.blt x 49 then (bif Nat.blt x 44 then (bif Nat.blt x 43 then (bif Nat.beq x 40 then some (.ifCond .eq 15, 3) else none) else (bif Nat.beq x 43 then some (.iload_n 2, 1) else none)) else (bif Nat.blt x 45 then (bif Nat.beq x 44 then some (.iconst 1, 1) else none) else (bif Nat.blt x 46 then (bif Nat.beq x 45 then some (.aload_n 0, 1) else none) else (bif Nat.beq x 46 then some (.getfield 9, 3) else none)))) else (bif Nat.blt x 53 then (bif Nat.blt x 51 then (bif Nat.beq x 49 then some (.iload 6, 2) else none) else (bif Nat.blt x 52 then (bif Nat.beq x 51 then some (.iaload, 1) else none) else (bif Nat.beq x 52 then some (.ishl, 1) else none))) else (bif Nat.blt x 54 then (bif Nat.beq x 53 then some (.ior, 1) else none) else (bif Nat.blt x 55 then (bif Nat.beq x 54 then some (.istore_n 2, 1) else none) else (bif Nat.beq x 55 then some (.iinc 6 1, 3) else none))))) else (bif Nat.blt x 71 then (bif Nat.blt x 64 then (bif Nat.blt x 61 then (bif Nat.beq x 58 then some (.goto (-34), 3) else none) else (bif Nat.blt x 62 then (bif Nat.beq x 61 then some (.iload_n 2, 1) else none) else (bif Nat.beq x 62 then some (.iload 5, 2) else none))) else (bif Nat.blt x 67 then (bif Nat.beq x 64 then some (.if_icmp .eq 7, 3) else none) else (bif Nat.blt x 68 then (bif Nat.beq x 67 then some (.iconst 1, 1) else none) else (bif Nat.beq x 68 then some (.goto 4, 3) else none)))) else (bif Nat.blt x 76 then (bif Nat.blt x 72 then (bif Nat.beq x 71 then some (.iconst 0, 1) else none) else (bif Nat.blt x 73 then (bif Nat.beq x 72 then some (.istore_n 3, 1) else none) else (bif Nat.beq x 73 then some (.iinc 4 1, 3) else none))) else (bif Nat.blt x 79 then (bif Nat.beq x 76 then some (.goto (-69), 3) else none) else (bif Nat.blt x 80 then (bif Nat.beq x 79 then some (.iload_n 2, 1) else none) else (bif Nat.beq x 80 then some (.ireturn, 1) else none))))))
def q_t109 (x : Nat) : Option (Instr × Nat) := bif Nat.blt x 41 then (bif Nat.blt x 16 then (bif Nat.blt x 8 then (bif Nat.blt x 5 then (bif Nat.blt x 1 then (bif Nat.beq x 0 then some (.iconst 1, 1) else none) else (bif Nat.blt x 2 then (bif Nat.beq x 1 then some (.aload_n 0, 1) else none) else (bif Nat.beq x 2 then some (.invokevirtual 41, 3) else none))) else (bif Nat.blt x 6 then (bif Nat.beq x 5 then some (.ishl, 1) else none) else (bif Nat.blt x 7 then (bif Nat.beq x 6 then some (.istore_n 1, 1) else none) else (bif Nat.beq x 7 then some (.iconst 1, 1) else none)))) else (bif Nat.blt x 11 then (bif Nat.blt x 9 then (bif Nat.beq x 8 then some (.istore_n 2, 1) else none) else (bif Nat.blt x 10 then (bif Nat.beq x 9 then some (.iconst 0, 1) else none) else (bif Nat.beq x 10 then some (.istore_n 3, 1) else none))) else (bif Nat.blt x 12 then (bif Nat.beq x 11 then some (.iload_n 2, 1) else none) else (bif Nat.blt x 15 then (bif Nat.beq x 12 then some (.ifCond .eq 71, 3) else none) else (bif Nat.beq x 15 then some (.iload_n 3, 1) else none))))) else (bif Nat.blt x 27 then (bif Nat.blt x 22 then (bif Nat.blt x 18 then (bif Nat.beq x 16 then some (.bipush 8, 2) else none) else (bif Nat.blt x 21 then (bif Nat.beq x 18 then some (.if_icmp .gt 65, 3) else none) else (bif Nat.beq x 21 then some (.iload_n 1, 1) else none))) else (bif Nat.blt x 24 then (bif Nat.beq x 22 then some (.istore 4, 2) else none) else (bif Nat.blt x 25 then (bif Nat.beq x 24 then some (.iconst 1, 1) else none) else (bif Nat.beq x 25 then some (.istore 5, 2) else none)))) else (bif Nat.blt x 33 then (bif Nat.blt x 29 then (bif Nat.beq x 27 then some (.iload 5, 2) else none) else (bif Nat.blt x 30 then (bif Nat.beq x 29 then some (.aload_n 0, 1) else none) else (bif Nat.beq x 30 then some (.getfield 24, 3) else none))) else (bif Nat.blt x 37 then (bif Nat.blt x 36 then (bif Nat.beq x 33 then some (.if_icmp .gt 32, 3) else none) else (bif Nat.beq x 36 then some (.iload_n 1, 1) else none)) else (bif Nat.blt x 38 then (bif Nat.beq x 37 then some (.aload_n 0, 1) else none) else (bif Nat.beq x 38 then some (.getfield 9, 3) else none)))))) else (bif Nat.blt x 59 then (bif Nat.blt x 50 then (bif Nat.blt x 45 then (bif Nat.blt x 43 then (bif Nat.beq x 41 then some (.iload 5, 2) else none) else (bif Nat.blt x 44 then (bif Nat.beq x 43 then some (.iaload, 1) else none) else (bif Nat.beq x 44 then some (.ishr, 1) else none))) else (bif Nat.blt x 46 then (bif Nat.beq x 45 then some (.iconst 1, 1) else none) else (bif Nat.blt x 47 then (bif Nat.beq x 46 then some (.iand, 1) else none) else (bif Nat.beq x 47 then some (.ifCond .eq 12, 3) else none)))) else (bif Nat.blt x 54 then (bif Nat.blt x 51 then (bif Nat.beq x 50 then some (.iload_n 1, 1) else none) else (bif Nat.blt x 52 then (bif Nat.beq x 51 then some (.aload_n 0, 1) else none) else (bif Nat.beq x 52 then some (.iload 5, 2) else none))) else (bif Nat.blt x 57 then (bif Nat.beq x 54 then some (.invokevirtual 45, 3) else none) else (bif Nat.blt x 58 then (bif Nat.beq x 57 then some (.ior, 1) else none) else (bif Nat.beq x 58 then some (.istore_n 1, 1) else none))))) else (bif Nat.blt x 72 then (bif Nat.blt x 66 then (bif Nat.blt x 62 then (bif Nat.beq x 59 then some (.iinc 5 1, 3) else none) else (bif Nat.blt x 65 then (bif Nat.beq x 62 then some (.goto (-35), 3) else none) else (bif Nat.beq x 65 then some (.iload_n 1, 1) else none))) else (bif Nat.blt x 68 then (bif Nat.beq x 66 then some (.iload 4, 2) else none) else (bif Nat.blt x 71 then (bif Nat.beq x 68 then some (.if_icmp .eq 7, 3) else none) else (bif Nat.beq x 71 then some (.iconst 1, 1) else none)))) else (bif Nat.blt x 77 then (bif Nat.blt x 75 then (bif Nat.beq x 72 then some (.goto 4, 3) else none) else (bif Nat.blt x 76 then (bif Nat.beq x 75 then some (.iconst 0, 1) else none) else (bif Nat.beq x 76 then some (.istore_n 2, 1) else none))) else (bif Nat.blt x 83 then (bif Nat.blt x 80 then (bif Nat.beq x 77 then some (.iinc 3 1, 3) else none) else (bif Nat.beq x 80 then some (.goto (-69), 3) else none)) else (bif Nat.blt x 84 then (bif Nat.beq x 83 then some (.iload_n 1, 1) else none) else (bif Nat.beq x 84 then some (.ireturn, 1) else none))))))
def q_t110 (x : Nat) : Option (Instr × Nat) := bif Nat.blt x 8 then (bif Nat.blt x 5 then (bif Nat.blt x 1 then (bif Nat.beq x 0 then some (.aload_n 0, 1) else none) else (bif Nat.blt x 2 then (bif Nat.beq x 1 then some (.iload_n 1, 1) else none) else (bif Nat.beq x 2 then some (.invokevirtual 45, 3) else none))) else (bif Nat.blt x 6 then (bif Nat.beq x 5 then some (.iload_n 2, 1) else none) else (bif Nat.blt x 7 then (bif Nat.beq x 6 then some (.iconst (-1), 1) else none) else (bif Nat.beq x 7 then some (.ixor, 1) else none)))) else (bif Nat.blt x 13 then (bif Nat.blt x 9 then (bif Nat.beq x 8 then some (.iand, 1) else none) else (bif Nat.blt x 12 then (bif Nat.beq x 9 then some (.ifCond .ne 7, 3) else none) else (bif Nat.beq x 12 then some (.iconst 1, 1) else none))) else (bif Nat.blt x 16 then (bif Nat.beq x 13 then some (.goto 4, 3) else none) else (bif Nat.blt x 17 then (bif Nat.beq x 16 then some (.iconst 0, 1) else none) else (bif Nat.beq x 17 then some (.ireturn, 1) else none))))
def q_t111 (x : Nat) : Option (Instr × Nat) := bif Nat.blt x 15 then (bif Nat.blt x 5 then (bif Nat.blt x 2 then (bif Nat.blt x 1 then (bif Nat.beq x 0 then some (.iconst 0, 1) else none) else (bif Nat.beq x 1 then some (.istore_n 2, 1) else none)) else (bif Nat.blt x 3 then (bif Nat.beq x 2 then some (.iconst 0, 1) else none) else (bif Nat.blt x 4 then (bif Nat.beq x 3 then some (.istore_n 3, 1) else none) else (bif Nat.beq x 4 then some (.iload_n 3, 1) else none)))) else (bif Nat.blt x 10 then (bif Nat.blt x 6 then (bif Nat.beq x 5 then some (.aload_n 0, 1) else none) else (bif Nat.blt x 9 then (bif Nat.beq x 6 then some (.getfield 15, 3) else none) else (bif Nat.beq x 9 then some (.iload_n 1, 1) else none))) else (bif Nat.blt x 11 then (bif Nat.beq x 10 then some (.iaload, 1) else none) else (bif Nat.blt x 14 then (bif Nat.beq x 11 then some (.if_icmp .ge 20, 3) else none) else (bif Nat.beq x 14 then some (.iload_n 2, 1) else none))))) else (bif Nat.blt x 23 then (bif Nat.blt x 18 then (bif Nat.blt x 16 then (bif Nat.beq x 15 then some (.iconst 1, 1) else none) else (bif Nat.blt x 17 then (bif Nat.beq x 16 then some (.aload_n 0, 1) else none) else (bif Nat.beq x 17 then some (.iload_n 1, 1) else none))) else (bif Nat.blt x 19 then (bif Nat.beq x 18 then some (.iload_n 3, 1) else none) else (bif Nat.blt x 22 then (bif Nat.beq x 19 then some (.invokevirtual 49, 3) else none) else (bif Nat.beq x 22 then some (.ishl, 1) else none)))) else (bif Nat.blt x 28 then (bif Nat.blt x 24 then (bif Nat.beq x 23 then some (.ior, 1) else none) else (bif Nat.blt x 25 then (bif Nat.beq x 24 then some (.istore_n 2, 1) else none) else (bif Nat.beq x 25 then some (.iinc 3 1, 3) else none))) else (bif Nat.blt x 31 then (bif Nat.beq x 28 then some (.goto (-24), 3) else none) else (bif Nat.blt x 32 then (bif Nat.beq x 31 then some (.iload_n 2, 1) else none) else (bif Nat.beq x 32 then some (.ireturn, 1) else none)))))
def q_t112 (x : Nat) : Option (Instr × Nat) := bif Nat.blt x 2 then (bif Nat.blt x 1 then (bif Nat.beq x 0 then some (.aload_n 0, 1) else none) else (bif Nat.beq x 1 then some (.iconst 0, 1) else none)) else (bif Nat.blt x 5 then (bif Nat.beq x 2 then some (.putfield 9, 3) else none) else (bif Nat.beq x 5 then some (.return_, 1) else none))
def q_t113 (x : Nat) : Option (Instr × Nat) := bif Nat.blt x 22 then (bif Nat.blt x 11 then (bif Nat.blt x 5 then (bif Nat.blt x 1 then (bif Nat.beq x 0 then some (.aload_n 0, 1) else none) else (bif Nat.blt x 2 then (bif Nat.beq x 1 then some (.iconst 1, 1) else none) else (bif Nat.beq x 2 then some (.putfield 9, 3) else none))) else (bif Nat.blt x 7 then (bif Nat.blt x 6 then (bif Nat.beq x 5 then some (.aload_n 0, 1) else none) else (bif Nat.beq x 6 then some (.iconst 0, 1) else none)) else (bif Nat.blt x 10 then (bif Nat.beq x 7 then some (.putfield 15, 3) else none) else (bif Nat.beq x 10 then some (.aload_n 0, 1) else none)))) else (bif Nat.blt x 16 then (bif Nat.blt x 12 then (bif Nat.beq x 11 then some (.iconst 1, 1) else none) else (bif Nat.blt x 15 then (bif Nat.beq x 12 then some (.putfield 19, 3) else none) else (bif Nat.beq x 15 then some (.aload_n 0, 1) else none))) else (bif Nat.blt x 20 then (bif Nat.blt x 19 then (bif Nat.beq x 16 then some (.getfield 25, 3) else none) else (bif Nat.beq x 19 then some (.iconst 0, 1) else none)) else (bif Nat.blt x 21 then (bif Nat.beq x 20 then some (.iconst 0, 1) else none) else (bif Nat.beq x 21 then some (.iastore, 1) else none))))) else (bif Nat.blt x 35 then (bif Nat.blt x 27 then (bif Nat.blt x 23 then (bif Nat.beq x 22 then some (.aload_n 0, 1) else none) else (bif Nat.blt x 24 then (bif Nat.beq x 23 then some (.iconst 0, 1) else none) else (bif Nat.beq x 24 then some (.putfield 22, 3) else none))) else (bif Nat.blt x 31 then (bif Nat.blt x 28 then (bif Nat.beq x 27 then some (.aload_n 0, 1) else none) else (bif Nat.beq x 28 then some (.getfield 55, 3) else none)) else (bif Nat.blt x 32 then (bif Nat.beq x 31 then some (.iconst 0, 1) else none) else (bif Nat.beq x 32 then some (.putfield 59, 3) else none)))) else (bif Nat.blt x 40 then (bif Nat.blt x 36 then (bif Nat.beq x 35 then some (.aload_n 0, 1) else none) else (bif Nat.blt x 37 then (bif Nat.beq x 36 then some (.iload_n 1, 1) else none) else (bif Nat.beq x 37 then some (.putfield 32, 3) else none))) else (bif Nat.blt x 42 then (bif Nat.blt x 41 then (bif Nat.beq x 40 then some (.aload_n 0, 1) else none) else (bif Nat.beq x 41 then some (.iload_n 2, 1) else none)) else (bif Nat.blt x 45 then (bif Nat.beq x 42 then some (.putfield 35, 3) else none) else (bif Nat.beq x 45 then some (.return_, 1) else none)))))
def q_t114 (x : Nat) : Option (Instr × Nat) := bif Nat.blt x 8 then (bif Nat.blt x 4 then (bif Nat.blt x 1 then (bif Nat.beq x 0 then some (.aload_n 0, 1) else none) else (bif Nat.beq x 1 then some (.getfield 25, 3) else none)) else (bif Nat.blt x 5 then (bif Nat.beq x 4 then some (.aload_n 0, 1) else none) else (bif Nat.beq x 5 then some (.getfield 19, 3) else none))) else (bif Nat.blt x 10 then (bif Nat.blt x 9 then (bif Nat.beq x 8 then some (.iconst 1, 1) else none) else (bif Nat.beq x 9 then some (.isub, 1) else none)) else (bif Nat.blt x 11 then (bif Nat.beq x 10 then some (.iaload, 1) else none) else (bif Nat.beq x 11 then some (.ireturn, 1) else none)))
def q_t115 (x : Nat) : Option (Instr × Nat) := bif Nat.blt x 19 then (bif Nat.blt x 8 then (bif Nat.blt x 3 then (bif Nat.blt x 1 then (bif Nat.beq x 0 then some (.iconst 1, 1) else none) else (bif Nat.blt x 2 then (bif Nat.beq x 1 then some (.istore_n 2, 1) else none) else (bif Nat.beq x 2 then some (.iconst 0, 1) else none))) else (bif Nat.blt x 4 then (bif Nat.beq x 3 then some (.istore_n 3, 1) else none) else (bif Nat.blt x 5 then (bif Nat.beq x 4 then some (.iload_n 2, 1) else none) else (bif Nat.beq x 5 then some (.ifCond .eq 33, 3) else none)))) else (bif Nat.blt x 14 then (bif Nat.blt x 9 then (bif Nat.beq x 8 then some (.iload_n 3, 1) else none) else (bif Nat.blt x 11 then (bif Nat.beq x 9 then some (.bipush 60, 2) else none) else (bif Nat.beq x 11 then some (.if_icmp .gt 27, 3) else none))) else (bif Nat.blt x 15 then (bif Nat.beq x 14 then some (.aload_n 0, 1) else none) else (bif Nat.blt x 16 then (bif Nat.beq x 15 then some (.aload_n 0, 1) else none) else (bif Nat.beq x 16 then some (.getfield 46, 3) else none))))) else (bif Nat.blt x 31 then (bif Nat.blt x 24 then (bif Nat.blt x 20 then (bif Nat.beq x 19 then some (.aload_n 0, 1) else none) else (bif Nat.blt x 23 then (bif Nat.beq x 20 then some (.invokevirtual 62, 3) else none) else (bif Nat.beq x 23 then some (.iload_n 1, 1) else none))) else (bif Nat.blt x 27 then (bif Nat.beq x 24 then some (.invokevirtual 66, 3) else none) else (bif Nat.blt x 28 then (bif Nat.beq x 27 then some (.iload_n 1, 1) else none) else (bif Nat.beq x 28 then some (.invokevirtual 72, 3) else none)))) else (bif Nat.blt x 38 then (bif Nat.blt x 32 then (bif Nat.beq x 31 then some (.istore_n 2, 1) else none) else (bif Nat.blt x 35 then (bif Nat.beq x 32 then some (.iinc 3 1, 3) else none) else (bif Nat.beq x 35 then some (.goto (-31), 3) else none))) else (bif Nat.blt x 39 then (bif Nat.beq x 38 then some (.aload_n 0, 1) else none) else (bif Nat.blt x 42 then (bif Nat.beq x 39 then some (.getfield 15, 3) else none) else (bif Nat.beq x 42 then some (.ireturn, 1) else none)))))
def q_t116 (x : Nat) : Option (Instr × Nat) := bif Nat.blt x 33 then (bif Nat.blt x 15 then (bif Nat.blt x 6 then (bif Nat.blt x 4 then (bif Nat.blt x 1 then (bif Nat.beq x 0 then some (.iload_n 1, 1) else none) else (bif Nat.beq x 1 then some (.ifCond .ne 11, 3) else none)) else (bif Nat.blt x 5 then (bif Nat.beq x 4 then some (.aload_n 0, 1) else none) else (bif Nat.beq x 5 then some (.iconst 2, 1) else none))) else (bif Nat.blt x 12 then (bif Nat.blt x 9 then (bif Nat.beq x 6 then some (.putfield 15, 3) else none) else (bif Nat.beq x 9 then some (.goto 53, 3) else none)) else (bif Nat.blt x 13 then (bif Nat.beq x 12 then some (.iload_n 1, 1) else none) else (bif Nat.beq x 13 then some (.bipush 16, 2) else none)))) else (bif Nat.blt x 23 then (bif Nat.blt x 19 then (bif Nat.blt x 18 then (bif Nat.beq x 15 then some (.if_icmp .ne 11, 3) else none) else (bif Nat.beq x 18 then some (.aload_n 0, 1) else none)) else (bif Nat.blt x 20 then (bif Nat.beq x 19 then some (.iconst 1, 1) else none) else (bif Nat.beq x 20 then some (.putfield 15, 3) else none))) else (bif Nat.blt x 27 then (bif Nat.blt x 26 then (bif Nat.beq x 23 then some (.goto 39, 3) else none) else (bif Nat.beq x 26 then some (.iload_n 1, 1) else none)) else (bif Nat.blt x 29 then (bif Nat.beq x 27 then some (.bipush 20, 2) else none) else (bif Nat.blt x 32 then (bif Nat.beq x 29 then some (.if_icmp .lt 15, 3) else none) else (bif Nat.beq x 32 then some (.aload_n 0, 1) else none)))))) else (bif Nat.blt x 49 then (bif Nat.blt x 38 then (bif Nat.blt x 36 then (bif Nat.blt x 34 then (bif Nat.beq x 33 then some (.iload_n 1, 1) else none) else (bif Nat.beq x 34 then some (.bipush 20, 2) else none)) else (bif Nat.blt x 37 then (bif Nat.beq x 36 then some (.isub, 1) else none) else (bif Nat.beq x 37 then some (.iload_n 2, 1) else none))) else (bif Nat.blt x 44 then (bif Nat.blt x 41 then (bif Nat.beq x 38 then some (.invokevirtual 76, 3) else none) else (bif Nat.beq x 41 then some (.goto 21, 3) else none)) else (bif Nat.blt x 45 then (bif Nat.beq x 44 then some (.aload_n 0, 1) else none) else (bif Nat.blt x 46 then (bif Nat.beq x 45 then some (.iload_n 1, 1) else none) else (bif Nat.beq x 46 then some (.invokevirtual 80, 3) else none))))) else (bif Nat.blt x 57 then (bif Nat.blt x 53 then (bif Nat.blt x 50 then (bif Nat.beq x 49 then some (.aload_n 0, 1) else none) else (bif Nat.beq x 50 then some (.getfield 15, 3) else none)) else (bif Nat.blt x 56 then (bif Nat.beq x 53 then some (.ifCond .ne 7, 3) else none) else (bif Nat.beq x 56 then some (.iconst 1, 1) else none))) else (bif Nat.blt x 61 then (bif Nat.blt x 60 then (bif Nat.beq x 57 then some (.goto 4, 3) else none) else (bif Nat.beq x 60 then some (.iconst 0, 1) else none)) else (bif Nat.blt x 62 then (bif Nat.beq x 61 then some (.ireturn, 1) else none) else (bif Nat.blt x 63 then (bif Nat.beq x 62 then some (.iconst 0, 1) else none) else (bif Nat.beq x 63 then some (.ireturn, 1) else none))))))
def q_t117 (x : Nat) : Option (Instr × Nat) := bif Nat.blt x 21 then (bif Nat.blt x 10 then (bif Nat.blt x 5 then (bif Nat.blt x 1 then (bif Nat.beq x 0 then some (.aload_n 0, 1) else none) else (bif Nat.blt x 2 then (bif Nat.beq x 1 then some (.aload_n 0, 1) else none) else (bif Nat.beq x 2 then some (.getfield 19, 3) else none))) else (bif Nat.blt x 6 then (bif Nat.beq x 5 then some (.iconst 1, 1) else none) else (bif Nat.blt x 7 then (bif Nat.beq x 6 then some (.iadd, 1) else none) else (bif Nat.beq x 7 then some (.invokevirtual 84, 3) else none)))) else (bif Nat.blt x 15 then (bif Nat.blt x 13 then (bif Nat.beq x 10 then some (.ifCond .ne 9, 3) else none) else (bif Nat.blt x 14 then (bif Nat.beq x 13 then some (.aload_n 0, 1) else none) else (bif Nat.beq x 14 then some (.iconst 3, 1) else none))) else (bif Nat.blt x 19 then (bif Nat.blt x 18 then (bif Nat.beq x 15 then some (.putfield 15, 3) else none) else (bif Nat.beq x 18 then some (.return_, 1) else none)) else (bif Nat.blt x 20 then (bif Nat.beq x 19 then some (.aload_n 0, 1) else none) else (bif Nat.beq x 20 then some (.iload_n 1, 1) else none))))) else (bif Nat.blt x 36 then (bif Nat.blt x 26 then (bif Nat.blt x 22 then (bif Nat.beq x 21 then some (.aload_n 0, 1) else none) else (bif Nat.blt x 25 then (bif Nat.beq x 22 then some (.getfield 55, 3) else none) else (bif Nat.beq x 25 then some (.iload_n 2, 1) else none))) else (bif Nat.blt x 30 then (bif Nat.blt x 27 then (bif Nat.beq x 26 then some (.aload_n 0, 1) else none) else (bif Nat.beq x 27 then some (.getfield 22, 3) else none)) else (bif Nat.blt x 33 then (bif Nat.beq x 30 then some (.invokevirtual 88, 3) else none) else (bif Nat.beq x 33 then some (.invokevirtual 91, 3) else none)))) else (bif Nat.blt x 41 then (bif Nat.blt x 37 then (bif Nat.beq x 36 then some (.aload_n 0, 1) else none) else (bif Nat.blt x 38 then (bif Nat.beq x 37 then some (.dup, 1) else none) else (bif Nat.beq x 38 then some (.getfield 22, 3) else none))) else (bif Nat.blt x 43 then (bif Nat.blt x 42 then (bif Nat.beq x 41 then some (.iconst 1, 1) else none) else (bif Nat.beq x 42 then some (.iadd, 1) else none)) else (bif Nat.blt x 46 then (bif Nat.beq x 43 then some (.putfield 22, 3) else none) else (bif Nat.beq x 46 then some (.return_, 1) else none)))))
def q_t118 (x : Nat) : Option (Instr × Nat) := bif Nat.blt x 44 then (bif Nat.blt x 21 then (bif Nat.blt x 12 then (bif Nat.blt x 5 then (bif Nat.blt x 1 then (bif Nat.beq x 0 then some (.aload_n 0, 1) else none) else (bif Nat.blt x 4 then (bif Nat.beq x 1 then some (.getfield 19, 3) else none) else (bif Nat.beq x 4 then some (.aload_n 0, 1) else none))) else (bif Nat.blt x 8 then (bif Nat.beq x 5 then some (.getfield 38, 3) else none) else (bif Nat.blt x 11 then (bif Nat.beq x 8 then some (.getfield 94, 3) else none) else (bif Nat.beq x 11 then some (.iload_n 1, 1) else none)))) else (bif Nat.blt x 15 then (bif Nat.blt x 13 then (bif Nat.beq x 12 then some (.iaload, 1) else none) else (bif Nat.blt x 14 then (bif Nat.beq x 13 then some (.isub, 1) else none) else (bif Nat.beq x 14 then some (.istore_n 2, 1) else none))) else (bif Nat.blt x 17 then (bif Nat.blt x 16 then (bif Nat.beq x 15 then some (.aload_n 0, 1) else none) else (bif Nat.beq x 16 then some (.iload_n 2, 1) else none)) else (bif Nat.blt x 18 then (bif Nat.beq x 17 then some (.aload_n 0, 1) else none) else (bif Nat.beq x 18 then some (.getfield 38, 3) else none))))) else (bif Nat.blt x 31 then (bif Nat.blt x 26 then (bif Nat.blt x 24 then (bif Nat.beq x 21 then some (.getfield 99, 3) else none) else (bif Nat.blt x 25 then (bif Nat.beq x 24 then some (.iload_n 1, 1) else none) else (bif Nat.beq x 25 then some (.iaload, 1) else none))) else (bif Nat.blt x 29 then (bif Nat.beq x 26 then some (.invokevirtual 102, 3) else none) else (bif Nat.blt x 30 then (bif Nat.beq x 29 then some (.istore_n 3, 1) else none) else (bif Nat.beq x 30 then some (.iload_n 3, 1) else none)))) else (bif Nat.blt x 36 then (bif Nat.blt x 32 then (bif Nat.beq x 31 then some (.iconst (-1), 1) else none) else (bif Nat.blt x 35 then (bif Nat.beq x 32 then some (.if_icmp .ne 11, 3) else none) else (bif Nat.beq x 35 then some (.aload_n 0, 1) else none))) else (bif Nat.blt x 40 then (bif Nat.blt x 37 then (bif Nat.beq x 36 then some (.iconst 2, 1) else none) else (bif Nat.beq x 37 then some (.putfield 15, 3) else none)) else (bif Nat.blt x 43 then (bif Nat.beq x 40 then some (.goto 52, 3) else none) else (bif Nat.beq x 43 then some (.aload_n 0, 1) else none)))))) else (bif Nat.blt x 67 then (bif Nat.blt x 54 then (bif Nat.blt x 47 then (bif Nat.blt x 45 then (bif Nat.beq x 44 then some (.iload_n 2, 1) else none) else (bif Nat.blt x 46 then (bif Nat.beq x 45 then some (.iconst 1, 1) else none) else (bif Nat.beq x 46 then some (.iadd, 1) else none))) else (bif Nat.blt x 50 then (bif Nat.beq x 47 then some (.invokevirtual 84, 3) else none) else (bif Nat.blt x 53 then (bif Nat.beq x 50 then some (.ifCond .ne 11, 3) else none) else (bif Nat.beq x 53 then some (.aload_n 0, 1) else none)))) else (bif Nat.blt x 61 then (bif Nat.blt x 55 then (bif Nat.beq x 54 then some (.iconst 3, 1) else none) else (bif Nat.blt x 58 then (bif Nat.beq x 55 then some (.putfield 15, 3) else none) else (bif Nat.beq x 58 then some (.goto 34, 3) else none))) else (bif Nat.blt x 65 then (bif Nat.blt x 62 then (bif Nat.beq x 61 then some (.aload_n 0, 1) else none) else (bif Nat.beq x 62 then some (.getfield 55, 3) else none)) else (bif Nat.blt x 66 then (bif Nat.beq x 65 then some (.iload_n 1, 1) else none) else (bif Nat.beq x 66 then some (.aload_n 0, 1) else none))))) else (bif Nat.blt x 81 then (bif Nat.blt x 72 then (bif Nat.blt x 70 then (bif Nat.beq x 67 then some (.getfield 29, 3) else none) else (bif Nat.blt x 71 then (bif Nat.beq x 70 then some (.iload_n 2, 1) else none) else (bif Nat.beq x 71 then some (.aload_n 0, 1) else none))) else (bif Nat.blt x 78 then (bif Nat.blt x 75 then (bif Nat.beq x 72 then some (.getfield 22, 3) else none) else (bif Nat.beq x 75 then some (.invokevirtual 105, 3) else none)) else (bif Nat.blt x 80 then (bif Nat.beq x 78 then some (.istore 4, 2) else none) else (bif Nat.beq x 80 then some (.aload_n 0, 1) else none)))) else (bif Nat.blt x 86 then (bif Nat.blt x 82 then (bif Nat.beq x 81 then some (.iload_n 2, 1) else none) else (bif Nat.blt x 85 then (bif Nat.beq x 82 then some (.putfield 19, 3) else none) else (bif Nat.beq x 85 then some (.aload_n 0, 1) else none))) else (bif Nat.blt x 89 then (bif Nat.blt x 87 then (bif Nat.beq x 86 then some (.iload_n 3, 1) else none) else (bif Nat.beq x 87 then some (.iload 4, 2) else none)) else (bif Nat.blt x 92 then (bif Nat.beq x 89 then some (.invokevirtual 91, 3) else none) else (bif Nat.beq x 92 then some (.return_, 1) else none))))))
def q_t119 (x : Nat) : Option (Instr × Nat) := bif Nat.blt x 14 then (bif Nat.blt x 6 then (bif Nat.blt x 2 then (bif Nat.blt x 1 then (bif Nat.beq x 0 then some (.iload_n 1, 1) else none) else (bif Nat.beq x 1 then some (.iconst 1, 1) else none)) else (bif Nat.blt x 5 then (bif Nat.beq x 2 then some (.if_icmp .ge 7, 3) else none) else (bif Nat.beq x 5 then some (.iconst (-1), 1) else none))) else (bif Nat.blt x 10 then (bif Nat.blt x 9 then (bif Nat.beq x 6 then some (.goto 19, 3) else none) else (bif Nat.beq x 9 then some (.aload_n 0, 1) else none)) else (bif Nat.blt x 13 then (bif Nat.beq x 10 then some (.getfield 42, 3) else none) else (bif Nat.beq x 13 then some (.aload_n 0, 1) else none)))) else (bif Nat.blt x 20 then (bif Nat.blt x 18 then (bif Nat.blt x 17 then (bif Nat.beq x 14 then some (.getfield 25, 3) else none) else (bif Nat.beq x 17 then some (.iload_n 1, 1) else none)) else (bif Nat.blt x 19 then (bif Nat.beq x 18 then some (.iconst 1, 1) else none) else (bif Nat.beq x 19 then some (.isub, 1) else none))) else (bif Nat.blt x 22 then (bif Nat.blt x 21 then (bif Nat.beq x 20 then some (.iaload, 1) else none) else (bif Nat.beq x 21 then some (.iload_n 2, 1) else none)) else (bif Nat.blt x 25 then (bif Nat.beq x 22 then some (.invokevirtual 109, 3) else none) else (bif Nat.beq x 25 then some (.ireturn, 1) else none))))
def q_t120 (x : Nat) : Option (Instr × Nat) := bif Nat.blt x 15 then (bif Nat.blt x 5 then (bif Nat.blt x 1 then (bif Nat.beq x 0 then some (.iload_n 1, 1) else none) else (bif Nat.blt x 2 then (bif Nat.beq x 1 then some (.aload_n 0, 1) else none) else (bif Nat.beq x 2 then some (.getfield 32, 3) else none))) else (bif Nat.blt x 9 then (bif Nat.blt x 8 then (bif Nat.beq x 5 then some (.if_icmp .gt 21, 3) else none) else (bif Nat.beq x 8 then some (.aload_n 0, 1) else none)) else (bif Nat.blt x 12 then (bif Nat.beq x 9 then some (.getfield 55, 3) else none) else (bif Nat.beq x 12 then some (.getfield 59, 3) else none)))) else (bif Nat.blt x 22 then (bif Nat.blt x 16 then (bif Nat.beq x 15 then some (.aload_n 0, 1) else none) else (bif Nat.blt x 19 then (bif Nat.beq x 16 then some (.getfield 35, 3) else none) else (bif Nat.beq x 19 then some (.if_icmp .ge 7, 3) else none))) else (bif Nat.blt x 26 then (bif Nat.blt x 23 then (bif Nat.beq x 22 then some (.iconst 1, 1) else none) else (bif Nat.beq x 23 then some (.goto 4, 3) else none)) else (bif Nat.blt x 27 then (bif Nat.beq x 26 then some (.iconst 0, 1) else none) else (bif Nat.beq x 27 then some (.ireturn, 1) else none))))
def q_t121 (x : Nat) : Option (Instr × Nat) := bif Nat.blt x 15 then (bif Nat.blt x 8 then (bif Nat.blt x 4 then (bif Nat.blt x 1 then (bif Nat.beq x 0 then some (.aload_n 0, 1) else none) else (bif Nat.beq x 1 then some (.getfield 25, 3) else none)) else (bif Nat.blt x 5 then (bif Nat.beq x 4 then some (.aload_n 0, 1) else none) else (bif Nat.beq x 5 then some (.getfield 19, 3) else none))) else (bif Nat.blt x 10 then (bif Nat.blt x 9 then (bif Nat.beq x 8 then some (.iload_n 1, 1) else none) else (bif Nat.beq x 9 then some (.iastore, 1) else none)) else (bif Nat.blt x 11 then (bif Nat.beq x 10 then some (.aload_n 0, 1) else none) else (bif Nat.blt x 14 then (bif Nat.beq x 11 then some (.getfield 29, 3) else none) else (bif Nat.beq x 14 then some (.aload_n 0, 1) else none))))) else (bif Nat.blt x 22 then (bif Nat.blt x 19 then (bif Nat.blt x 18 then (bif Nat.beq x 15 then some (.getfield 19, 3) else none) else (bif Nat.beq x 18 then some (.iload_n 2, 1) else none)) else (bif Nat.blt x 20 then (bif Nat.beq x 19 then some (.iastore, 1) else none) else (bif Nat.blt x 21 then (bif Nat.beq x 20 then some (.aload_n 0, 1) else none) else (bif Nat.beq x 21 then some (.dup, 1) else none)))) else (bif Nat.blt x 26 then (bif Nat.blt x 25 then (bif Nat.beq x 22 then some (.getfield 19, 3) else none) else (bif Nat.beq x 25 then some (.iconst 1, 1) else none)) else (bif Nat.blt x 27 then (bif Nat.beq x 26 then some (.iadd, 1) else none) else (bif Nat.blt x 30 then (bif Nat.beq x 27 then some (.putfield 19, 3) else none) else (bif Nat.beq x 30 then some (.return_, 1) else none)))))
def q_t122 (x : Nat) : Option (Instr × Nat) := bif Nat.blt x 27 then (bif Nat.blt x 13 then (bif Nat.blt x 5 then (bif Nat.blt x 1 then (bif Nat.beq x 0 then some (.aload_n 0, 1) else none) else (bif Nat.blt x 4 then (bif Nat.beq x 1 then some (.invokevirtual 36, 3) else none) else (bif Nat.beq x 4 then some (.aload_n 0, 1) else none))) else (bif Nat.blt x 9 then (bif Nat.blt x 8 then (bif Nat.beq x 5 then some (.invokevirtual 39, 3) else none) else (bif Nat.beq x 8 then some (.istore_n 1, 1) else none)) else (bif Nat.blt x 10 then (bif Nat.beq x 9 then some (.iload_n 1, 1) else none) else (bif Nat.beq x 10 then some (.ifCond .ne 8, 3) else none)))) else (bif Nat.blt x 19 then (bif Nat.blt x 17 then (bif Nat.blt x 14 then (bif Nat.beq x 13 then some (.aload_n 0, 1) else none) else (bif Nat.beq x 14 then some (.invokevirtual 43, 3) else none)) else (bif Nat.blt x 18 then (bif Nat.beq x 17 then some (.istore_n 1, 1) else none) else (bif Nat.beq x 18 then some (.iload_n 1, 1) else none))) else (bif Nat.blt x 23 then (bif Nat.blt x 22 then (bif Nat.beq x 19 then some (.ifCond .ne 19, 3) else none) else (bif Nat.beq x 22 then some (.aload_n 0, 1) else none)) else (bif Nat.blt x 24 then (bif Nat.beq x 23 then some (.aload_n 0, 1) else none) else (bif Nat.beq x 24 then some (.getfield 32, 3) else none))))) else (bif Nat.blt x 43 then (bif Nat.blt x 37 then (bif Nat.blt x 32 then (bif Nat.blt x 29 then (bif Nat.beq x 27 then some (.ldc 46, 2) else none) else (bif Nat.beq x 29 then some (.invokevirtual 47, 3) else none)) else (bif Nat.blt x 34 then (bif Nat.beq x 32 then some (.bipush 6, 2) else none) else (bif Nat.beq x 34 then some (.invokevirtual 53, 3) else none))) else (bif Nat.blt x 39 then (bif Nat.blt x 38 then (bif Nat.beq x 37 then some (.istore_n 1, 1) else none) else (bif Nat.beq x 38 then some (.iload_n 1, 1) else none)) else (bif Nat.blt x 42 then (bif Nat.beq x 39 then some (.ifCond .ne 17, 3) else none) else (bif Nat.beq x 42 then some (.aload_n 0, 1) else none)))) else (bif Nat.blt x 52 then (bif Nat.blt x 47 then (bif Nat.blt x 44 then (bif Nat.beq x 43 then some (.aload_n 0, 1) else none) else (bif Nat.beq x 44 then some (.getfield 32, 3) else none)) else (bif Nat.blt x 50 then (bif Nat.beq x 47 then some (.invokevirtual 57, 3) else none) else (bif Nat.beq x 50 then some (.bipush 7, 2) else none))) else (bif Nat.blt x 56 then (bif Nat.blt x 55 then (bif Nat.beq x 52 then some (.invokevirtual 53, 3) else none) else (bif Nat.beq x 55 then some (.istore_n 1, 1) else none)) else (bif Nat.blt x 57 then (bif Nat.beq x 56 then some (.iload_n 1, 1) else none) else (bif Nat.beq x 57 then some (.ireturn, 1) else none)))))
def q_t123 (x : Nat) : Option (Instr × Nat) := bif Nat.blt x 15 then (bif Nat.blt x 7 then (bif Nat.blt x 1 then (bif Nat.beq x 0 then some (.aload_n 0, 1) else none) else (bif Nat.blt x 4 then (bif Nat.beq x 1 then some (.getfield 32, 3) else none) else (bif Nat.beq x 4 then some (.invokevirtual 60, 3) else none))) else (bif Nat.blt x 11 then (bif Nat.blt x 8 then (bif Nat.beq x 7 then some (.aload_n 0, 1) else none) else (bif Nat.beq x 8 then some (.getfield 19, 3) else none)) else (bif Nat.blt x 12 then (bif Nat.beq x 11 then some (.iconst (-1), 1) else none) else (bif Nat.beq x 12 then some (.invokestatic 61, 3) else none)))) else (bif Nat.blt x 20 then (bif Nat.blt x 16 then (bif Nat.beq x 15 then some (.aload_n 0, 1) else none) else (bif Nat.blt x 17 then (bif Nat.beq x 16 then some (.iconst 0, 1) else none) else (bif Nat.beq x 17 then some (.putfield 22, 3) else none))) else (bif Nat.blt x 22 then (bif Nat.blt x 21 then (bif Nat.beq x 20 then some (.aload_n 0, 1) else none) else (bif Nat.beq x 21 then some (.iconst (-1), 1) else none)) else (bif Nat.blt x 25 then (bif Nat.beq x 22 then some (.putfield 9, 3) else none) else (bif Nat.beq x 25 then some (.return_, 1) else none))))
def q_t124 (x : Nat) : Option (Instr × Nat) := bif Nat.blt x 46 then (bif Nat.blt x 23 then (bif Nat.blt x 10 then (bif Nat.blt x 3 then (bif Nat.blt x 1 then (bif Nat.beq x 0 then some (.iconst 0, 1) else none) else (bif Nat.blt x 2 then (bif Nat.beq x 1 then some (.istore_n 1, 1) else none) else (bif Nat.beq x 2 then some (.iload_n 1, 1) else none))) else (bif Nat.blt x 4 then (bif Nat.beq x 3 then some (.aload_n 0, 1) else none) else (bif Nat.blt x 7 then (bif Nat.beq x 4 then some (.getfield 28, 3) else none) else (bif Nat.beq x 7 then some (.getfield 67, 3) else none)))) else (bif Nat.blt x 17 then (bif Nat.blt x 13 then (bif Nat.beq x 10 then some (.if_icmp .ge 47, 3) else none) else (bif Nat.blt x 14 then (bif Nat.beq x 13 then some (.aload_n 0, 1) else none) else (bif Nat.beq x 14 then some (.getfield 28, 3) else none))) else (bif Nat.blt x 21 then (bif Nat.blt x 20 then (bif Nat.beq x 17 then some (.getfield 72, 3) else none) else (bif Nat.beq x 20 then some (.iload_n 1, 1) else none)) else (bif Nat.blt x 22 then (bif Nat.beq x 21 then some (.caload, 1) else none) else (bif Nat.beq x 22 then some (.istore_n 2, 1) else none))))) else (bif Nat.blt x 35 then (bif Nat.blt x 29 then (bif Nat.blt x 24 then (bif Nat.beq x 23 then some (.iload_n 2, 1) else none) else (bif Nat.blt x 26 then (bif Nat.beq x 24 then some (.bipush 32, 2) else none) else (bif Nat.beq x 26 then some (.if_icmp .ne 7, 3) else none))) else (bif Nat.blt x 33 then (bif Nat.blt x 30 then (bif Nat.beq x 29 then some (.iconst 0, 1) else none) else (bif Nat.beq x 30 then some (.goto 9, 3) else none)) else (bif Nat.blt x 34 then (bif Nat.beq x 33 then some (.aload_n 0, 1) else none) else (bif Nat.beq x 34 then some (.iload_n 2, 1) else none)))) else (bif Nat.blt x 40 then (bif Nat.blt x 36 then (bif Nat.beq x 35 then some (.iload_n 1, 1) else none) else (bif Nat.blt x 39 then (bif Nat.beq x 36 then some (.invokevirtual 76, 3) else none) else (bif Nat.beq x 39 then some (.istore_n 3, 1) else none))) else (bif Nat.blt x 44 then (bif Nat.blt x 41 then (bif Nat.beq x 40 then some (.iload_n 3, 1) else none) else (bif Nat.beq x 41 then some (.ifCond .eq 10, 3) else none)) else (bif Nat.blt x 45 then (bif Nat.beq x 44 then some (.aload_n 0, 1) else none) else (bif Nat.beq x 45 then some (.iload_n 1, 1) else none)))))) else (bif Nat.blt x 76 then (bif Nat.blt x 61 then (bif Nat.blt x 51 then (bif Nat.blt x 49 then (bif Nat.beq x 46 then some (.putfield 9, 3) else none) else (bif Nat.blt x 50 then (bif Nat.beq x 49 then some (.iload_n 3, 1) else none) else (bif Nat.beq x 50 then some (.ireturn, 1) else none))) else (bif Nat.blt x 57 then (bif Nat.blt x 54 then (bif Nat.beq x 51 then some (.iinc 1 1, 3) else none) else (bif Nat.beq x 54 then some (.goto (-52), 3) else none)) else (bif Nat.blt x 58 then (bif Nat.beq x 57 then some (.aload_n 0, 1) else none) else (bif Nat.beq x 58 then some (.getfield 22, 3) else none)))) else (bif Nat.blt x 68 then (bif Nat.blt x 64 then (bif Nat.beq x 61 then some (.ifCond .ne 13, 3) else none) else (bif Nat.blt x 65 then (bif Nat.beq x 64 then some (.aload_n 0, 1) else none) else (bif Nat.beq x 65 then some (.getfield 32, 3) else none))) else (bif Nat.blt x 74 then (bif Nat.blt x 71 then (bif Nat.beq x 68 then some (.getfield 80, 3) else none) else (bif Nat.beq x 71 then some (.ifCond .ne 16, 3) else none)) else (bif Nat.blt x 75 then (bif Nat.beq x 74 then some (.aload_n 0, 1) else none) else (bif Nat.beq x 75 then some (.aload_n 0, 1) else none))))) else (bif Nat.blt x 91 then (bif Nat.blt x 85 then (bif Nat.blt x 79 then (bif Nat.beq x 76 then some (.getfield 28, 3) else none) else (bif Nat.blt x 82 then (bif Nat.beq x 79 then some (.getfield 67, 3) else none) else (bif Nat.beq x 82 then some (.putfield 9, 3) else none))) else (bif Nat.blt x 87 then (bif Nat.blt x 86 then (bif Nat.beq x 85 then some (.iconst 1, 1) else none) else (bif Nat.beq x 86 then some (.ireturn, 1) else none)) else (bif Nat.blt x 88 then (bif Nat.beq x 87 then some (.aload_n 0, 1) else none) else (bif Nat.beq x 88 then some (.getfield 32, 3) else none)))) else (bif Nat.blt x 96 then (bif Nat.blt x 92 then (bif Nat.beq x 91 then some (.iconst 0, 1) else none) else (bif Nat.blt x 93 then (bif Nat.beq x 92 then some (.aload_n 0, 1) else none) else (bif Nat.beq x 93 then some (.getfield 32, 3) else none))) else (bif Nat.blt x 102 then (bif Nat.blt x 99 then (bif Nat.beq x 96 then some (.invokevirtual 83, 3) else none) else (bif Nat.beq x 99 then some (.invokevirtual 86, 3) else none)) else (bif Nat.blt x 103 then (bif Nat.beq x 102 then some (.iconst 0, 1) else none) else (bif Nat.beq x 103 then some (.ireturn, 1) else none))))))
def q_t125 (x : Nat) : Option (Instr × Nat) := bif Nat.blt x 45 then (bif Nat.blt x 34 then (bif Nat.blt x 4 then (bif Nat.blt x 1 then (bif Nat.beq x 0 then some (.aload_n 0, 1) else none) else (bif Nat.beq x 1 then some (.getfield 22, 3) else none)) else (bif Nat.blt x 32 then (bif Nat.beq x 4 then some (.lookupswitch 53 #[(0, 28), (1, 38)], 28) else none) else (bif Nat.blt x 33 then (bif Nat.beq x 32 then some (.aload_n 0, 1) else none) else (bif Nat.beq x 33 then some (.iload_n 1, 1) else none)))) else (bif Nat.blt x 41 then (bif Nat.blt x 37 then (bif Nat.beq x 34 then some (.invokestatic 90, 3) else none) else (bif Nat.blt x 38 then (bif Nat.beq x 37 then some (.iload_n 2, 1) else none) else (bif Nat.beq x 38 then some (.invokevirtual 94, 3) else none))) else (bif Nat.blt x 42 then (bif Nat.beq x 41 then some (.ireturn, 1) else none) else (bif Nat.blt x 43 then (bif Nat.beq x 42 then some (.iload_n 1, 1) else none) else (bif Nat.beq x 43 then some (.bipush 58, 2) else none))))) else (bif Nat.blt x 56 then (bif Nat.blt x 49 then (bif Nat.blt x 48 then (bif Nat.beq x 45 then some (.if_icmp .ne 10, 3) else none) else (bif Nat.beq x 48 then some (.aload_n 0, 1) else none)) else (bif Nat.blt x 52 then (bif Nat.beq x 49 then some (.invokevirtual 97, 3) else none) else (bif Nat.blt x 55 then (bif Nat.beq x 52 then some (.goto 4, 3) else none) else (bif Nat.beq x 55 then some (.iconst 1, 1) else none)))) else (bif Nat.blt x 59 then (bif Nat.blt x 57 then (bif Nat.beq x 56 then some (.ireturn, 1) else none) else (bif Nat.blt x 58 then (bif Nat.beq x 57 then some (.aload_n 0, 1) else none) else (bif Nat.beq x 58 then some (.iload_n 1, 1) else none))) else (bif Nat.blt x 60 then (bif Nat.beq x 59 then some (.iload_n 2, 1) else none) else (bif Nat.blt x 63 then (bif Nat.beq x 60 then some (.invokevirtual 100, 3) else none) else (bif Nat.beq x 63 then some (.ireturn, 1) else none)))))
def q_t126 (x : Nat) : Option (Instr × Nat) := bif Nat.blt x 25 then (bif Nat.blt x 12 then (bif Nat.blt x 5 then (bif Nat.blt x 1 then (bif Nat.beq x 0 then some (.iload_n 1, 1) else none) else (bif Nat.blt x 2 then (bif Nat.beq x 1 then some (.iconst (-1), 1) else none) else (bif Nat.beq x 2 then some (.if_icmp .eq 9, 3) else none))) else (bif Nat.blt x 8 then (bif Nat.blt x 6 then (bif Nat.beq x 5 then some (.iload_n 1, 1) else none) else (bif Nat.beq x 6 then some (.bipush 8, 2) else none)) else (bif Nat.blt x 11 then (bif Nat.beq x 8 then some (.if_icmp .lt 5, 3) else none) else (bif Nat.beq x 11 then some (.iconst 1, 1) else none)))) else (bif Nat.blt x 17 then (bif Nat.blt x 13 then (bif Nat.beq x 12 then some (.ireturn, 1) else none) else (bif Nat.blt x 14 then (bif Nat.beq x 13 then some (.aload_n 0, 1) else none) else (bif Nat.beq x 14 then some (.getfield 32, 3) else none))) else (bif Nat.blt x 21 then (bif Nat.blt x 18 then (bif Nat.beq x 17 then some (.iload_n 1, 1) else none) else (bif Nat.beq x 18 then some (.invokevirtual 103, 3) else none)) else (bif Nat.blt x 24 then (bif Nat.beq x 21 then some (.ifCond .eq 5, 3) else none) else (bif Nat.beq x 24 then some (.iconst 2, 1) else none))))) else (bif Nat.blt x 36 then (bif Nat.blt x 28 then (bif Nat.blt x 26 then (bif Nat.beq x 25 then some (.ireturn, 1) else none) else (bif Nat.blt x 27 then (bif Nat.beq x 26 then some (.aload_n 0, 1) else none) else (bif Nat.beq x 27 then some (.iload_n 1, 1) else none))) else (bif Nat.blt x 32 then (bif Nat.blt x 31 then (bif Nat.beq x 28 then some (.putfield 25, 3) else none) else (bif Nat.beq x 31 then some (.aload_n 0, 1) else none)) else (bif Nat.blt x 35 then (bif Nat.beq x 32 then some (.getfield 15, 3) else none) else (bif Nat.beq x 35 then some (.iload_n 1, 1) else none)))) else (bif Nat.blt x 39 then (bif Nat.blt x 37 then (bif Nat.beq x 36 then some (.iload_n 2, 1) else none) else (bif Nat.blt x 38 then (bif Nat.beq x 37 then some (.iastore, 1) else none) else (bif Nat.beq x 38 then some (.aload_n 0, 1) else none))) else (bif Nat.blt x 43 then (bif Nat.blt x 40 then (bif Nat.beq x 39 then some (.iconst 1, 1) else none) else (bif Nat.beq x 40 then some (.putfield 22, 3) else none)) else (bif Nat.blt x 44 then (bif Nat.beq x 43 then some (.iconst 0, 1) else none) else (bif Nat.beq x 44 then some (.ireturn, 1) else none)))))
def q_t127 (x : Nat) : Option (Instr × Nat) := bif Nat.blt x 16 then (bif Nat.blt x 10 then (bif Nat.blt x 4 then (bif Nat.blt x 1 then (bif Nat.beq x 0 then some (.aload_n 0, 1) else none) else (bif Nat.beq x 1 then some (.getfield 32, 3) else none)) else (bif Nat.blt x 7 then (bif Nat.beq x 4 then some (.invokevirtual 107, 3) else none) else (bif Nat.beq x 7 then some (.ifCond .eq 5, 3) else none))) else (bif Nat.blt x 12 then (bif Nat.blt x 11 then (bif Nat.beq x 10 then some (.iconst 4, 1) else none) else (bif Nat.beq x 11 then some (.ireturn, 1) else none)) else (bif Nat.blt x 13 then (bif Nat.beq x 12 then some (.aload_n 0, 1) else none) else (bif Nat.beq x 13 then some (.getfield 32, 3) else none)))) else (bif Nat.blt x 24 then (bif Nat.blt x 20 then (bif Nat.blt x 17 then (bif Nat.beq x 16 then some (.aload_n 0, 1) else none) else (bif Nat.beq x 17 then some (.getfield 25, 3) else none)) else (bif Nat.blt x 23 then (bif Nat.beq x 20 then some (.invokevirtual 111, 3) else none) else (bif Nat.beq x 23 then some (.aload_n 0, 1) else none))) else (bif Nat.blt x 28 then (bif Nat.blt x 25 then (bif Nat.beq x 24 then some (.iconst 2, 1) else none) else (bif Nat.beq x 25 then some (.putfield 22, 3) else none)) else (bif Nat.blt x 29 then (bif Nat.beq x 28 then some (.iconst 0, 1) else none) else (bif Nat.beq x 29 then some (.ireturn, 1) else none))))
def q_t128 (x : Nat) : Option (Instr × Nat) := bif Nat.blt x 23 then (bif Nat.blt x 11 then (bif Nat.blt x 6 then (bif Nat.blt x 1 then (bif Nat.beq x 0 then some (.iload_n 1, 1) else none) else (bif Nat.blt x 3 then (bif Nat.beq x 1 then some (.bipush 124, 2) else none) else (bif Nat.beq x 3 then some (.if_icmp .ne 8, 3) else none))) else (bif Nat.blt x 7 then (bif Nat.beq x 6 then some (.aload_n 0, 1) else none) else (bif Nat.blt x 10 then (bif Nat.beq x 7 then some (.invokevirtual 97, 3) else none) else (bif Nat.beq x 10 then some (.ireturn, 1) else none)))) else (bif Nat.blt x 17 then (bif Nat.blt x 12 then (bif Nat.beq x 11 then some (.iload_n 1, 1) else none) else (bif Nat.blt x 14 then (bif Nat.beq x 12 then some (.bipush 59, 2) else none) else (bif Nat.beq x 14 then some (.if_icmp .ne 10, 3) else none))) else (bif Nat.blt x 19 then (bif Nat.blt x 18 then (bif Nat.beq x 17 then some (.aload_n 0, 1) else none) else (bif Nat.beq x 18 then some (.iconst 0, 1) else none)) else (bif Nat.blt x 22 then (bif Nat.beq x 19 then some (.putfield 22, 3) else none) else (bif Nat.beq x 22 then some (.iconst 0, 1) else none))))) else (bif Nat.blt x 34 then (bif Nat.blt x 28 then (bif Nat.blt x 24 then (bif Nat.beq x 23 then some (.ireturn, 1) else none) else (bif Nat.blt x 25 then (bif Nat.beq x 24 then some (.iload_n 1, 1) else none) else (bif Nat.beq x 25 then some (.invokestatic 90, 3) else none))) else (bif Nat.blt x 30 then (bif Nat.blt x 29 then (bif Nat.beq x 28 then some (.istore_n 3, 1) else none) else (bif Nat.beq x 29 then some (.iload_n 3, 1) else none)) else (bif Nat.blt x 31 then (bif Nat.beq x 30 then some (.iconst (-1), 1) else none) else (bif Nat.beq x 31 then some (.if_icmp .ne 7, 3) else none)))) else (bif Nat.blt x 39 then (bif Nat.blt x 35 then (bif Nat.beq x 34 then some (.iconst 1, 1) else none) else (bif Nat.blt x 38 then (bif Nat.beq x 35 then some (.goto 9, 3) else none) else (bif Nat.beq x 38 then some (.aload_n 0, 1) else none))) else (bif Nat.blt x 41 then (bif Nat.blt x 40 then (bif Nat.beq x 39 then some (.iload_n 3, 1) else none) else (bif Nat.beq x 40 then some (.iload_n 2, 1) else none)) else (bif Nat.blt x 44 then (bif Nat.beq x 41 then some (.invokevirtual 115, 3) else none) else (bif Nat.beq x 44 then some (.ireturn, 1) else none)))))
def q_t129 (x : Nat) : Option (Instr × Nat) := bif Nat.blt x 33 then (bif Nat.blt x 16 then (bif Nat.blt x 8 then (bif Nat.blt x 4 then (bif Nat.blt x 1 then (bif Nat.beq x 0 then some (.aload_n 0, 1) else none) else (bif Nat.beq x 1 then some (.getfield 32, 3) else none)) else (bif Nat.blt x 7 then (bif Nat.beq x 4 then some (.getfield 118, 3) else none) else (bif Nat.beq x 7 then some (.aload_n 0, 1) else none))) else (bif Nat.blt x 14 then (bif Nat.blt x 11 then (bif Nat.beq x 8 then some (.getfield 32, 3) else none) else (bif Nat.beq x 11 then some (.getfield 80, 3) else none)) else (bif Nat.blt x 15 then (bif Nat.beq x 14 then some (.iaload, 1) else none) else (bif Nat.beq x 15 then some (.iconst 4, 1) else none)))) else (bif Nat.blt x 22 then (bif Nat.blt x 20 then (bif Nat.blt x 19 then (bif Nat.beq x 16 then some (.if_icmp .ne 5, 3) else none) else (bif Nat.beq x 19 then some (.iconst 3, 1) else none)) else (bif Nat.blt x 21 then (bif Nat.beq x 20 then some (.ireturn, 1) else none) else (bif Nat.beq x 21 then some (.aload_n 0, 1) else none))) else (bif Nat.blt x 26 then (bif Nat.blt x 25 then (bif Nat.beq x 22 then some (.getfield 32, 3) else none) else (bif Nat.beq x 25 then some (.aload_n 0, 1) else none)) else (bif Nat.blt x 29 then (bif Nat.beq x 26 then some (.getfield 32, 3) else none) else (bif Nat.blt x 32 then (bif Nat.beq x 29 then some (.getfield 80, 3) else none) else (bif Nat.beq x 32 then some (.iload_n 1, 1) else none)))))) else (bif Nat.blt x 48 then (bif Nat.blt x 42 then (bif Nat.blt x 37 then (bif Nat.blt x 36 then (bif Nat.beq x 33 then some (.invokevirtual 86, 3) else none) else (bif Nat.beq x 36 then some (.iload_n 1, 1) else none)) else (bif Nat.blt x 39 then (bif Nat.beq x 37 then some (.bipush 8, 2) else none) else (bif Nat.beq x 39 then some (.if_icmp .ge 20, 3) else none))) else (bif Nat.blt x 46 then (bif Nat.blt x 43 then (bif Nat.beq x 42 then some (.aload_n 0, 1) else none) else (bif Nat.beq x 43 then some (.getfield 19, 3) else none)) else (bif Nat.blt x 47 then (bif Nat.beq x 46 then some (.iload_n 1, 1) else none) else (bif Nat.beq x 47 then some (.iaload, 1) else none)))) else (bif Nat.blt x 56 then (bif Nat.blt x 52 then (bif Nat.blt x 49 then (bif Nat.beq x 48 then some (.iconst (-1), 1) else none) else (bif Nat.beq x 49 then some (.if_icmp .ne 10, 3) else none)) else (bif Nat.blt x 53 then (bif Nat.beq x 52 then some (.aload_n 0, 1) else none) else (bif Nat.beq x 53 then some (.getfield 19, 3) else none))) else (bif Nat.blt x 58 then (bif Nat.blt x 57 then (bif Nat.beq x 56 then some (.iload_n 1, 1) else none) else (bif Nat.beq x 57 then some (.iload_n 2, 1) else none)) else (bif Nat.blt x 59 then (bif Nat.beq x 58 then some (.iastore, 1) else none) else (bif Nat.blt x 60 then (bif Nat.beq x 59 then some (.iconst 0, 1) else none) else (bif Nat.beq x 60 then some (.ireturn, 1) else none))))))
def q_t130 (x : Nat) : Option (Instr × Nat) := bif Nat.blt x 32 then (bif Nat.blt x 14 then (bif Nat.blt x 5 then (bif Nat.blt x 2 then (bif Nat.blt x 1 then (bif Nat.beq x 0 then some (.iconst 0, 1) else none) else (bif Nat.beq x 1 then some (.istore_n 1, 1) else none)) else (bif Nat.blt x 3 then (bif Nat.beq x 2 then some (.iload_n 1, 1) else none) else (bif Nat.beq x 3 then some (.bipush 8, 2) else none))) else (bif Nat.blt x 9 then (bif Nat.blt x 8 then (bif Nat.beq x 5 then some (.if_icmp .ge 53, 3) else none) else (bif Nat.beq x 8 then some (.aload_n 0, 1) else none)) else (bif Nat.blt x 12 then (bif Nat.beq x 9 then some (.getfield 19, 3) else none) else (bif Nat.blt x 13 then (bif Nat.beq x 12 then some (.iload_n 1, 1) else none) else (bif Nat.beq x 13 then some (.iaload, 1) else none))))) else (bif Nat.blt x 21 then (bif Nat.blt x 16 then (bif Nat.blt x 15 then (bif Nat.beq x 14 then some (.istore_n 2, 1) else none) else (bif Nat.beq x 15 then some (.iload_n 2, 1) else none)) else (bif Nat.blt x 17 then (bif Nat.beq x 16 then some (.iconst (-1), 1) else none) else (bif Nat.blt x 20 then (bif Nat.beq x 17 then some (.if_icmp .eq 35, 3) else none) else (bif Nat.beq x 20 then some (.aload_n 0, 1) else none)))) else (bif Nat.blt x 25 then (bif Nat.blt x 24 then (bif Nat.beq x 21 then some (.getfield 32, 3) else none) else (bif Nat.beq x 24 then some (.iload_n 1, 1) else none)) else (bif Nat.blt x 28 then (bif Nat.beq x 25 then some (.invokevirtual 103, 3) else none) else (bif Nat.blt x 31 then (bif Nat.beq x 28 then some (.ifCond .ne 24, 3) else none) else (bif Nat.beq x 31 then some (.aload_n 0, 1) else none)))))) else (bif Nat.blt x 52 then (bif Nat.blt x 41 then (bif Nat.blt x 36 then (bif Nat.blt x 35 then (bif Nat.beq x 32 then some (.getfield 9, 3) else none) else (bif Nat.beq x 35 then some (.iconst (-1), 1) else none)) else (bif Nat.blt x 39 then (bif Nat.beq x 36 then some (.if_icmp .eq 11, 3) else none) else (bif Nat.blt x 40 then (bif Nat.beq x 39 then some (.iload_n 2, 1) else none) else (bif Nat.beq x 40 then some (.aload_n 0, 1) else none)))) else (bif Nat.blt x 47 then (bif Nat.blt x 44 then (bif Nat.beq x 41 then some (.getfield 9, 3) else none) else (bif Nat.beq x 44 then some (.if_icmp .ge 8, 3) else none)) else (bif Nat.blt x 48 then (bif Nat.beq x 47 then some (.aload_n 0, 1) else none) else (bif Nat.blt x 49 then (bif Nat.beq x 48 then some (.iload_n 2, 1) else none) else (bif Nat.beq x 49 then some (.putfield 9, 3) else none))))) else (bif Nat.blt x 63 then (bif Nat.blt x 58 then (bif Nat.blt x 55 then (bif Nat.beq x 52 then some (.iinc 1 1, 3) else none) else (bif Nat.beq x 55 then some (.goto (-53), 3) else none)) else (bif Nat.blt x 59 then (bif Nat.beq x 58 then some (.aload_n 0, 1) else none) else (bif Nat.blt x 62 then (bif Nat.beq x 59 then some (.getfield 9, 3) else none) else (bif Nat.beq x 62 then some (.iconst (-1), 1) else none)))) else (bif Nat.blt x 67 then (bif Nat.blt x 66 then (bif Nat.beq x 63 then some (.if_icmp .ne 7, 3) else none) else (bif Nat.beq x 66 then some (.iconst 0, 1) else none)) else (bif Nat.blt x 70 then (bif Nat.beq x 67 then some (.goto 4, 3) else none) else (bif Nat.blt x 71 then (bif Nat.beq x 70 then some (.iconst 5, 1) else none) else (bif Nat.beq x 71 then some (.ireturn, 1) else none))))))
def q_t131 (x : Nat) : Option (Instr × Nat) := bif Nat.blt x 27 then (bif Nat.blt x 13 then (bif Nat.blt x 3 then (bif Nat.blt x 1 then (bif Nat.beq x 0 then some (.iconst 1, 1) else none) else (bif Nat.blt x 2 then (bif Nat.beq x 1 then some (.istore_n 3, 1) else none) else (bif Nat.beq x 2 then some (.iload_n 3, 1) else none))) else (bif Nat.blt x 7 then (bif Nat.blt x 4 then (bif Nat.beq x 3 then some (.aload_n 0, 1) else none) else (bif Nat.beq x 4 then some (.getfield 32, 3) else none)) else (bif Nat.blt x 10 then (bif Nat.beq x 7 then some (.getfield 80, 3) else none) else (bif Nat.beq x 10 then some (.if_icmp .gt 42, 3) else none)))) else (bif Nat.blt x 21 then (bif Nat.blt x 17 then (bif Nat.blt x 14 then (bif Nat.beq x 13 then some (.aload_n 0, 1) else none) else (bif Nat.beq x 14 then some (.getfield 32, 3) else none)) else (bif Nat.blt x 20 then (bif Nat.beq x 17 then some (.getfield 120, 3) else none) else (bif Nat.beq x 20 then some (.iload_n 3, 1) else none))) else (bif Nat.blt x 24 then (bif Nat.blt x 22 then (bif Nat.beq x 21 then some (.iaload, 1) else none) else (bif Nat.beq x 22 then some (.istore 4, 2) else none)) else (bif Nat.blt x 25 then (bif Nat.beq x 24 then some (.iload_n 1, 1) else none) else (bif Nat.beq x 25 then some (.iload 4, 2) else none))))) else (bif Nat.blt x 40 then (bif Nat.blt x 33 then (bif Nat.blt x 29 then (bif Nat.blt x 28 then (bif Nat.beq x 27 then some (.ishr, 1) else none) else (bif Nat.beq x 28 then some (.iconst 1, 1) else none)) else (bif Nat.blt x 30 then (bif Nat.beq x 29 then some (.iand, 1) else none) else (bif Nat.beq x 30 then some (.ifCond .ne 16, 3) else none))) else (bif Nat.blt x 35 then (bif Nat.blt x 34 then (bif Nat.beq x 33 then some (.aload_n 0, 1) else none) else (bif Nat.beq x 34 then some (.aload_n 0, 1) else none)) else (bif Nat.blt x 38 then (bif Nat.beq x 35 then some (.getfield 15, 3) else none) else (bif Nat.beq x 38 then some (.iload 4, 2) else none)))) else (bif Nat.blt x 46 then (bif Nat.blt x 44 then (bif Nat.blt x 41 then (bif Nat.beq x 40 then some (.iaload, 1) else none) else (bif Nat.beq x 41 then some (.putfield 9, 3) else none)) else (bif Nat.blt x 45 then (bif Nat.beq x 44 then some (.iload_n 2, 1) else none) else (bif Nat.beq x 45 then some (.ireturn, 1) else none))) else (bif Nat.blt x 52 then (bif Nat.blt x 49 then (bif Nat.beq x 46 then some (.iinc 3 1, 3) else none) else (bif Nat.beq x 49 then some (.goto (-47), 3) else none)) else (bif Nat.blt x 53 then (bif Nat.beq x 52 then some (.iconst 0, 1) else none) else (bif Nat.beq x 53 then some (.ireturn, 1) else none)))))
def q_t132 (x : Nat) : Option (Instr × Nat) := bif Nat.blt x 9 then (bif Nat.blt x 2 then (bif Nat.blt x 1 then (bif Nat.beq x 0 then some (.aload_n 0, 1) else none) else (bif Nat.beq x 1 then some (.aload_n 0, 1) else none)) else (bif Nat.blt x 5 then (bif Nat.beq x 2 then some (.getfield 25, 3) else none) else (bif Nat.blt x 6 then (bif Nat.beq x 5 then some (.iconst 0, 1) else none) else (bif Nat.beq x 6 then some (.invokevirtual 29, 3) else none)))) else (bif Nat.blt x 16 then (bif Nat.blt x 12 then (bif Nat.beq x 9 then some (.putfield 21, 3) else none) else (bif Nat.blt x 13 then (bif Nat.beq x 12 then some (.aload_n 0, 1) else none) else (bif Nat.beq x 13 then some (.invokevirtual 35, 3) else none))) else (bif Nat.blt x 17 then (bif Nat.beq x 16 then some (.aload_n 0, 1) else none) else (bif Nat.blt x 20 then (bif Nat.beq x 17 then some (.invokevirtual 38, 3) else none) else (bif Nat.beq x 20 then some (.return_, 1) else none))))
def q_t133 (x : Nat) : Option (Instr × Nat) := bif Nat.blt x 7 then (bif Nat.blt x 4 then (bif Nat.blt x 1 then (bif Nat.beq x 0 then some (.aload_n 0, 1) else none) else (bif Nat.beq x 1 then some (.getfield 21, 3) else none)) else (bif Nat.blt x 5 then (bif Nat.beq x 4 then some (.iload_n 1, 1) else none) else (bif Nat.blt x 6 then (bif Nat.beq x 5 then some (.ishr, 1) else none) else (bif Nat.beq x 6 then some (.iconst 1, 1) else none)))) else (bif Nat.blt x 12 then (bif Nat.blt x 8 then (bif Nat.beq x 7 then some (.iand, 1) else none) else (bif Nat.blt x 11 then (bif Nat.beq x 8 then some (.ifCond .eq 7, 3) else none) else (bif Nat.beq x 11 then some (.iconst 1, 1) else none))) else (bif Nat.blt x 15 then (bif Nat.beq x 12 then some (.goto 4, 3) else none) else (bif Nat.blt x 16 then (bif Nat.beq x 15 then some (.iconst 0, 1) else none) else (bif Nat.beq x 16 then some (.ireturn, 1) else none))))
def q_t134 (x : Nat) : Option (Instr × Nat) := bif Nat.blt x 26 then (bif Nat.blt x 10 then (bif Nat.blt x 6 then (bif Nat.blt x 4 then (bif Nat.blt x 1 then (bif Nat.beq x 0 then some (.aload_n 0, 1) else none) else (bif Nat.beq x 1 then some (.getfield 18, 3) else none)) else (bif Nat.blt x 5 then (bif Nat.beq x 4 then some (.iload_n 1, 1) else none) else (bif Nat.beq x 5 then some (.iconst 5, 1) else none))) else (bif Nat.blt x 8 then (bif Nat.blt x 7 then (bif Nat.beq x 6 then some (.imul, 1) else none) else (bif Nat.beq x 7 then some (.iload_n 2, 1) else none)) else (bif Nat.blt x 9 then (bif Nat.beq x 8 then some (.iadd, 1) else none) else (bif Nat.beq x 9 then some (.iaload, 1) else none)))) else (bif Nat.blt x 17 then (bif Nat.blt x 13 then (bif Nat.blt x 12 then (bif Nat.beq x 10 then some (.istore 4, 2) else none) else (bif Nat.beq x 12 then some (.iload_n 2, 1) else none)) else (bif Nat.blt x 15 then (bif Nat.beq x 13 then some (.istore 5, 2) else none) else (bif Nat.beq x 15 then some (.iload 5, 2) else none))) else (bif Nat.blt x 21 then (bif Nat.blt x 18 then (bif Nat.beq x 17 then some (.aload_n 0, 1) else none) else (bif Nat.beq x 18 then some (.getfield 25, 3) else none)) else (bif Nat.blt x 24 then (bif Nat.beq x 21 then some (.getfield 41, 3) else none) else (bif Nat.blt x 25 then (bif Nat.beq x 24 then some (.iload_n 1, 1) else none) else (bif Nat.beq x 25 then some (.iaload, 1) else none)))))) else (bif Nat.blt x 43 then (bif Nat.blt x 34 then (bif Nat.blt x 30 then (bif Nat.blt x 29 then (bif Nat.beq x 26 then some (.if_icmp .ge 29, 3) else none) else (bif Nat.beq x 29 then some (.aload_n 0, 1) else none)) else (bif Nat.blt x 31 then (bif Nat.beq x 30 then some (.aload_n 0, 1) else none) else (bif Nat.beq x 31 then some (.getfield 25, 3) else none))) else (bif Nat.blt x 37 then (bif Nat.blt x 35 then (bif Nat.beq x 34 then some (.iload_n 1, 1) else none) else (bif Nat.beq x 35 then some (.iload 5, 2) else none)) else (bif Nat.blt x 40 then (bif Nat.beq x 37 then some (.invokevirtual 44, 3) else none) else (bif Nat.beq x 40 then some (.invokevirtual 48, 3) else none)))) else (bif Nat.blt x 52 then (bif Nat.blt x 48 then (bif Nat.blt x 46 then (bif Nat.beq x 43 then some (.ifCond .ne 6, 3) else none) else (bif Nat.beq x 46 then some (.iload 4, 2) else none)) else (bif Nat.blt x 49 then (bif Nat.beq x 48 then some (.ireturn, 1) else none) else (bif Nat.beq x 49 then some (.iinc 5 1, 3) else none))) else (bif Nat.blt x 57 then (bif Nat.blt x 55 then (bif Nat.beq x 52 then some (.goto (-37), 3) else none) else (bif Nat.beq x 55 then some (.iload 4, 2) else none)) else (bif Nat.blt x 58 then (bif Nat.beq x 57 then some (.iload_n 3, 1) else none) else (bif Nat.blt x 59 then (bif Nat.beq x 58 then some (.ior, 1) else none) else (bif Nat.beq x 59 then some (.ireturn, 1) else none))))))
def q_t135 (x : Nat) : Option (Instr × Nat) := bif Nat.blt x 75 then (bif Nat.blt x 38 then (bif Nat.blt x 17 then (bif Nat.blt x 9 then (bif Nat.blt x 4 then (bif Nat.blt x 1 then (bif Nat.beq x 0 then some (.aload_n 0, 1) else none) else (bif Nat.beq x 1 then some (.getfield 9, 3) else none)) else (bif Nat.blt x 5 then (bif Nat.beq x 4 then some (.iconst 0, 1) else none) else (bif Nat.blt x 8 then (bif Nat.beq x 5 then some (.invokestatic 52, 3) else none) else (bif Nat.beq x 8 then some (.iconst 1, 1) else none)))) else (bif Nat.blt x 12 then (bif Nat.blt x 10 then (bif Nat.beq x 9 then some (.istore_n 1, 1) else none) else (bif Nat.blt x 11 then (bif Nat.beq x 10 then some (.iconst 0, 1) else none) else (bif Nat.beq x 11 then some (.istore_n 2, 1) else none))) else (bif Nat.blt x 13 then (bif Nat.beq x 12 then some (.iload_n 1, 1) else none) else (bif Nat.blt x 16 then (bif Nat.beq x 13 then some (.ifCond .eq 92, 3) else none) else (bif Nat.beq x 16 then some (.iload_n 2, 1) else none))))) else (bif Nat.blt x 26 then (bif Nat.blt x 23 then (bif Nat.blt x 19 then (bif Nat.beq x 17 then some (.ldc 58, 2) else none) else (bif Nat.blt x 22 then (bif Nat.beq x 19 then some (.if_icmp .ge 86, 3) else none) else (bif Nat.beq x 22 then some (.iconst 0, 1) else none))) else (bif Nat.blt x 24 then (bif Nat.beq x 23 then some (.istore_n 1, 1) else none) else (bif Nat.blt x 25 then (bif Nat.beq x 24 then some (.iconst 1, 1) else none) else (bif Nat.beq x 25 then some (.istore_n 3, 1) else none)))) else (bif Nat.blt x 31 then (bif Nat.blt x 27 then (bif Nat.beq x 26 then some (.iload_n 3, 1) else none) else (bif Nat.blt x 28 then (bif Nat.beq x 27 then some (.aload_n 0, 1) else none) else (bif Nat.beq x 28 then some (.getfield 25, 3) else none))) else (bif Nat.blt x 34 then (bif Nat.beq x 31 then some (.getfield 59, 3) else none) else (bif Nat.blt x 37 then (bif Nat.beq x 34 then some (.if_icmp .gt 65, 3) else none) else (bif Nat.beq x 37 then some (.aload_n 0, 1) else none)))))) else (bif Nat.blt x 58 then (bif Nat.blt x 48 then (bif Nat.blt x 44 then (bif Nat.blt x 41 then (bif Nat.beq x 38 then some (.getfield 25, 3) else none) else (bif Nat.beq x 41 then some (.getfield 62, 3) else none)) else (bif Nat.blt x 45 then (bif Nat.beq x 44 then some (.iload_n 3, 1) else none) else (bif Nat.blt x 46 then (bif Nat.beq x 45 then some (.iaload, 1) else none) else (bif Nat.beq x 46 then some (.istore 4, 2) else none)))) else (bif Nat.blt x 54 then (bif Nat.blt x 49 then (bif Nat.beq x 48 then some (.aload_n 0, 1) else none) else (bif Nat.blt x 52 then (bif Nat.beq x 49 then some (.getfield 9, 3) else none) else (bif Nat.beq x 52 then some (.iload 4, 2) else none))) else (bif Nat.blt x 55 then (bif Nat.beq x 54 then some (.iaload, 1) else none) else (bif Nat.blt x 57 then (bif Nat.beq x 55 then some (.istore 5, 2) else none) else (bif Nat.beq x 57 then some (.aload_n 0, 1) else none))))) else (bif Nat.blt x 67 then (bif Nat.blt x 64 then (bif Nat.blt x 61 then (bif Nat.beq x 58 then some (.getfield 9, 3) else none) else (bif Nat.blt x 63 then (bif Nat.beq x 61 then some (.iload 4, 2) else none) else (bif Nat.beq x 63 then some (.dup2, 1) else none))) else (bif Nat.blt x 65 then (bif Nat.beq x 64 then some (.iaload, 1) else none) else (bif Nat.blt x 66 then (bif Nat.beq x 65 then some (.aload_n 0, 1) else none) else (bif Nat.beq x 66 then some (.iload_n 3, 1) else none)))) else (bif Nat.blt x 72 then (bif Nat.blt x 68 then (bif Nat.beq x 67 then some (.iconst 0, 1) else none) else (bif Nat.blt x 71 then (bif Nat.beq x 68 then some (.invokevirtual 65, 3) else none) else (bif Nat.beq x 71 then some (.ior, 1) else none))) else (bif Nat.blt x 73 then (bif Nat.beq x 72 then some (.iastore, 1) else none) else (bif Nat.blt x 74 then (bif Nat.beq x 73 then some (.iload_n 1, 1) else none) else (bif Nat.beq x 74 then some (.aload_n 0, 1) else none))))))) else (bif Nat.blt x 120 then (bif Nat.blt x 96 then (bif Nat.blt x 86 then (bif Nat.blt x 80 then (bif Nat.blt x 78 then (bif Nat.beq x 75 then some (.getfield 9, 3) else none) else (bif Nat.beq x 78 then some (.iload 4, 2) else none)) else (bif Nat.blt x 81 then (bif Nat.beq x 80 then some (.iaload, 1) else none) else (bif Nat.blt x 83 then (bif Nat.beq x 81 then some (.iload 5, 2) else none) else (bif Nat.beq x 83 then some (.if_icmp .eq 7, 3) else none)))) else (bif Nat.blt x 91 then (bif Nat.blt x 87 then (bif Nat.beq x 86 then some (.iconst 1, 1) else none) else (bif Nat.blt x 90 then (bif Nat.beq x 87 then some (.goto 4, 3) else none) else (bif Nat.beq x 90 then some (.iconst 0, 1) else none))) else (bif Nat.blt x 92 then (bif Nat.beq x 91 then some (.ior, 1) else none) else (bif Nat.blt x 93 then (bif Nat.beq x 92 then some (.istore_n 1, 1) else none) else (bif Nat.beq x 93 then some (.iinc 3 1, 3) else none))))) else (bif Nat.blt x 108 then (bif Nat.blt x 105 then (bif Nat.blt x 99 then (bif Nat.beq x 96 then some (.goto (-70), 3) else none) else (bif Nat.blt x 102 then (bif Nat.beq x 99 then some (.iinc 2 1, 3) else none) else (bif Nat.beq x 102 then some (.goto (-90), 3) else none))) else (bif Nat.blt x 106 then (bif Nat.beq x 105 then some (.iconst 0, 1) else none) else (bif Nat.blt x 107 then (bif Nat.beq x 106 then some (.istore_n 2, 1) else none) else (bif Nat.beq x 107 then some (.iload_n 2, 1) else none)))) else (bif Nat.blt x 115 then (bif Nat.blt x 109 then (bif Nat.beq x 108 then some (.aload_n 0, 1) else none) else (bif Nat.blt x 112 then (bif Nat.beq x 109 then some (.getfield 25, 3) else none) else (bif Nat.beq x 112 then some (.getfield 59, 3) else none))) else (bif Nat.blt x 118 then (bif Nat.beq x 115 then some (.if_icmp .gt 46, 3) else none) else (bif Nat.blt x 119 then (bif Nat.beq x 118 then some (.iconst 0, 1) else none) else (bif Nat.beq x 119 then some (.istore_n 3, 1) else none)))))) else (bif Nat.blt x 140 then (bif Nat.blt x 130 then (bif Nat.blt x 125 then (bif Nat.blt x 121 then (bif Nat.beq x 120 then some (.iload_n 3, 1) else none) else (bif Nat.blt x 122 then (bif Nat.beq x 121 then some (.aload_n 0, 1) else none) else (bif Nat.beq x 122 then some (.getfield 25, 3) else none))) else (bif Nat.blt x 128 then (bif Nat.beq x 125 then some (.getfield 41, 3) else none) else (bif Nat.blt x 129 then (bif Nat.beq x 128 then some (.iload_n 2, 1) else none) else (bif Nat.beq x 129 then some (.iaload, 1) else none)))) else (bif Nat.blt x 137 then (bif Nat.blt x 133 then (bif Nat.beq x 130 then some (.if_icmp .gt 25, 3) else none) else (bif Nat.blt x 134 then (bif Nat.beq x 133 then some (.aload_n 0, 1) else none) else (bif Nat.beq x 134 then some (.getfield 18, 3) else none))) else (bif Nat.blt x 138 then (bif Nat.beq x 137 then some (.iload_n 2, 1) else none) else (bif Nat.blt x 139 then (bif Nat.beq x 138 then some (.iconst 5, 1) else none) else (bif Nat.beq x 139 then some (.imul, 1) else none))))) else (bif Nat.blt x 148 then (bif Nat.blt x 143 then (bif Nat.blt x 141 then (bif Nat.beq x 140 then some (.iload_n 3, 1) else none) else (bif Nat.blt x 142 then (bif Nat.beq x 141 then some (.iadd, 1) else none) else (bif Nat.beq x 142 then some (.aload_n 0, 1) else none))) else (bif Nat.blt x 144 then (bif Nat.beq x 143 then some (.iload_n 2, 1) else none) else (bif Nat.blt x 145 then (bif Nat.beq x 144 then some (.iload_n 3, 1) else none) else (bif Nat.beq x 145 then some (.invokevirtual 65, 3) else none)))) else (bif Nat.blt x 155 then (bif Nat.blt x 149 then (bif Nat.beq x 148 then some (.iastore, 1) else none) else (bif Nat.blt x 152 then (bif Nat.beq x 149 then some (.iinc 3 1, 3) else none) else (bif Nat.beq x 152 then some (.goto (-32), 3) else none))) else (bif Nat.blt x 158 then (bif Nat.beq x 155 then some (.iinc 2 1, 3) else none) else (bif Nat.blt x 161 then (bif Nat.beq x 158 then some (.goto (-51), 3) else none) else (bif Nat.beq x 161 then some (.return_, 1) else none)))))))
def q_t136 (x : Nat) : Option (Instr × Nat) := bif Nat.blt x 39 then (bif Nat.blt x 16 then (bif Nat.blt x 7 then (bif Nat.blt x 2 then (bif Nat.blt x 1 then (bif Nat.beq x 0 then some (.iconst 0, 1) else none) else (bif Nat.beq x 1 then some (.istore_n 3, 1) else none)) else (bif Nat.blt x 3 then (bif Nat.beq x 2 then some (.iload_n 2, 1) else none) else (bif Nat.blt x 5 then (bif Nat.beq x 3 then some (.istore 4, 2) else none) else (bif Nat.beq x 5 then some (.iload 4, 2) else none)))) else (bif Nat.blt x 11 then (bif Nat.blt x 8 then (bif Nat.beq x 7 then some (.aload_n 0, 1) else none) else (bif Nat.beq x 8 then some (.getfield 25, 3) else none)) else (bif Nat.blt x 14 then (bif Nat.beq x 11 then some (.getfield 41, 3) else none) else (bif Nat.blt x 15 then (bif Nat.beq x 14 then some (.iload_n 1, 1) else none) else (bif Nat.beq x 15 then some (.iaload, 1) else none))))) else (bif Nat.blt x 26 then (bif Nat.blt x 20 then (bif Nat.blt x 19 then (bif Nat.beq x 16 then some (.if_icmp .ge 59, 3) else none) else (bif Nat.beq x 19 then some (.aload_n 0, 1) else none)) else (bif Nat.blt x 23 then (bif Nat.beq x 20 then some (.getfield 25, 3) else none) else (bif Nat.blt x 24 then (bif Nat.beq x 23 then some (.iload_n 1, 1) else none) else (bif Nat.beq x 24 then some (.iload 4, 2) else none)))) else (bif Nat.blt x 32 then (bif Nat.blt x 29 then (bif Nat.beq x 26 then some (.invokevirtual 44, 3) else none) else (bif Nat.blt x 31 then (bif Nat.beq x 29 then some (.istore 5, 2) else none) else (bif Nat.beq x 31 then some (.iload_n 3, 1) else none))) else (bif Nat.blt x 34 then (bif Nat.beq x 32 then some (.iload 5, 2) else none) else (bif Nat.blt x 36 then (bif Nat.beq x 34 then some (.bipush 8, 2) else none) else (bif Nat.beq x 36 then some (.if_icmp .ge 13, 3) else none)))))) else (bif Nat.blt x 57 then (bif Nat.blt x 49 then (bif Nat.blt x 43 then (bif Nat.blt x 40 then (bif Nat.beq x 39 then some (.aload_n 0, 1) else none) else (bif Nat.beq x 40 then some (.getfield 9, 3) else none)) else (bif Nat.blt x 45 then (bif Nat.beq x 43 then some (.iload 5, 2) else none) else (bif Nat.blt x 46 then (bif Nat.beq x 45 then some (.iaload, 1) else none) else (bif Nat.beq x 46 then some (.goto 10, 3) else none)))) else (bif Nat.blt x 54 then (bif Nat.blt x 50 then (bif Nat.beq x 49 then some (.iconst 1, 1) else none) else (bif Nat.blt x 52 then (bif Nat.beq x 50 then some (.iload 5, 2) else none) else (bif Nat.beq x 52 then some (.bipush 8, 2) else none))) else (bif Nat.blt x 55 then (bif Nat.beq x 54 then some (.isub, 1) else none) else (bif Nat.blt x 56 then (bif Nat.beq x 55 then some (.ishl, 1) else none) else (bif Nat.beq x 56 then some (.ior, 1) else none))))) else (bif Nat.blt x 67 then (bif Nat.blt x 59 then (bif Nat.blt x 58 then (bif Nat.beq x 57 then some (.istore_n 3, 1) else none) else (bif Nat.beq x 58 then some (.aload_n 0, 1) else none)) else (bif Nat.blt x 61 then (bif Nat.beq x 59 then some (.iload 5, 2) else none) else (bif Nat.blt x 64 then (bif Nat.beq x 61 then some (.invokevirtual 48, 3) else none) else (bif Nat.beq x 64 then some (.ifCond .ne 5, 3) else none)))) else (bif Nat.blt x 72 then (bif Nat.blt x 68 then (bif Nat.beq x 67 then some (.iload_n 3, 1) else none) else (bif Nat.blt x 69 then (bif Nat.beq x 68 then some (.ireturn, 1) else none) else (bif Nat.beq x 69 then some (.iinc 4 1, 3) else none))) else (bif Nat.blt x 75 then (bif Nat.beq x 72 then some (.goto (-67), 3) else none) else (bif Nat.blt x 76 then (bif Nat.beq x 75 then some (.iload_n 3, 1) else none) else (bif Nat.beq x 76 then some (.ireturn, 1) else none))))))
def q_t137 (x : Nat) : Option (Instr × Nat) := bif Nat.blt x 37 then (bif Nat.blt x 22 then (bif Nat.blt x 9 then (bif Nat.blt x 4 then (bif Nat.blt x 1 then (bif Nat.beq x 0 then some (.aload_n 0, 1) else none) else (bif Nat.beq x 1 then some (.getfield 15, 3) else none)) else (bif Nat.blt x 5 then (bif Nat.beq x 4 then some (.iconst 0, 1) else none) else (bif Nat.blt x 8 then (bif Nat.beq x 5 then some (.invokestatic 52, 3) else none) else (bif Nat.beq x 8 then some (.aload_n 0, 1) else none)))) else (bif Nat.blt x 13 then (bif Nat.blt x 12 then (bif Nat.beq x 9 then some (.getfield 15, 3) else none) else (bif Nat.beq x 12 then some (.aload_n 0, 1) else none)) else (bif Nat.blt x 16 then (bif Nat.beq x 13 then some (.getfield 25, 3) else none) else (bif Nat.blt x 19 then (bif Nat.beq x 16 then some (.invokevirtual 68, 3) else none) else (bif Nat.beq x 19 then some (.sipush 256, 3) else none))))) else (bif Nat.blt x 27 then (bif Nat.blt x 24 then (bif Nat.blt x 23 then (bif Nat.beq x 22 then some (.iastore, 1) else none) else (bif Nat.beq x 23 then some (.iconst 1, 1) else none)) else (bif Nat.blt x 25 then (bif Nat.beq x 24 then some (.istore_n 1, 1) else none) else (bif Nat.blt x 26 then (bif Nat.beq x 25 then some (.iconst 0, 1) else none) else (bif Nat.beq x 26 then some (.istore_n 2, 1) else none)))) else (bif Nat.blt x 31 then (bif Nat.blt x 28 then (bif Nat.beq x 27 then some (.iload_n 1, 1) else none) else (bif Nat.beq x 28 then some (.ifCond .eq 44, 3) else none)) else (bif Nat.blt x 32 then (bif Nat.beq x 31 then some (.iload_n 2, 1) else none) else (bif Nat.blt x 34 then (bif Nat.beq x 32 then some (.ldc 58, 2) else none) else (bif Nat.beq x 34 then some (.if_icmp .ge 38, 3) else none)))))) else (bif Nat.blt x 53 then (bif Nat.blt x 42 then (bif Nat.blt x 39 then (bif Nat.blt x 38 then (bif Nat.beq x 37 then some (.iconst 0, 1) else none) else (bif Nat.beq x 38 then some (.istore_n 1, 1) else none)) else (bif Nat.blt x 40 then (bif Nat.beq x 39 then some (.iconst 1, 1) else none) else (bif Nat.blt x 41 then (bif Nat.beq x 40 then some (.istore_n 3, 1) else none) else (bif Nat.beq x 41 then some (.iload_n 3, 1) else none)))) else (bif Nat.blt x 46 then (bif Nat.blt x 43 then (bif Nat.beq x 42 then some (.aload_n 0, 1) else none) else (bif Nat.beq x 43 then some (.getfield 25, 3) else none)) else (bif Nat.blt x 49 then (bif Nat.beq x 46 then some (.getfield 59, 3) else none) else (bif Nat.blt x 52 then (bif Nat.beq x 49 then some (.if_icmp .gt 17, 3) else none) else (bif Nat.beq x 52 then some (.iload_n 1, 1) else none))))) else (bif Nat.blt x 60 then (bif Nat.blt x 55 then (bif Nat.blt x 54 then (bif Nat.beq x 53 then some (.aload_n 0, 1) else none) else (bif Nat.beq x 54 then some (.iload_n 3, 1) else none)) else (bif Nat.blt x 58 then (bif Nat.beq x 55 then some (.invokevirtual 72, 3) else none) else (bif Nat.blt x 59 then (bif Nat.beq x 58 then some (.ior, 1) else none) else (bif Nat.beq x 59 then some (.istore_n 1, 1) else none)))) else (bif Nat.blt x 66 then (bif Nat.blt x 63 then (bif Nat.beq x 60 then some (.iinc 3 1, 3) else none) else (bif Nat.beq x 63 then some (.goto (-22), 3) else none)) else (bif Nat.blt x 69 then (bif Nat.beq x 66 then some (.iinc 2 1, 3) else none) else (bif Nat.blt x 72 then (bif Nat.beq x 69 then some (.goto (-42), 3) else none) else (bif Nat.beq x 72 then some (.return_, 1) else none))))))
def q_t138 (x : Nat) : Option (Instr × Nat) := bif Nat.blt x 53 then (bif Nat.blt x 23 then (bif Nat.blt x 9 then (bif Nat.blt x 3 then (bif Nat.blt x 1 then (bif Nat.beq x 0 then some (.iconst 0, 1) else none) else (bif Nat.blt x 2 then (bif Nat.beq x 1 then some (.istore_n 2, 1) else none) else (bif Nat.beq x 2 then some (.iconst 0, 1) else none))) else (bif Nat.blt x 5 then (bif Nat.blt x 4 then (bif Nat.beq x 3 then some (.istore_n 3, 1) else none) else (bif Nat.beq x 4 then some (.iload_n 3, 1) else none)) else (bif Nat.blt x 6 then (bif Nat.beq x 5 then some (.aload_n 0, 1) else none) else (bif Nat.beq x 6 then some (.getfield 25, 3) else none)))) else (bif Nat.blt x 17 then (bif Nat.blt x 13 then (bif Nat.blt x 12 then (bif Nat.beq x 9 then some (.getfield 41, 3) else none) else (bif Nat.beq x 12 then some (.iload_n 1, 1) else none)) else (bif Nat.blt x 14 then (bif Nat.beq x 13 then some (.iaload, 1) else none) else (bif Nat.beq x 14 then some (.if_icmp .ge 88, 3) else none))) else (bif Nat.blt x 21 then (bif Nat.blt x 18 then (bif Nat.beq x 17 then some (.aload_n 0, 1) else none) else (bif Nat.beq x 18 then some (.getfield 25, 3) else none)) else (bif Nat.blt x 22 then (bif Nat.beq x 21 then some (.iload_n 1, 1) else none) else (bif Nat.beq x 22 then some (.iload_n 3, 1) else none))))) else (bif Nat.blt x 41 then (bif Nat.blt x 32 then (bif Nat.blt x 28 then (bif Nat.blt x 26 then (bif Nat.beq x 23 then some (.invokevirtual 44, 3) else none) else (bif Nat.beq x 26 then some (.istore 4, 2) else none)) else (bif Nat.blt x 30 then (bif Nat.beq x 28 then some (.iload 4, 2) else none) else (bif Nat.beq x 30 then some (.bipush 8, 2) else none))) else (bif Nat.blt x 36 then (bif Nat.blt x 35 then (bif Nat.beq x 32 then some (.if_icmp .ge 64, 3) else none) else (bif Nat.beq x 35 then some (.aload_n 0, 1) else none)) else (bif Nat.blt x 39 then (bif Nat.beq x 36 then some (.getfield 15, 3) else none) else (bif Nat.beq x 39 then some (.iload 4, 2) else none)))) else (bif Nat.blt x 48 then (bif Nat.blt x 44 then (bif Nat.blt x 42 then (bif Nat.beq x 41 then some (.iaload, 1) else none) else (bif Nat.beq x 42 then some (.istore 5, 2) else none)) else (bif Nat.blt x 45 then (bif Nat.beq x 44 then some (.aload_n 0, 1) else none) else (bif Nat.beq x 45 then some (.getfield 15, 3) else none))) else (bif Nat.blt x 51 then (bif Nat.blt x 50 then (bif Nat.beq x 48 then some (.iload 4, 2) else none) else (bif Nat.beq x 50 then some (.dup2, 1) else none)) else (bif Nat.blt x 52 then (bif Nat.beq x 51 then some (.iaload, 1) else none) else (bif Nat.beq x 52 then some (.aload_n 0, 1) else none)))))) else (bif Nat.blt x 76 then (bif Nat.blt x 62 then (bif Nat.blt x 56 then (bif Nat.blt x 54 then (bif Nat.beq x 53 then some (.iload_n 1, 1) else none) else (bif Nat.blt x 55 then (bif Nat.beq x 54 then some (.iload_n 3, 1) else none) else (bif Nat.beq x 55 then some (.iconst 1, 1) else none))) else (bif Nat.blt x 58 then (bif Nat.blt x 57 then (bif Nat.beq x 56 then some (.iadd, 1) else none) else (bif Nat.beq x 57 then some (.aload_n 0, 1) else none)) else (bif Nat.blt x 61 then (bif Nat.beq x 58 then some (.getfield 15, 3) else none) else (bif Nat.beq x 61 then some (.aload_n 0, 1) else none)))) else (bif Nat.blt x 70 then (bif Nat.blt x 68 then (bif Nat.blt x 65 then (bif Nat.beq x 62 then some (.getfield 25, 3) else none) else (bif Nat.beq x 65 then some (.getfield 62, 3) else none)) else (bif Nat.blt x 69 then (bif Nat.beq x 68 then some (.iload_n 1, 1) else none) else (bif Nat.beq x 69 then some (.iaload, 1) else none))) else (bif Nat.blt x 74 then (bif Nat.blt x 71 then (bif Nat.beq x 70 then some (.iaload, 1) else none) else (bif Nat.beq x 71 then some (.invokevirtual 75, 3) else none)) else (bif Nat.blt x 75 then (bif Nat.beq x 74 then some (.ior, 1) else none) else (bif Nat.beq x 75 then some (.iastore, 1) else none))))) else (bif Nat.blt x 90 then (bif Nat.blt x 83 then (bif Nat.blt x 78 then (bif Nat.blt x 77 then (bif Nat.beq x 76 then some (.iload_n 2, 1) else none) else (bif Nat.beq x 77 then some (.aload_n 0, 1) else none)) else (bif Nat.blt x 81 then (bif Nat.beq x 78 then some (.getfield 15, 3) else none) else (bif Nat.beq x 81 then some (.iload 4, 2) else none))) else (bif Nat.blt x 86 then (bif Nat.blt x 84 then (bif Nat.beq x 83 then some (.iaload, 1) else none) else (bif Nat.beq x 84 then some (.iload 5, 2) else none)) else (bif Nat.blt x 89 then (bif Nat.beq x 86 then some (.if_icmp .eq 7, 3) else none) else (bif Nat.beq x 89 then some (.iconst 1, 1) else none)))) else (bif Nat.blt x 96 then (bif Nat.blt x 94 then (bif Nat.blt x 93 then (bif Nat.beq x 90 then some (.goto 4, 3) else none) else (bif Nat.beq x 93 then some (.iconst 0, 1) else none)) else (bif Nat.blt x 95 then (bif Nat.beq x 94 then some (.ior, 1) else none) else (bif Nat.beq x 95 then some (.istore_n 2, 1) else none))) else (bif Nat.blt x 102 then (bif Nat.blt x 99 then (bif Nat.beq x 96 then some (.iinc 3 1, 3) else none) else (bif Nat.beq x 99 then some (.goto (-95), 3) else none)) else (bif Nat.blt x 103 then (bif Nat.beq x 102 then some (.iload_n 2, 1) else none) else (bif Nat.beq x 103 then some (.ireturn, 1) else none))))))
def q_t139 (x : Nat) : Option (Instr × Nat) := bif Nat.blt x 36 then (bif Nat.blt x 21 then (bif Nat.blt x 9 then (bif Nat.blt x 4 then (bif Nat.blt x 1 then (bif Nat.beq x 0 then some (.aload_n 0, 1) else none) else (bif Nat.beq x 1 then some (.invokevirtual 32, 3) else none)) else (bif Nat.blt x 5 then (bif Nat.beq x 4 then some (.aload_n 0, 1) else none) else (bif Nat.blt x 6 then (bif Nat.beq x 5 then some (.iconst 0, 1) else none) else (bif Nat.beq x 6 then some (.putfield 9, 3) else none)))) else (bif Nat.blt x 14 then (bif Nat.blt x 10 then (bif Nat.beq x 9 then some (.aload_n 0, 1) else none) else (bif Nat.blt x 13 then (bif Nat.beq x 10 then some (.getfield 25, 3) else none) else (bif Nat.beq x 13 then some (.iconst 0, 1) else none))) else (bif Nat.blt x 17 then (bif Nat.beq x 14 then some (.invokestatic 35, 3) else none) else (bif Nat.blt x 18 then (bif Nat.beq x 17 then some (.aload_n 0, 1) else none) else (bif Nat.beq x 18 then some (.getfield 25, 3) else none))))) else (bif Nat.blt x 28 then (bif Nat.blt x 23 then (bif Nat.blt x 22 then (bif Nat.beq x 21 then some (.iconst 0, 1) else none) else (bif Nat.beq x 22 then some (.iconst 1, 1) else none)) else (bif Nat.blt x 24 then (bif Nat.beq x 23 then some (.iastore, 1) else none) else (bif Nat.blt x 25 then (bif Nat.beq x 24 then some (.aload_n 0, 1) else none) else (bif Nat.beq x 25 then some (.invokevirtual 41, 3) else none)))) else (bif Nat.blt x 31 then (bif Nat.blt x 29 then (bif Nat.beq x 28 then some (.pop, 1) else none) else (bif Nat.blt x 30 then (bif Nat.beq x 29 then some (.iconst 0, 1) else none) else (bif Nat.beq x 30 then some (.istore_n 1, 1) else none))) else (bif Nat.blt x 32 then (bif Nat.beq x 31 then some (.iload_n 1, 1) else none) else (bif Nat.blt x 33 then (bif Nat.beq x 32 then some (.aload_n 0, 1) else none) else (bif Nat.beq x 33 then some (.getfield 9, 3) else none)))))) else (bif Nat.blt x 55 then (bif Nat.blt x 46 then (bif Nat.blt x 40 then (bif Nat.blt x 39 then (bif Nat.beq x 36 then some (.if_icmp .ge 40, 3) else none) else (bif Nat.beq x 39 then some (.iload_n 1, 1) else none)) else (bif Nat.blt x 42 then (bif Nat.beq x 40 then some (.bipush 40, 2) else none) else (bif Nat.blt x 45 then (bif Nat.beq x 42 then some (.if_icmp .ge 34, 3) else none) else (bif Nat.beq x 45 then some (.iconst 0, 1) else none)))) else (bif Nat.blt x 50 then (bif Nat.blt x 47 then (bif Nat.beq x 46 then some (.istore_n 2, 1) else none) else (bif Nat.blt x 48 then (bif Nat.beq x 47 then some (.iload_n 2, 1) else none) else (bif Nat.beq x 48 then some (.bipush 16, 2) else none))) else (bif Nat.blt x 53 then (bif Nat.beq x 50 then some (.if_icmp .ge 20, 3) else none) else (bif Nat.blt x 54 then (bif Nat.beq x 53 then some (.aload_n 0, 1) else none) else (bif Nat.beq x 54 then some (.iload_n 1, 1) else none))))) else (bif Nat.blt x 64 then (bif Nat.blt x 59 then (bif Nat.blt x 56 then (bif Nat.beq x 55 then some (.iload_n 2, 1) else none) else (bif Nat.beq x 56 then some (.invokevirtual 45, 3) else none)) else (bif Nat.blt x 62 then (bif Nat.beq x 59 then some (.ifCond .ne 5, 3) else none) else (bif Nat.blt x 63 then (bif Nat.beq x 62 then some (.iconst 0, 1) else none) else (bif Nat.beq x 63 then some (.ireturn, 1) else none)))) else (bif Nat.blt x 73 then (bif Nat.blt x 67 then (bif Nat.beq x 64 then some (.iinc 2 1, 3) else none) else (bif Nat.blt x 70 then (bif Nat.beq x 67 then some (.goto (-20), 3) else none) else (bif Nat.beq x 70 then some (.iinc 1 1, 3) else none))) else (bif Nat.blt x 76 then (bif Nat.beq x 73 then some (.goto (-42), 3) else none) else (bif Nat.blt x 77 then (bif Nat.beq x 76 then some (.iconst 1, 1) else none) else (bif Nat.beq x 77 then some (.ireturn, 1) else none))))))
def q_t140 (x : Nat) : Option (Instr × Nat) := bif Nat.blt x 11 then (bif Nat.blt x 7 then (bif Nat.blt x 4 then (bif Nat.blt x 1 then (bif Nat.beq x 0 then some (.aload_n 0, 1) else none) else (bif Nat.beq x 1 then some (.getfield 15, 3) else none)) else (bif Nat.blt x 5 then (bif Nat.beq x 4 then some (.iload_n 1, 1) else none) else (bif Nat.beq x 5 then some (.bipush 16, 2) else none))) else (bif Nat.blt x 9 then (bif Nat.blt x 8 then (bif Nat.beq x 7 then some (.imul, 1) else none) else (bif Nat.beq x 8 then some (.iload_n 2, 1) else none)) else (bif Nat.blt x 10 then (bif Nat.beq x 9 then some (.iadd, 1) else none) else (bif Nat.beq x 10 then some (.iaload, 1) else none)))) else (bif Nat.blt x 15 then (bif Nat.blt x 13 then (bif Nat.blt x 12 then (bif Nat.beq x 11 then some (.iload_n 3, 1) else none) else (bif Nat.beq x 12 then some (.ishr, 1) else none)) else (bif Nat.blt x 14 then (bif Nat.beq x 13 then some (.iconst 1, 1) else none) else (bif Nat.beq x 14 then some (.iand, 1) else none))) else (bif Nat.blt x 19 then (bif Nat.blt x 18 then (bif Nat.beq x 15 then some (.ifCond .eq 7, 3) else none) else (bif Nat.beq x 18 then some (.iconst 1, 1) else none)) else (bif Nat.blt x 22 then (bif Nat.beq x 19 then some (.goto 4, 3) else none) else (bif Nat.blt x 23 then (bif Nat.beq x 22 then some (.iconst 0, 1) else none) else (bif Nat.beq x 23 then some (.ireturn, 1) else none)))))
def q_t141 (x : Nat) : Option (Instr × Nat) := bif Nat.blt x 15 then (bif Nat.blt x 8 then (bif Nat.blt x 4 then (bif Nat.blt x 1 then (bif Nat.beq x 0 then some (.aload_n 0, 1) else none) else (bif Nat.beq x 1 then some (.getfield 15, 3) else none)) else (bif Nat.blt x 5 then (bif Nat.beq x 4 then some (.iload_n 1, 1) else none) else (bif Nat.blt x 7 then (bif Nat.beq x 5 then some (.bipush 16, 2) else none) else (bif Nat.beq x 7 then some (.imul, 1) else none)))) else (bif Nat.blt x 10 then (bif Nat.blt x 9 then (bif Nat.beq x 8 then some (.iload_n 2, 1) else none) else (bif Nat.beq x 9 then some (.iadd, 1) else none)) else (bif Nat.blt x 11 then (bif Nat.beq x 10 then some (.iaload, 1) else none) else (bif Nat.blt x 12 then (bif Nat.beq x 11 then some (.aload_n 0, 1) else none) else (bif Nat.beq x 12 then some (.getfield 28, 3) else none))))) else (bif Nat.blt x 22 then (bif Nat.blt x 19 then (bif Nat.blt x 18 then (bif Nat.beq x 15 then some (.getfield 49, 3) else none) else (bif Nat.beq x 18 then some (.iload_n 2, 1) else none)) else (bif Nat.blt x 20 then (bif Nat.beq x 19 then some (.iaload, 1) else none) else (bif Nat.blt x 21 then (bif Nat.beq x 20 then some (.ishr, 1) else none) else (bif Nat.beq x 21 then some (.iconst 1, 1) else none)))) else (bif Nat.blt x 27 then (bif Nat.blt x 23 then (bif Nat.beq x 22 then some (.iand, 1) else none) else (bif Nat.blt x 26 then (bif Nat.beq x 23 then some (.ifCond .eq 7, 3) else none) else (bif Nat.beq x 26 then some (.iconst 1, 1) else none))) else (bif Nat.blt x 30 then (bif Nat.beq x 27 then some (.goto 4, 3) else none) else (bif Nat.blt x 31 then (bif Nat.beq x 30 then some (.iconst 0, 1) else none) else (bif Nat.beq x 31 then some (.ireturn, 1) else none)))))
def q_t142 (x : Nat) : Option (Instr × Nat) := bif Nat.blt x 7 then (bif Nat.blt x 4 then (bif Nat.blt x 1 then (bif Nat.beq x 0 then some (.aload_n 0, 1) else none) else (bif Nat.beq x 1 then some (.getfield 19, 3) else none)) else (bif Nat.blt x 5 then (bif Nat.beq x 4 then some (.iload_n 1, 1) else none) else (bif Nat.beq x 5 then some (.bipush 16, 2) else none))) else (bif Nat.blt x 9 then (bif Nat.blt x 8 then (bif Nat.beq x 7 then some (.imul, 1) else none) else (bif Nat.beq x 8 then some (.iload_n 2, 1) else none)) else (bif Nat.blt x 10 then (bif Nat.beq x 9 then some (.iadd, 1) else none) else (bif Nat.blt x 11 then (bif Nat.beq x 10 then some (.iaload, 1) else none) else (bif Nat.beq x 11 then some (.ireturn, 1) else none))))
def q_t143 (x : Nat) : Option (Instr × Nat) := bif Nat.blt x 37 then (bif Nat.blt x 18 then (bif Nat.blt x 7 then (bif Nat.blt x 2 then (bif Nat.blt x 1 then (bif Nat.beq x 0 then some (.iconst 0, 1) else none) else (bif Nat.beq x 1 then some (.istore_n 3, 1) else none)) else (bif Nat.blt x 3 then (bif Nat.beq x 2 then some (.iconst 0, 1) else none) else (bif Nat.blt x 5 then (bif Nat.beq x 3 then some (.istore 4, 2) else none) else (bif Nat.beq x 5 then some (.iload 4, 2) else none)))) else (bif Nat.blt x 11 then (bif Nat.blt x 8 then (bif Nat.beq x 7 then some (.aload_n 0, 1) else none) else (bif Nat.beq x 8 then some (.getfield 28, 3) else none)) else (bif Nat.blt x 14 then (bif Nat.beq x 11 then some (.getfield 54, 3) else none) else (bif Nat.blt x 17 then (bif Nat.beq x 14 then some (.if_icmp .gt 62, 3) else none) else (bif Nat.beq x 17 then some (.iconst 0, 1) else none))))) else (bif Nat.blt x 29 then (bif Nat.blt x 22 then (bif Nat.blt x 20 then (bif Nat.beq x 18 then some (.istore 5, 2) else none) else (bif Nat.beq x 20 then some (.iload 5, 2) else none)) else (bif Nat.blt x 23 then (bif Nat.beq x 22 then some (.aload_n 0, 1) else none) else (bif Nat.blt x 26 then (bif Nat.beq x 23 then some (.getfield 28, 3) else none) else (bif Nat.beq x 26 then some (.getfield 49, 3) else none)))) else (bif Nat.blt x 32 then (bif Nat.blt x 31 then (bif Nat.beq x 29 then some (.iload 4, 2) else none) else (bif Nat.beq x 31 then some (.iaload, 1) else none)) else (bif Nat.blt x 35 then (bif Nat.beq x 32 then some (.if_icmp .gt 38, 3) else none) else (bif Nat.blt x 36 then (bif Nat.beq x 35 then some (.aload_n 0, 1) else none) else (bif Nat.beq x 36 then some (.iload_n 1, 1) else none)))))) else (bif Nat.blt x 57 then (bif Nat.blt x 48 then (bif Nat.blt x 41 then (bif Nat.blt x 39 then (bif Nat.beq x 37 then some (.iload 4, 2) else none) else (bif Nat.beq x 39 then some (.iload 5, 2) else none)) else (bif Nat.blt x 44 then (bif Nat.beq x 41 then some (.invokevirtual 57, 3) else none) else (bif Nat.blt x 47 then (bif Nat.beq x 44 then some (.ifCond .eq 20, 3) else none) else (bif Nat.beq x 47 then some (.iload_n 3, 1) else none)))) else (bif Nat.blt x 52 then (bif Nat.blt x 49 then (bif Nat.beq x 48 then some (.iload_n 2, 1) else none) else (bif Nat.beq x 49 then some (.if_icmp .ne 12, 3) else none)) else (bif Nat.blt x 54 then (bif Nat.beq x 52 then some (.bipush 8, 2) else none) else (bif Nat.blt x 56 then (bif Nat.beq x 54 then some (.iload 4, 2) else none) else (bif Nat.beq x 56 then some (.imul, 1) else none))))) else (bif Nat.blt x 67 then (bif Nat.blt x 60 then (bif Nat.blt x 59 then (bif Nat.beq x 57 then some (.iload 5, 2) else none) else (bif Nat.beq x 59 then some (.iadd, 1) else none)) else (bif Nat.blt x 61 then (bif Nat.beq x 60 then some (.ireturn, 1) else none) else (bif Nat.blt x 64 then (bif Nat.beq x 61 then some (.iinc 3 1, 3) else none) else (bif Nat.beq x 64 then some (.iinc 5 1, 3) else none)))) else (bif Nat.blt x 73 then (bif Nat.blt x 70 then (bif Nat.beq x 67 then some (.goto (-47), 3) else none) else (bif Nat.beq x 70 then some (.iinc 4 1, 3) else none)) else (bif Nat.blt x 76 then (bif Nat.beq x 73 then some (.goto (-68), 3) else none) else (bif Nat.blt x 77 then (bif Nat.beq x 76 then some (.iconst (-1), 1) else none) else (bif Nat.beq x 77 then some (.ireturn, 1) else none))))))
def q_t144 (x : Nat) : Option (Instr × Nat) := bif Nat.blt x 37 then (bif Nat.blt x 18 then (bif Nat.blt x 9 then (bif Nat.blt x 4 then (bif Nat.blt x 1 then (bif Nat.beq x 0 then some (.aload_n 0, 1) else none) else (bif Nat.beq x 1 then some (.getfield 22, 3) else none)) else (bif Nat.blt x 5 then (bif Nat.beq x 4 then some (.iconst 0, 1) else none) else (bif Nat.blt x 8 then (bif Nat.beq x 5 then some (.invokestatic 35, 3) else none) else (bif Nat.beq x 8 then some (.iconst 0, 1) else none)))) else (bif Nat.blt x 11 then (bif Nat.blt x 10 then (bif Nat.beq x 9 then some (.istore_n 1, 1) else none) else (bif Nat.beq x 10 then some (.iload_n 1, 1) else none)) else (bif Nat.blt x 12 then (bif Nat.beq x 11 then some (.aload_n 0, 1) else none) else (bif Nat.blt x 15 then (bif Nat.beq x 12 then some (.getfield 28, 3) else none) else (bif Nat.beq x 15 then some (.getfield 54, 3) else none))))) else (bif Nat.blt x 25 then (bif Nat.blt x 22 then (bif Nat.blt x 21 then (bif Nat.beq x 18 then some (.if_icmp .gt 55, 3) else none) else (bif Nat.beq x 21 then some (.iconst 0, 1) else none)) else (bif Nat.blt x 23 then (bif Nat.beq x 22 then some (.istore_n 2, 1) else none) else (bif Nat.blt x 24 then (bif Nat.beq x 23 then some (.iload_n 2, 1) else none) else (bif Nat.beq x 24 then some (.aload_n 0, 1) else none)))) else (bif Nat.blt x 32 then (bif Nat.blt x 28 then (bif Nat.beq x 25 then some (.getfield 28, 3) else none) else (bif Nat.blt x 31 then (bif Nat.beq x 28 then some (.getfield 49, 3) else none) else (bif Nat.beq x 31 then some (.iload_n 1, 1) else none))) else (bif Nat.blt x 33 then (bif Nat.beq x 32 then some (.iaload, 1) else none) else (bif Nat.blt x 36 then (bif Nat.beq x 33 then some (.if_icmp .ge 34, 3) else none) else (bif Nat.beq x 36 then some (.aload_n 0, 1) else none)))))) else (bif Nat.blt x 55 then (bif Nat.blt x 46 then (bif Nat.blt x 41 then (bif Nat.blt x 40 then (bif Nat.beq x 37 then some (.getfield 22, 3) else none) else (bif Nat.beq x 40 then some (.aload_n 0, 1) else none)) else (bif Nat.blt x 44 then (bif Nat.beq x 41 then some (.getfield 28, 3) else none) else (bif Nat.blt x 45 then (bif Nat.beq x 44 then some (.iload_n 1, 1) else none) else (bif Nat.beq x 45 then some (.iload_n 2, 1) else none)))) else (bif Nat.blt x 52 then (bif Nat.blt x 49 then (bif Nat.beq x 46 then some (.invokevirtual 61, 3) else none) else (bif Nat.blt x 51 then (bif Nat.beq x 49 then some (.bipush 16, 2) else none) else (bif Nat.beq x 51 then some (.imul, 1) else none))) else (bif Nat.blt x 53 then (bif Nat.beq x 52 then some (.iload_n 1, 1) else none) else (bif Nat.blt x 54 then (bif Nat.beq x 53 then some (.iadd, 1) else none) else (bif Nat.beq x 54 then some (.dup2, 1) else none))))) else (bif Nat.blt x 60 then (bif Nat.blt x 57 then (bif Nat.blt x 56 then (bif Nat.beq x 55 then some (.iaload, 1) else none) else (bif Nat.beq x 56 then some (.iconst 1, 1) else none)) else (bif Nat.blt x 58 then (bif Nat.beq x 57 then some (.iload_n 2, 1) else none) else (bif Nat.blt x 59 then (bif Nat.beq x 58 then some (.ishl, 1) else none) else (bif Nat.beq x 59 then some (.ior, 1) else none)))) else (bif Nat.blt x 67 then (bif Nat.blt x 61 then (bif Nat.beq x 60 then some (.iastore, 1) else none) else (bif Nat.blt x 64 then (bif Nat.beq x 61 then some (.iinc 2 1, 3) else none) else (bif Nat.beq x 64 then some (.goto (-41), 3) else none))) else (bif Nat.blt x 70 then (bif Nat.beq x 67 then some (.iinc 1 1, 3) else none) else (bif Nat.blt x 73 then (bif Nat.beq x 70 then some (.goto (-60), 3) else none) else (bif Nat.beq x 73 then some (.return_, 1) else none))))))
def q_t145 (x : Nat) : Option (Instr × Nat) := bif Nat.blt x 27 then (bif Nat.blt x 12 then (bif Nat.blt x 4 then (bif Nat.blt x 2 then (bif Nat.blt x 1 then (bif Nat.beq x 0 then some (.iconst (-1), 1) else none) else (bif Nat.beq x 1 then some (.istore_n 3, 1) else none)) else (bif Nat.blt x 3 then (bif Nat.beq x 2 then some (.aload_n 0, 1) else none) else (bif Nat.beq x 3 then some (.iload_n 1, 1) else none))) else (bif Nat.blt x 8 then (bif Nat.blt x 5 then (bif Nat.beq x 4 then some (.iload_n 2, 1) else none) else (bif Nat.beq x 5 then some (.invokevirtual 65, 3) else none)) else (bif Nat.blt x 11 then (bif Nat.beq x 8 then some (.ifCond .eq 29, 3) else none) else (bif Nat.beq x 11 then some (.aload_n 0, 1) else none)))) else (bif Nat.blt x 18 then (bif Nat.blt x 16 then (bif Nat.blt x 15 then (bif Nat.beq x 12 then some (.invokevirtual 68, 3) else none) else (bif Nat.beq x 15 then some (.istore_n 3, 1) else none)) else (bif Nat.blt x 17 then (bif Nat.beq x 16 then some (.iload_n 3, 1) else none) else (bif Nat.beq x 17 then some (.iconst (-1), 1) else none))) else (bif Nat.blt x 22 then (bif Nat.blt x 21 then (bif Nat.beq x 18 then some (.if_icmp .ne 19, 3) else none) else (bif Nat.beq x 21 then some (.aload_n 0, 1) else none)) else (bif Nat.blt x 25 then (bif Nat.beq x 22 then some (.getfield 9, 3) else none) else (bif Nat.beq x 25 then some (.bipush 40, 2) else none))))) else (bif Nat.blt x 41 then (bif Nat.blt x 33 then (bif Nat.blt x 31 then (bif Nat.blt x 30 then (bif Nat.beq x 27 then some (.if_icmp .ne 5, 3) else none) else (bif Nat.beq x 30 then some (.iconst 0, 1) else none)) else (bif Nat.blt x 32 then (bif Nat.beq x 31 then some (.ireturn, 1) else none) else (bif Nat.beq x 32 then some (.aload_n 0, 1) else none))) else (bif Nat.blt x 37 then (bif Nat.blt x 36 then (bif Nat.beq x 33 then some (.invokevirtual 41, 3) else none) else (bif Nat.beq x 36 then some (.istore_n 3, 1) else none)) else (bif Nat.blt x 38 then (bif Nat.beq x 37 then some (.aload_n 0, 1) else none) else (bif Nat.beq x 38 then some (.getfield 19, 3) else none)))) else (bif Nat.blt x 46 then (bif Nat.blt x 44 then (bif Nat.blt x 42 then (bif Nat.beq x 41 then some (.iload_n 1, 1) else none) else (bif Nat.beq x 42 then some (.bipush 16, 2) else none)) else (bif Nat.blt x 45 then (bif Nat.beq x 44 then some (.imul, 1) else none) else (bif Nat.beq x 45 then some (.iload_n 2, 1) else none))) else (bif Nat.blt x 48 then (bif Nat.blt x 47 then (bif Nat.beq x 46 then some (.iadd, 1) else none) else (bif Nat.beq x 47 then some (.iload_n 3, 1) else none)) else (bif Nat.blt x 49 then (bif Nat.beq x 48 then some (.iastore, 1) else none) else (bif Nat.blt x 50 then (bif Nat.beq x 49 then some (.iconst 1, 1) else none) else (bif Nat.beq x 50 then some (.ireturn, 1) else none))))))
def q_t146 (x : Nat) : Option (Instr × Nat) := bif Nat.blt x 39 then (bif Nat.blt x 21 then (bif Nat.blt x 7 then (bif Nat.blt x 2 then (bif Nat.blt x 1 then (bif Nat.beq x 0 then some (.iconst 0, 1) else none) else (bif Nat.beq x 1 then some (.istore_n 3, 1) else none)) else (bif Nat.blt x 3 then (bif Nat.beq x 2 then some (.iconst 0, 1) else none) else (bif Nat.blt x 5 then (bif Nat.beq x 3 then some (.istore 4, 2) else none) else (bif Nat.beq x 5 then some (.iload 4, 2) else none)))) else (bif Nat.blt x 14 then (bif Nat.blt x 8 then (bif Nat.beq x 7 then some (.aload_n 0, 1) else none) else (bif Nat.blt x 11 then (bif Nat.beq x 8 then some (.getfield 28, 3) else none) else (bif Nat.beq x 11 then some (.getfield 54, 3) else none))) else (bif Nat.blt x 17 then (bif Nat.beq x 14 then some (.if_icmp .gt 52, 3) else none) else (bif Nat.blt x 18 then (bif Nat.beq x 17 then some (.aload_n 0, 1) else none) else (bif Nat.beq x 18 then some (.getfield 15, 3) else none))))) else (bif Nat.blt x 29 then (bif Nat.blt x 25 then (bif Nat.blt x 22 then (bif Nat.beq x 21 then some (.iload_n 1, 1) else none) else (bif Nat.blt x 24 then (bif Nat.beq x 22 then some (.bipush 16, 2) else none) else (bif Nat.beq x 24 then some (.imul, 1) else none))) else (bif Nat.blt x 27 then (bif Nat.beq x 25 then some (.iload 4, 2) else none) else (bif Nat.blt x 28 then (bif Nat.beq x 27 then some (.iadd, 1) else none) else (bif Nat.beq x 28 then some (.iaload, 1) else none)))) else (bif Nat.blt x 34 then (bif Nat.blt x 30 then (bif Nat.beq x 29 then some (.aload_n 0, 1) else none) else (bif Nat.blt x 33 then (bif Nat.beq x 30 then some (.getfield 22, 3) else none) else (bif Nat.beq x 33 then some (.iload_n 2, 1) else none))) else (bif Nat.blt x 36 then (bif Nat.beq x 34 then some (.bipush 16, 2) else none) else (bif Nat.blt x 37 then (bif Nat.beq x 36 then some (.imul, 1) else none) else (bif Nat.beq x 37 then some (.iload 4, 2) else none)))))) else (bif Nat.blt x 55 then (bif Nat.blt x 45 then (bif Nat.blt x 41 then (bif Nat.blt x 40 then (bif Nat.beq x 39 then some (.iadd, 1) else none) else (bif Nat.beq x 40 then some (.iaload, 1) else none)) else (bif Nat.blt x 42 then (bif Nat.beq x 41 then some (.iand, 1) else none) else (bif Nat.blt x 44 then (bif Nat.beq x 42 then some (.istore 5, 2) else none) else (bif Nat.beq x 44 then some (.aload_n 0, 1) else none)))) else (bif Nat.blt x 52 then (bif Nat.blt x 48 then (bif Nat.beq x 45 then some (.getfield 25, 3) else none) else (bif Nat.blt x 50 then (bif Nat.beq x 48 then some (.iload 4, 2) else none) else (bif Nat.beq x 50 then some (.iload 5, 2) else none))) else (bif Nat.blt x 53 then (bif Nat.beq x 52 then some (.iconst 1, 1) else none) else (bif Nat.blt x 54 then (bif Nat.beq x 53 then some (.ishl, 1) else none) else (bif Nat.beq x 54 then some (.iastore, 1) else none))))) else (bif Nat.blt x 66 then (bif Nat.blt x 59 then (bif Nat.blt x 56 then (bif Nat.beq x 55 then some (.iload_n 3, 1) else none) else (bif Nat.blt x 58 then (bif Nat.beq x 56 then some (.iload 5, 2) else none) else (bif Nat.beq x 58 then some (.ior, 1) else none))) else (bif Nat.blt x 60 then (bif Nat.beq x 59 then some (.istore_n 3, 1) else none) else (bif Nat.blt x 63 then (bif Nat.beq x 60 then some (.iinc 4 1, 3) else none) else (bif Nat.beq x 63 then some (.goto (-58), 3) else none)))) else (bif Nat.blt x 71 then (bif Nat.blt x 67 then (bif Nat.beq x 66 then some (.iload_n 3, 1) else none) else (bif Nat.blt x 70 then (bif Nat.beq x 67 then some (.ifCond .eq 7, 3) else none) else (bif Nat.beq x 70 then some (.iconst 1, 1) else none))) else (bif Nat.blt x 74 then (bif Nat.beq x 71 then some (.goto 4, 3) else none) else (bif Nat.blt x 75 then (bif Nat.beq x 74 then some (.iconst 0, 1) else none) else (bif Nat.beq x 75 then some (.ireturn, 1) else none))))))
def q_t147 (x : Nat) : Option (Instr × Nat) := bif Nat.blt x 12 then (bif Nat.blt x 4 then (bif Nat.blt x 2 then (bif Nat.blt x 1 then (bif Nat.beq x 0 then some (.iconst 0, 1) else none) else (bif Nat.beq x 1 then some (.istore_n 1, 1) else none)) else (bif Nat.blt x 3 then (bif Nat.beq x 2 then some (.iload_n 1, 1) else none) else (bif Nat.beq x 3 then some (.aload_n 0, 1) else none))) else (bif Nat.blt x 10 then (bif Nat.blt x 7 then (bif Nat.beq x 4 then some (.getfield 9, 3) else none) else (bif Nat.beq x 7 then some (.if_icmp .ge 19, 3) else none)) else (bif Nat.blt x 11 then (bif Nat.beq x 10 then some (.aload_n 0, 1) else none) else (bif Nat.beq x 11 then some (.iload_n 1, 1) else none)))) else (bif Nat.blt x 20 then (bif Nat.blt x 18 then (bif Nat.blt x 15 then (bif Nat.beq x 12 then some (.invokevirtual 71, 3) else none) else (bif Nat.beq x 15 then some (.ifCond .eq 5, 3) else none)) else (bif Nat.blt x 19 then (bif Nat.beq x 18 then some (.iload_n 1, 1) else none) else (bif Nat.beq x 19 then some (.ireturn, 1) else none))) else (bif Nat.blt x 26 then (bif Nat.blt x 23 then (bif Nat.beq x 20 then some (.iinc 1 1, 3) else none) else (bif Nat.beq x 23 then some (.goto (-21), 3) else none)) else (bif Nat.blt x 27 then (bif Nat.beq x 26 then some (.iconst (-1), 1) else none) else (bif Nat.beq x 27 then some (.ireturn, 1) else none))))
def q_t148 (x : Nat) : Option (Instr × Nat) := bif Nat.blt x 23 then (bif Nat.blt x 13 then (bif Nat.blt x 3 then (bif Nat.blt x 1 then (bif Nat.beq x 0 then some (.iconst 0, 1) else none) else (bif Nat.blt x 2 then (bif Nat.beq x 1 then some (.istore_n 2, 1) else none) else (bif Nat.beq x 2 then some (.iload_n 2, 1) else none))) else (bif Nat.blt x 7 then (bif Nat.blt x 4 then (bif Nat.beq x 3 then some (.aload_n 0, 1) else none) else (bif Nat.beq x 4 then some (.getfield 28, 3) else none)) else (bif Nat.blt x 10 then (bif Nat.beq x 7 then some (.getfield 54, 3) else none) else (bif Nat.beq x 10 then some (.if_icmp .gt 34, 3) else none)))) else (bif Nat.blt x 18 then (bif Nat.blt x 14 then (bif Nat.beq x 13 then some (.aload_n 0, 1) else none) else (bif Nat.blt x 17 then (bif Nat.beq x 14 then some (.getfield 15, 3) else none) else (bif Nat.beq x 17 then some (.iload_n 1, 1) else none))) else (bif Nat.blt x 21 then (bif Nat.blt x 20 then (bif Nat.beq x 18 then some (.bipush 16, 2) else none) else (bif Nat.beq x 20 then some (.imul, 1) else none)) else (bif Nat.blt x 22 then (bif Nat.beq x 21 then some (.iload_n 2, 1) else none) else (bif Nat.beq x 22 then some (.iadd, 1) else none))))) else (bif Nat.blt x 33 then (bif Nat.blt x 27 then (bif Nat.blt x 24 then (bif Nat.beq x 23 then some (.iaload, 1) else none) else (bif Nat.blt x 26 then (bif Nat.beq x 24 then some (.bipush (-2), 2) else none) else (bif Nat.beq x 26 then some (.iand, 1) else none))) else (bif Nat.blt x 31 then (bif Nat.blt x 28 then (bif Nat.beq x 27 then some (.aload_n 0, 1) else none) else (bif Nat.beq x 28 then some (.getfield 25, 3) else none)) else (bif Nat.blt x 32 then (bif Nat.beq x 31 then some (.iload_n 2, 1) else none) else (bif Nat.beq x 32 then some (.iaload, 1) else none)))) else (bif Nat.blt x 38 then (bif Nat.blt x 36 then (bif Nat.beq x 33 then some (.if_icmp .eq 5, 3) else none) else (bif Nat.blt x 37 then (bif Nat.beq x 36 then some (.iconst 0, 1) else none) else (bif Nat.beq x 37 then some (.ireturn, 1) else none))) else (bif Nat.blt x 44 then (bif Nat.blt x 41 then (bif Nat.beq x 38 then some (.iinc 2 1, 3) else none) else (bif Nat.beq x 41 then some (.goto (-39), 3) else none)) else (bif Nat.blt x 45 then (bif Nat.beq x 44 then some (.iconst 1, 1) else none) else (bif Nat.beq x 45 then some (.ireturn, 1) else none)))))
def q_t149 (x : Nat) : Option (Instr × Nat) := bif Nat.blt x 19 then (bif Nat.blt x 9 then (bif Nat.blt x 4 then (bif Nat.blt x 1 then (bif Nat.beq x 0 then some (.aload_n 0, 1) else none) else (bif Nat.beq x 1 then some (.invokevirtual 75, 3) else none)) else (bif Nat.blt x 5 then (bif Nat.beq x 4 then some (.aload_n 0, 1) else none) else (bif Nat.blt x 8 then (bif Nat.beq x 5 then some (.getfield 9, 3) else none) else (bif Nat.beq x 8 then some (.istore_n 1, 1) else none)))) else (bif Nat.blt x 14 then (bif Nat.blt x 10 then (bif Nat.beq x 9 then some (.aload_n 0, 1) else none) else (bif Nat.blt x 13 then (bif Nat.beq x 10 then some (.getfield 25, 3) else none) else (bif Nat.beq x 13 then some (.iconst 0, 1) else none))) else (bif Nat.blt x 15 then (bif Nat.beq x 14 then some (.aload_n 0, 1) else none) else (bif Nat.blt x 18 then (bif Nat.beq x 15 then some (.getfield 15, 3) else none) else (bif Nat.beq x 18 then some (.iload_n 1, 1) else none))))) else (bif Nat.blt x 29 then (bif Nat.blt x 24 then (bif Nat.blt x 21 then (bif Nat.beq x 19 then some (.bipush 16, 2) else none) else (bif Nat.blt x 22 then (bif Nat.beq x 21 then some (.imul, 1) else none) else (bif Nat.beq x 22 then some (.bipush 16, 2) else none))) else (bif Nat.blt x 27 then (bif Nat.beq x 24 then some (.invokestatic 78, 3) else none) else (bif Nat.blt x 28 then (bif Nat.beq x 27 then some (.aload_n 0, 1) else none) else (bif Nat.beq x 28 then some (.dup, 1) else none)))) else (bif Nat.blt x 34 then (bif Nat.blt x 32 then (bif Nat.beq x 29 then some (.getfield 9, 3) else none) else (bif Nat.blt x 33 then (bif Nat.beq x 32 then some (.iconst 1, 1) else none) else (bif Nat.beq x 33 then some (.iadd, 1) else none))) else (bif Nat.blt x 37 then (bif Nat.beq x 34 then some (.putfield 9, 3) else none) else (bif Nat.blt x 38 then (bif Nat.beq x 37 then some (.iload_n 1, 1) else none) else (bif Nat.beq x 38 then some (.ireturn, 1) else none)))))
def q_t150 (x : Nat) : Option (Instr × Nat) := bif Nat.blt x 38 then (bif Nat.blt x 17 then (bif Nat.blt x 6 then (bif Nat.blt x 3 then (bif Nat.blt x 1 then (bif Nat.beq x 0 then some (.iconst 0, 1) else none) else (bif Nat.blt x 2 then (bif Nat.beq x 1 then some (.istore_n 1, 1) else none) else (bif Nat.beq x 2 then some (.iconst 1, 1) else none))) else (bif Nat.blt x 4 then (bif Nat.beq x 3 then some (.istore_n 2, 1) else none) else (bif Nat.blt x 5 then (bif Nat.beq x 4 then some (.iconst 0, 1) else none) else (bif Nat.beq x 5 then some (.istore_n 3, 1) else none)))) else (bif Nat.blt x 11 then (bif Nat.blt x 7 then (bif Nat.beq x 6 then some (.iload_n 2, 1) else none) else (bif Nat.blt x 10 then (bif Nat.beq x 7 then some (.ifCond .eq 77, 3) else none) else (bif Nat.beq x 10 then some (.iload_n 3, 1) else none))) else (bif Nat.blt x 13 then (bif Nat.beq x 11 then some (.bipush 8, 2) else none) else (bif Nat.blt x 16 then (bif Nat.beq x 13 then some (.if_icmp .gt 71, 3) else none) else (bif Nat.beq x 16 then some (.iload_n 1, 1) else none))))) else (bif Nat.blt x 29 then (bif Nat.blt x 22 then (bif Nat.blt x 19 then (bif Nat.beq x 17 then some (.istore 4, 2) else none) else (bif Nat.blt x 20 then (bif Nat.beq x 19 then some (.iconst 0, 1) else none) else (bif Nat.beq x 20 then some (.istore 5, 2) else none))) else (bif Nat.blt x 24 then (bif Nat.beq x 22 then some (.iload 5, 2) else none) else (bif Nat.blt x 26 then (bif Nat.beq x 24 then some (.bipush 8, 2) else none) else (bif Nat.beq x 26 then some (.if_icmp .ge 40, 3) else none)))) else (bif Nat.blt x 33 then (bif Nat.blt x 30 then (bif Nat.beq x 29 then some (.iload_n 1, 1) else none) else (bif Nat.blt x 32 then (bif Nat.beq x 30 then some (.iload 5, 2) else none) else (bif Nat.beq x 32 then some (.ishr, 1) else none))) else (bif Nat.blt x 34 then (bif Nat.beq x 33 then some (.iconst 1, 1) else none) else (bif Nat.blt x 35 then (bif Nat.beq x 34 then some (.iand, 1) else none) else (bif Nat.beq x 35 then some (.ifCond .ne 25, 3) else none)))))) else (bif Nat.blt x 59 then (bif Nat.blt x 50 then (bif Nat.blt x 44 then (bif Nat.blt x 39 then (bif Nat.beq x 38 then some (.aload_n 0, 1) else none) else (bif Nat.blt x 41 then (bif Nat.beq x 39 then some (.iload 5, 2) else none) else (bif Nat.beq x 41 then some (.invokevirtual 84, 3) else none))) else (bif Nat.blt x 47 then (bif Nat.beq x 44 then some (.ifCond .eq 16, 3) else none) else (bif Nat.blt x 48 then (bif Nat.beq x 47 then some (.aload_n 0, 1) else none) else (bif Nat.beq x 48 then some (.iload 5, 2) else none)))) else (bif Nat.blt x 55 then (bif Nat.blt x 53 then (bif Nat.beq x 50 then some (.invokevirtual 87, 3) else none) else (bif Nat.blt x 54 then (bif Nat.beq x 53 then some (.iload_n 1, 1) else none) else (bif Nat.beq x 54 then some (.iconst 1, 1) else none))) else (bif Nat.blt x 57 then (bif Nat.beq x 55 then some (.iload 5, 2) else none) else (bif Nat.blt x 58 then (bif Nat.beq x 57 then some (.ishl, 1) else none) else (bif Nat.beq x 58 then some (.ior, 1) else none))))) else (bif Nat.blt x 72 then (bif Nat.blt x 66 then (bif Nat.blt x 60 then (bif Nat.beq x 59 then some (.istore_n 1, 1) else none) else (bif Nat.blt x 63 then (bif Nat.beq x 60 then some (.iinc 5 1, 3) else none) else (bif Nat.beq x 63 then some (.goto (-41), 3) else none))) else (bif Nat.blt x 67 then (bif Nat.beq x 66 then some (.iload_n 1, 1) else none) else (bif Nat.blt x 69 then (bif Nat.beq x 67 then some (.iload 4, 2) else none) else (bif Nat.beq x 69 then some (.if_icmp .eq 7, 3) else none)))) else (bif Nat.blt x 77 then (bif Nat.blt x 73 then (bif Nat.beq x 72 then some (.iconst 1, 1) else none) else (bif Nat.blt x 76 then (bif Nat.beq x 73 then some (.goto 4, 3) else none) else (bif Nat.beq x 76 then some (.iconst 0, 1) else none))) else (bif Nat.blt x 81 then (bif Nat.blt x 78 then (bif Nat.beq x 77 then some (.istore_n 2, 1) else none) else (bif Nat.beq x 78 then some (.iinc 3 1, 3) else none)) else (bif Nat.blt x 84 then (bif Nat.beq x 81 then some (.goto (-75), 3) else none) else (bif Nat.beq x 84 then some (.return_, 1) else none))))))
def q_t151 (x : Nat) : Option (Instr × Nat) := bif Nat.blt x 23 then (bif Nat.blt x 10 then (bif Nat.blt x 3 then (bif Nat.blt x 1 then (bif Nat.beq x 0 then some (.iconst 0, 1) else none) else (bif Nat.blt x 2 then (bif Nat.beq x 1 then some (.istore_n 2, 1) else none) else (bif Nat.beq x 2 then some (.iload_n 2, 1) else none))) else (bif Nat.blt x 4 then (bif Nat.beq x 3 then some (.aload_n 0, 1) else none) else (bif Nat.blt x 7 then (bif Nat.beq x 4 then some (.getfield 28, 3) else none) else (bif Nat.beq x 7 then some (.getfield 54, 3) else none)))) else (bif Nat.blt x 17 then (bif Nat.blt x 13 then (bif Nat.beq x 10 then some (.if_icmp .gt 32, 3) else none) else (bif Nat.blt x 14 then (bif Nat.beq x 13 then some (.aload_n 0, 1) else none) else (bif Nat.beq x 14 then some (.getfield 25, 3) else none))) else (bif Nat.blt x 19 then (bif Nat.blt x 18 then (bif Nat.beq x 17 then some (.iload_n 2, 1) else none) else (bif Nat.beq x 18 then some (.iaload, 1) else none)) else (bif Nat.blt x 20 then (bif Nat.beq x 19 then some (.aload_n 0, 1) else none) else (bif Nat.beq x 20 then some (.getfield 22, 3) else none))))) else (bif Nat.blt x 31 then (bif Nat.blt x 27 then (bif Nat.blt x 24 then (bif Nat.beq x 23 then some (.iload_n 1, 1) else none) else (bif Nat.blt x 26 then (bif Nat.beq x 24 then some (.bipush 16, 2) else none) else (bif Nat.beq x 26 then some (.imul, 1) else none))) else (bif Nat.blt x 29 then (bif Nat.blt x 28 then (bif Nat.beq x 27 then some (.iload_n 2, 1) else none) else (bif Nat.beq x 28 then some (.iadd, 1) else none)) else (bif Nat.blt x 30 then (bif Nat.beq x 29 then some (.iaload, 1) else none) else (bif Nat.beq x 30 then some (.iand, 1) else none)))) else (bif Nat.blt x 36 then (bif Nat.blt x 34 then (bif Nat.beq x 31 then some (.ifCond .eq 5, 3) else none) else (bif Nat.blt x 35 then (bif Nat.beq x 34 then some (.iconst 1, 1) else none) else (bif Nat.beq x 35 then some (.ireturn, 1) else none))) else (bif Nat.blt x 42 then (bif Nat.blt x 39 then (bif Nat.beq x 36 then some (.iinc 2 1, 3) else none) else (bif Nat.beq x 39 then some (.goto (-37), 3) else none)) else (bif Nat.blt x 43 then (bif Nat.beq x 42 then some (.iconst 0, 1) else none) else (bif Nat.beq x 43 then some (.ireturn, 1) else none)))))
def q_t152 (x : Nat) : Option (Instr × Nat) := bif Nat.blt x 21 then (bif Nat.blt x 10 then (bif Nat.blt x 7 then (bif Nat.blt x 1 then (bif Nat.beq x 0 then some (.aload_n 0, 1) else none) else (bif Nat.blt x 4 then (bif Nat.beq x 1 then some (.getfield 28, 3) else none) else (bif Nat.beq x 4 then some (.getfield 91, 3) else none))) else (bif Nat.blt x 8 then (bif Nat.beq x 7 then some (.iload_n 1, 1) else none) else (bif Nat.blt x 9 then (bif Nat.beq x 8 then some (.iaload, 1) else none) else (bif Nat.beq x 9 then some (.istore_n 2, 1) else none)))) else (bif Nat.blt x 17 then (bif Nat.blt x 11 then (bif Nat.beq x 10 then some (.aload_n 0, 1) else none) else (bif Nat.blt x 14 then (bif Nat.beq x 11 then some (.getfield 28, 3) else none) else (bif Nat.beq x 14 then some (.getfield 94, 3) else none))) else (bif Nat.blt x 19 then (bif Nat.blt x 18 then (bif Nat.beq x 17 then some (.iload_n 1, 1) else none) else (bif Nat.beq x 18 then some (.iaload, 1) else none)) else (bif Nat.blt x 20 then (bif Nat.beq x 19 then some (.istore_n 3, 1) else none) else (bif Nat.beq x 20 then some (.iload_n 3, 1) else none))))) else (bif Nat.blt x 31 then (bif Nat.blt x 26 then (bif Nat.blt x 22 then (bif Nat.beq x 21 then some (.iload_n 2, 1) else none) else (bif Nat.blt x 25 then (bif Nat.beq x 22 then some (.if_icmp .gt 19, 3) else none) else (bif Nat.beq x 25 then some (.aload_n 0, 1) else none))) else (bif Nat.blt x 29 then (bif Nat.beq x 26 then some (.getfield 25, 3) else none) else (bif Nat.blt x 30 then (bif Nat.beq x 29 then some (.iload_n 3, 1) else none) else (bif Nat.beq x 30 then some (.dup2, 1) else none)))) else (bif Nat.blt x 34 then (bif Nat.blt x 32 then (bif Nat.beq x 31 then some (.iaload, 1) else none) else (bif Nat.blt x 33 then (bif Nat.beq x 32 then some (.iconst 1, 1) else none) else (bif Nat.beq x 33 then some (.ior, 1) else none))) else (bif Nat.blt x 38 then (bif Nat.blt x 35 then (bif Nat.beq x 34 then some (.iastore, 1) else none) else (bif Nat.beq x 35 then some (.iinc 3 1, 3) else none)) else (bif Nat.blt x 41 then (bif Nat.beq x 38 then some (.goto (-18), 3) else none) else (bif Nat.beq x 41 then some (.return_, 1) else none)))))
def q_t153 (x : Nat) : Option (Instr × Nat) := bif Nat.blt x 30 then (bif Nat.blt x 12 then (bif Nat.blt x 8 then (bif Nat.blt x 2 then (bif Nat.blt x 1 then (bif Nat.beq x 0 then some (.aload_n 0, 1) else none) else (bif Nat.beq x 1 then some (.lload_n 1, 1) else none)) else (bif Nat.blt x 5 then (bif Nat.beq x 2 then some (.invokevirtual 19, 3) else none) else (bif Nat.beq x 5 then some (.ifCond .ne 5, 3) else none))) else (bif Nat.blt x 10 then (bif Nat.blt x 9 then (bif Nat.beq x 8 then some (.iconst (-1), 1) else none) else (bif Nat.beq x 9 then some (.ireturn, 1) else none)) else (bif Nat.blt x 11 then (bif Nat.beq x 10 then some (.iconst 0, 1) else none) else (bif Nat.beq x 11 then some (.istore_n 3, 1) else none)))) else (bif Nat.blt x 19 then (bif Nat.blt x 15 then (bif Nat.blt x 13 then (bif Nat.beq x 12 then some (.iload_n 3, 1) else none) else (bif Nat.beq x 13 then some (.bipush 8, 2) else none)) else (bif Nat.blt x 18 then (bif Nat.beq x 15 then some (.if_icmp .ge 43, 3) else none) else (bif Nat.beq x 18 then some (.lload_n 1, 1) else none))) else (bif Nat.blt x 23 then (bif Nat.blt x 20 then (bif Nat.beq x 19 then some (.iload_n 3, 1) else none) else (bif Nat.beq x 20 then some (.invokestatic 23, 3) else none)) else (bif Nat.blt x 25 then (bif Nat.beq x 23 then some (.istore 4, 2) else none) else (bif Nat.blt x 27 then (bif Nat.beq x 25 then some (.iload 4, 2) else none) else (bif Nat.beq x 27 then some (.ifCond .eq 25, 3) else none)))))) else (bif Nat.blt x 44 then (bif Nat.blt x 38 then (bif Nat.blt x 34 then (bif Nat.blt x 31 then (bif Nat.beq x 30 then some (.aload_n 0, 1) else none) else (bif Nat.beq x 31 then some (.getfield 9, 3) else none)) else (bif Nat.blt x 35 then (bif Nat.beq x 34 then some (.aload_n 0, 1) else none) else (bif Nat.beq x 35 then some (.getfield 15, 3) else none))) else (bif Nat.blt x 41 then (bif Nat.blt x 40 then (bif Nat.beq x 38 then some (.iload 4, 2) else none) else (bif Nat.beq x 40 then some (.i2c, 1) else none)) else (bif Nat.blt x 42 then (bif Nat.beq x 41 then some (.castore, 1) else none) else (bif Nat.blt x 43 then (bif Nat.beq x 42 then some (.aload_n 0, 1) else none) else (bif Nat.beq x 43 then some (.dup, 1) else none))))) else (bif Nat.blt x 52 then (bif Nat.blt x 48 then (bif Nat.blt x 47 then (bif Nat.beq x 44 then some (.getfield 15, 3) else none) else (bif Nat.beq x 47 then some (.iconst 1, 1) else none)) else (bif Nat.blt x 49 then (bif Nat.beq x 48 then some (.iadd, 1) else none) else (bif Nat.beq x 49 then some (.putfield 15, 3) else none))) else (bif Nat.blt x 58 then (bif Nat.blt x 55 then (bif Nat.beq x 52 then some (.iinc 3 1, 3) else none) else (bif Nat.beq x 55 then some (.goto (-43), 3) else none)) else (bif Nat.blt x 59 then (bif Nat.beq x 58 then some (.aload_n 0, 1) else none) else (bif Nat.blt x 62 then (bif Nat.beq x 59 then some (.getfield 15, 3) else none) else (bif Nat.beq x 62 then some (.ireturn, 1) else none))))))
def q_t154 (x : Nat) : Option (Instr × Nat) := bif Nat.blt x 6 then (bif Nat.blt x 4 then (bif Nat.blt x 1 then (bif Nat.beq x 0 then some (.aload_n 0, 1) else none) else (bif Nat.beq x 1 then some (.getfield 15, 3) else none)) else (bif Nat.blt x 5 then (bif Nat.beq x 4 then some (.istore_n 1, 1) else none) else (bif Nat.beq x 5 then some (.aload_n 0, 1) else none))) else (bif Nat.blt x 10 then (bif Nat.blt x 7 then (bif Nat.beq x 6 then some (.iconst 0, 1) else none) else (bif Nat.beq x 7 then some (.putfield 15, 3) else none)) else (bif Nat.blt x 11 then (bif Nat.beq x 10 then some (.iload_n 1, 1) else none) else (bif Nat.beq x 11 then some (.ireturn, 1) else none)))
def q_t155 (x : Nat) : Option (Instr × Nat) := bif Nat.blt x 34 then (bif Nat.blt x 13 then (bif Nat.blt x 5 then (bif Nat.blt x 2 then (bif Nat.blt x 1 then (bif Nat.beq x 0 then some (.iconst 0, 1) else none) else (bif Nat.beq x 1 then some (.istore_n 3, 1) else none)) else (bif Nat.blt x 3 then (bif Nat.beq x 2 then some (.iconst 0, 1) else none) else (bif Nat.beq x 3 then some (.istore 4, 2) else none))) else (bif Nat.blt x 9 then (bif Nat.blt x 7 then (bif Nat.beq x 5 then some (.iload 4, 2) else none) else (bif Nat.beq x 7 then some (.bipush 8, 2) else none)) else (bif Nat.blt x 12 then (bif Nat.beq x 9 then some (.if_icmp .ge 41, 3) else none) else (bif Nat.beq x 12 then some (.lload_n 1, 1) else none)))) else (bif Nat.blt x 22 then (bif Nat.blt x 18 then (bif Nat.blt x 15 then (bif Nat.beq x 13 then some (.iload 4, 2) else none) else (bif Nat.beq x 15 then some (.invokestatic 23, 3) else none)) else (bif Nat.blt x 20 then (bif Nat.beq x 18 then some (.istore 5, 2) else none) else (bif Nat.beq x 20 then some (.iload 5, 2) else none))) else (bif Nat.blt x 27 then (bif Nat.blt x 25 then (bif Nat.beq x 22 then some (.ifCond .eq 22, 3) else none) else (bif Nat.beq x 25 then some (.iload 5, 2) else none)) else (bif Nat.blt x 29 then (bif Nat.beq x 27 then some (.bipush 32, 2) else none) else (bif Nat.blt x 32 then (bif Nat.beq x 29 then some (.if_icmp .lt 10, 3) else none) else (bif Nat.beq x 32 then some (.iload 5, 2) else none)))))) else (bif Nat.blt x 51 then (bif Nat.blt x 41 then (bif Nat.blt x 39 then (bif Nat.blt x 36 then (bif Nat.beq x 34 then some (.bipush 126, 2) else none) else (bif Nat.beq x 36 then some (.if_icmp .le 5, 3) else none)) else (bif Nat.blt x 40 then (bif Nat.beq x 39 then some (.iconst 0, 1) else none) else (bif Nat.beq x 40 then some (.ireturn, 1) else none))) else (bif Nat.blt x 47 then (bif Nat.blt x 44 then (bif Nat.beq x 41 then some (.iinc 3 1, 3) else none) else (bif Nat.beq x 44 then some (.iinc 4 1, 3) else none)) else (bif Nat.blt x 50 then (bif Nat.beq x 47 then some (.goto (-42), 3) else none) else (bif Nat.beq x 50 then some (.aload_n 0, 1) else none)))) else (bif Nat.blt x 59 then (bif Nat.blt x 55 then (bif Nat.blt x 54 then (bif Nat.beq x 51 then some (.getfield 15, 3) else none) else (bif Nat.beq x 54 then some (.iload_n 3, 1) else none)) else (bif Nat.blt x 56 then (bif Nat.beq x 55 then some (.iadd, 1) else none) else (bif Nat.beq x 56 then some (.sipush 200, 3) else none))) else (bif Nat.blt x 63 then (bif Nat.blt x 62 then (bif Nat.beq x 59 then some (.if_icmp .gt 7, 3) else none) else (bif Nat.beq x 62 then some (.iconst 1, 1) else none)) else (bif Nat.blt x 66 then (bif Nat.beq x 63 then some (.goto 4, 3) else none) else (bif Nat.blt x 67 then (bif Nat.beq x 66 then some (.iconst 0, 1) else none) else (bif Nat.beq x 67 then some (.ireturn, 1) else none))))))
def q_t156 (x : Nat) : Option (Instr × Nat) := bif Nat.blt x 5 then (bif Nat.blt x 3 then (bif Nat.blt x 1 then (bif Nat.beq x 0 then some (.lload_n 0, 1) else none) else (bif Nat.beq x 1 then some (.bipush 8, 2) else none)) else (bif Nat.blt x 4 then (bif Nat.beq x 3 then some (.iload_n 2, 1) else none) else (bif Nat.beq x 4 then some (.imul, 1) else none))) else (bif Nat.blt x 7 then (bif Nat.blt x 6 then (bif Nat.beq x 5 then some (.lushr, 1) else none) else (bif Nat.beq x 6 then some (.l2i, 1) else none)) else (bif Nat.blt x 10 then (bif Nat.beq x 7 then some (.sipush 255, 3) else none) else (bif Nat.blt x 11 then (bif Nat.beq x 10 then some (.iand, 1) else none) else (bif Nat.beq x 11 then some (.ireturn, 1) else none))))
def q_t157 (x : Nat) : Option (Instr × Nat) := bif Nat.blt x 14 then (bif Nat.blt x 6 then (bif Nat.blt x 4 then (bif Nat.blt x 1 then (bif Nat.beq x 0 then some (.aload_n 0, 1) else none) else (bif Nat.beq x 1 then some (.getfield 15, 3) else none)) else (bif Nat.blt x 5 then (bif Nat.beq x 4 then some (.iload_n 1, 1) else none) else (bif Nat.beq x 5 then some (.iaload, 1) else none))) else (bif Nat.blt x 10 then (bif Nat.blt x 9 then (bif Nat.beq x 6 then some (.ifCond .ne 7, 3) else none) else (bif Nat.beq x 9 then some (.iconst 0, 1) else none)) else (bif Nat.blt x 13 then (bif Nat.beq x 10 then some (.goto 17, 3) else none) else (bif Nat.beq x 13 then some (.aload_n 0, 1) else none)))) else (bif Nat.blt x 24 then (bif Nat.blt x 20 then (bif Nat.blt x 17 then (bif Nat.beq x 14 then some (.getfield 31, 3) else none) else (bif Nat.beq x 17 then some (.getfield 35, 3) else none)) else (bif Nat.blt x 21 then (bif Nat.beq x 20 then some (.aload_n 0, 1) else none) else (bif Nat.beq x 21 then some (.getfield 15, 3) else none))) else (bif Nat.blt x 26 then (bif Nat.blt x 25 then (bif Nat.beq x 24 then some (.iload_n 1, 1) else none) else (bif Nat.beq x 25 then some (.iaload, 1) else none)) else (bif Nat.blt x 27 then (bif Nat.beq x 26 then some (.iaload, 1) else none) else (bif Nat.beq x 27 then some (.ireturn, 1) else none))))
def q_t158 (x : Nat) : Option (Instr × Nat) := bif Nat.blt x 26 then (bif Nat.blt x 13 then (bif Nat.blt x 6 then (bif Nat.blt x 4 then (bif Nat.blt x 1 then (bif Nat.beq x 0 then some (.aload_n 0, 1) else none) else (bif Nat.beq x 1 then some (.getfield 27, 3) else none)) else (bif Nat.blt x 5 then (bif Nat.beq x 4 then some (.istore_n 3, 1) else none) else (bif Nat.beq x 5 then some (.aload_n 0, 1) else none))) else (bif Nat.blt x 10 then (bif Nat.blt x 9 then (bif Nat.beq x 6 then some (.getfield 9, 3) else none) else (bif Nat.beq x 9 then some (.iload_n 3, 1) else none)) else (bif Nat.blt x 12 then (bif Nat.beq x 10 then some (.bipush 8, 2) else none) else (bif Nat.beq x 12 then some (.iload_n 1, 1) else none)))) else (bif Nat.blt x 19 then (bif Nat.blt x 15 then (bif Nat.blt x 14 then (bif Nat.beq x 13 then some (.iadd, 1) else none) else (bif Nat.beq x 14 then some (.iastore, 1) else none)) else (bif Nat.blt x 16 then (bif Nat.beq x 15 then some (.aload_n 0, 1) else none) else (bif Nat.beq x 16 then some (.getfield 15, 3) else none))) else (bif Nat.blt x 21 then (bif Nat.blt x 20 then (bif Nat.beq x 19 then some (.iload_n 3, 1) else none) else (bif Nat.beq x 20 then some (.iconst 0, 1) else none)) else (bif Nat.blt x 22 then (bif Nat.beq x 21 then some (.iastore, 1) else none) else (bif Nat.blt x 23 then (bif Nat.beq x 22 then some (.aload_n 0, 1) else none) else (bif Nat.beq x 23 then some (.getfield 18, 3) else none)))))) else (bif Nat.blt x 37 then (bif Nat.blt x 30 then (bif Nat.blt x 28 then (bif Nat.blt x 27 then (bif Nat.beq x 26 then some (.iload_n 3, 1) else none) else (bif Nat.beq x 27 then some (.iload_n 2, 1) else none)) else (bif Nat.blt x 29 then (bif Nat.beq x 28 then some (.iastore, 1) else none) else (bif Nat.beq x 29 then some (.aload_n 0, 1) else none))) else (bif Nat.blt x 34 then (bif Nat.blt x 33 then (bif Nat.beq x 30 then some (.getfield 21, 3) else none) else (bif Nat.beq x 33 then some (.iload_n 3, 1) else none)) else (bif Nat.blt x 35 then (bif Nat.beq x 34 then some (.iload_n 2, 1) else none) else (bif Nat.blt x 36 then (bif Nat.beq x 35 then some (.iconst 1, 1) else none) else (bif Nat.beq x 36 then some (.iadd, 1) else none))))) else (bif Nat.blt x 43 then (bif Nat.blt x 39 then (bif Nat.blt x 38 then (bif Nat.beq x 37 then some (.iastore, 1) else none) else (bif Nat.beq x 38 then some (.aload_n 0, 1) else none)) else (bif Nat.blt x 40 then (bif Nat.beq x 39 then some (.dup, 1) else none) else (bif Nat.beq x 40 then some (.getfield 27, 3) else none))) else (bif Nat.blt x 45 then (bif Nat.blt x 44 then (bif Nat.beq x 43 then some (.iconst 1, 1) else none) else (bif Nat.beq x 44 then some (.iadd, 1) else none)) else (bif Nat.blt x 48 then (bif Nat.beq x 45 then some (.putfield 27, 3) else none) else (bif Nat.blt x 49 then (bif Nat.beq x 48 then some (.iload_n 3, 1) else none) else (bif Nat.beq x 49 then some (.ireturn, 1) else none))))))
def q_t159 (x : Nat) : Option (Instr × Nat) := bif Nat.blt x 64 then (bif Nat.blt x 33 then (bif Nat.blt x 17 then (bif Nat.blt x 7 then (bif Nat.blt x 4 then (bif Nat.blt x 1 then (bif Nat.beq x 0 then some (.aload_n 0, 1) else none) else (bif Nat.beq x 1 then some (.getfield 27, 3) else none)) else (bif Nat.blt x 6 then (bif Nat.beq x 4 then some (.istore 5, 2) else none) else (bif Nat.beq x 6 then some (.aload_n 0, 1) else none))) else (bif Nat.blt x 13 then (bif Nat.blt x 10 then (bif Nat.beq x 7 then some (.getfield 31, 3) else none) else (bif Nat.beq x 10 then some (.getfield 35, 3) else none)) else (bif Nat.blt x 14 then (bif Nat.beq x 13 then some (.iload_n 1, 1) else none) else (bif Nat.blt x 15 then (bif Nat.beq x 14 then some (.iaload, 1) else none) else (bif Nat.beq x 15 then some (.istore 6, 2) else none))))) else (bif Nat.blt x 24 then (bif Nat.blt x 21 then (bif Nat.blt x 18 then (bif Nat.beq x 17 then some (.aload_n 0, 1) else none) else (bif Nat.beq x 18 then some (.getfield 9, 3) else none)) else (bif Nat.blt x 23 then (bif Nat.beq x 21 then some (.iload 5, 2) else none) else (bif Nat.beq x 23 then some (.aload_n 0, 1) else none))) else (bif Nat.blt x 30 then (bif Nat.blt x 27 then (bif Nat.beq x 24 then some (.getfield 31, 3) else none) else (bif Nat.beq x 27 then some (.getfield 40, 3) else none)) else (bif Nat.blt x 31 then (bif Nat.beq x 30 then some (.iload_n 1, 1) else none) else (bif Nat.blt x 32 then (bif Nat.beq x 31 then some (.iaload, 1) else none) else (bif Nat.beq x 32 then some (.iastore, 1) else none)))))) else (bif Nat.blt x 47 then (bif Nat.blt x 40 then (bif Nat.blt x 37 then (bif Nat.blt x 34 then (bif Nat.beq x 33 then some (.aload_n 0, 1) else none) else (bif Nat.beq x 34 then some (.getfield 15, 3) else none)) else (bif Nat.blt x 39 then (bif Nat.beq x 37 then some (.iload 5, 2) else none) else (bif Nat.beq x 39 then some (.iload_n 1, 1) else none))) else (bif Nat.blt x 42 then (bif Nat.blt x 41 then (bif Nat.beq x 40 then some (.iastore, 1) else none) else (bif Nat.beq x 41 then some (.aload_n 2, 1) else none)) else (bif Nat.blt x 43 then (bif Nat.beq x 42 then some (.iload_n 3, 1) else none) else (bif Nat.blt x 44 then (bif Nat.beq x 43 then some (.aload_n 0, 1) else none) else (bif Nat.beq x 44 then some (.getfield 24, 3) else none))))) else (bif Nat.blt x 53 then (bif Nat.blt x 50 then (bif Nat.blt x 49 then (bif Nat.beq x 47 then some (.iload 5, 2) else none) else (bif Nat.beq x 49 then some (.iconst 4, 1) else none)) else (bif Nat.blt x 51 then (bif Nat.beq x 50 then some (.imul, 1) else none) else (bif Nat.beq x 51 then some (.iload 6, 2) else none))) else (bif Nat.blt x 57 then (bif Nat.blt x 56 then (bif Nat.beq x 53 then some (.invokestatic 43, 3) else none) else (bif Nat.beq x 56 then some (.aload_n 0, 1) else none)) else (bif Nat.blt x 60 then (bif Nat.beq x 57 then some (.getfield 18, 3) else none) else (bif Nat.blt x 62 then (bif Nat.beq x 60 then some (.iload 5, 2) else none) else (bif Nat.beq x 62 then some (.iload 6, 2) else none))))))) else (bif Nat.blt x 98 then (bif Nat.blt x 80 then (bif Nat.blt x 73 then (bif Nat.blt x 69 then (bif Nat.blt x 67 then (bif Nat.beq x 64 then some (.ifCond .ne 8, 3) else none) else (bif Nat.beq x 67 then some (.iload 4, 2) else none)) else (bif Nat.blt x 72 then (bif Nat.beq x 69 then some (.goto 11, 3) else none) else (bif Nat.beq x 72 then some (.aload_n 0, 1) else none))) else (bif Nat.blt x 77 then (bif Nat.blt x 76 then (bif Nat.beq x 73 then some (.getfield 18, 3) else none) else (bif Nat.beq x 76 then some (.aload_n 2, 1) else none)) else (bif Nat.blt x 78 then (bif Nat.beq x 77 then some (.iload_n 3, 1) else none) else (bif Nat.blt x 79 then (bif Nat.beq x 78 then some (.iaload, 1) else none) else (bif Nat.beq x 79 then some (.iaload, 1) else none))))) else (bif Nat.blt x 87 then (bif Nat.blt x 82 then (bif Nat.blt x 81 then (bif Nat.beq x 80 then some (.iastore, 1) else none) else (bif Nat.beq x 81 then some (.aload_n 0, 1) else none)) else (bif Nat.blt x 85 then (bif Nat.beq x 82 then some (.getfield 21, 3) else none) else (bif Nat.beq x 85 then some (.iload 5, 2) else none))) else (bif Nat.blt x 92 then (bif Nat.blt x 89 then (bif Nat.beq x 87 then some (.iload 6, 2) else none) else (bif Nat.beq x 89 then some (.ifCond .ne 8, 3) else none)) else (bif Nat.blt x 94 then (bif Nat.beq x 92 then some (.iload 4, 2) else none) else (bif Nat.blt x 97 then (bif Nat.beq x 94 then some (.goto 16, 3) else none) else (bif Nat.beq x 97 then some (.aload_n 0, 1) else none)))))) else (bif Nat.blt x 110 then (bif Nat.blt x 105 then (bif Nat.blt x 102 then (bif Nat.blt x 101 then (bif Nat.beq x 98 then some (.getfield 21, 3) else none) else (bif Nat.beq x 101 then some (.aload_n 2, 1) else none)) else (bif Nat.blt x 103 then (bif Nat.beq x 102 then some (.iload_n 3, 1) else none) else (bif Nat.beq x 103 then some (.iload 6, 2) else none))) else (bif Nat.blt x 107 then (bif Nat.blt x 106 then (bif Nat.beq x 105 then some (.iadd, 1) else none) else (bif Nat.beq x 106 then some (.iconst 1, 1) else none)) else (bif Nat.blt x 108 then (bif Nat.beq x 107 then some (.isub, 1) else none) else (bif Nat.blt x 109 then (bif Nat.beq x 108 then some (.iaload, 1) else none) else (bif Nat.beq x 109 then some (.iaload, 1) else none))))) else (bif Nat.blt x 116 then (bif Nat.blt x 112 then (bif Nat.blt x 111 then (bif Nat.beq x 110 then some (.iastore, 1) else none) else (bif Nat.beq x 111 then some (.aload_n 0, 1) else none)) else (bif Nat.blt x 113 then (bif Nat.beq x 112 then some (.dup, 1) else none) else (bif Nat.beq x 113 then some (.getfield 27, 3) else none))) else (bif Nat.blt x 118 then (bif Nat.blt x 117 then (bif Nat.beq x 116 then some (.iconst 1, 1) else none) else (bif Nat.beq x 117 then some (.iadd, 1) else none)) else (bif Nat.blt x 121 then (bif Nat.beq x 118 then some (.putfield 27, 3) else none) else (bif Nat.blt x 123 then (bif Nat.beq x 121 then some (.iload 5, 2) else none) else (bif Nat.beq x 123 then some (.ireturn, 1) else none)))))))
def q_t160 (x : Nat) : Option (Instr × Nat) := bif Nat.blt x 7 then (bif Nat.blt x 2 then (bif Nat.blt x 1 then (bif Nat.beq x 0 then some (.aload_n 0, 1) else none) else (bif Nat.beq x 1 then some (.iload_n 1, 1) else none)) else (bif Nat.blt x 3 then (bif Nat.beq x 2 then some (.iload_n 2, 1) else none) else (bif Nat.blt x 4 then (bif Nat.beq x 3 then some (.iload_n 3, 1) else none) else (bif Nat.beq x 4 then some (.invokevirtual 7, 3) else none)))) else (bif Nat.blt x 13 then (bif Nat.blt x 10 then (bif Nat.beq x 7 then some (.goto 7, 3) else none) else (bif Nat.blt x 12 then (bif Nat.beq x 10 then some (.astore 4, 2) else none) else (bif Nat.beq x 12 then some (.iconst 1, 1) else none))) else (bif Nat.blt x 14 then (bif Nat.beq x 13 then some (.ireturn, 1) else none) else (bif Nat.blt x 15 then (bif Nat.beq x 14 then some (.iconst 0, 1) else none) else (bif Nat.beq x 15 then some (.ireturn, 1) else none))))
def q_t161 (x : Nat) : Option (Instr × Nat) := bif Nat.blt x 12 then (bif Nat.blt x 4 then (bif Nat.blt x 2 then (bif Nat.blt x 1 then (bif Nat.beq x 0 then some (.aload_n 2, 1) else none) else (bif Nat.beq x 1 then some (.iconst 0, 1) else none)) else (bif Nat.blt x 3 then (bif Nat.beq x 2 then some (.aload_n 0, 1) else none) else (bif Nat.beq x 3 then some (.iload_n 1, 1) else none))) else (bif Nat.blt x 8 then (bif Nat.blt x 7 then (bif Nat.beq x 4 then some (.invokevirtual 15, 3) else none) else (bif Nat.beq x 7 then some (.i2l, 1) else none)) else (bif Nat.blt x 9 then (bif Nat.beq x 8 then some (.lastore, 1) else none) else (bif Nat.beq x 9 then some (.goto 9, 3) else none)))) else (bif Nat.blt x 16 then (bif Nat.blt x 14 then (bif Nat.blt x 13 then (bif Nat.beq x 12 then some (.astore_n 3, 1) else none) else (bif Nat.beq x 13 then some (.iconst 1, 1) else none)) else (bif Nat.blt x 15 then (bif Nat.beq x 14 then some (.ireturn, 1) else none) else (bif Nat.beq x 15 then some (.astore_n 3, 1) else none))) else (bif Nat.blt x 18 then (bif Nat.blt x 17 then (bif Nat.beq x 16 then some (.iconst 2, 1) else none) else (bif Nat.beq x 17 then some (.ireturn, 1) else none)) else (bif Nat.blt x 19 then (bif Nat.beq x 18 then some (.iconst 0, 1) else none) else (bif Nat.beq x 19 then some (.ireturn, 1) else none))))
def q_t162 (x : Nat) : Option (Instr × Nat) := bif Nat.blt x 10 then (bif Nat.blt x 4 then (bif Nat.blt x 2 then (bif Nat.blt x 1 then (bif Nat.beq x 0 then some (.aload_n 3, 1) else none) else (bif Nat.beq x 1 then some (.iconst 0, 1) else none)) else (bif Nat.blt x 3 then (bif Nat.beq x 2 then some (.aload_n 0, 1) else none) else (bif Nat.beq x 3 then some (.iload_n 1, 1) else none))) else (bif Nat.blt x 8 then (bif Nat.blt x 5 then (bif Nat.beq x 4 then some (.iload_n 2, 1) else none) else (bif Nat.beq x 5 then some (.invokevirtual 21, 3) else none)) else (bif Nat.blt x 9 then (bif Nat.beq x 8 then some (.i2l, 1) else none) else (bif Nat.beq x 9 then some (.lastore, 1) else none)))) else (bif Nat.blt x 17 then (bif Nat.blt x 15 then (bif Nat.blt x 13 then (bif Nat.beq x 10 then some (.goto 11, 3) else none) else (bif Nat.beq x 13 then some (.astore 4, 2) else none)) else (bif Nat.blt x 16 then (bif Nat.beq x 15 then some (.iconst 1, 1) else none) else (bif Nat.beq x 16 then some (.ireturn, 1) else none))) else (bif Nat.blt x 20 then (bif Nat.blt x 19 then (bif Nat.beq x 17 then some (.astore 4, 2) else none) else (bif Nat.beq x 19 then some (.iconst 2, 1) else none)) else (bif Nat.blt x 21 then (bif Nat.beq x 20 then some (.ireturn, 1) else none) else (bif Nat.blt x 22 then (bif Nat.beq x 21 then some (.iconst 0, 1) else none) else (bif Nat.beq x 22 then some (.ireturn, 1) else none)))))
def q_t163 (x : Nat) : Option (Instr × Nat) := bif Nat.blt x 10 then (bif Nat.blt x 4 then (bif Nat.blt x 2 then (bif Nat.blt x 1 then (bif Nat.beq x 0 then some (.aload_n 3, 1) else none) else (bif Nat.beq x 1 then some (.iconst 0, 1) else none)) else (bif Nat.blt x 3 then (bif Nat.beq x 2 then some (.aload_n 0, 1) else none) else (bif Nat.beq x 3 then some (.iload_n 1, 1) else none))) else (bif Nat.blt x 8 then (bif Nat.blt x 5 then (bif Nat.beq x 4 then some (.iload_n 2, 1) else none) else (bif Nat.beq x 5 then some (.invokevirtual 27, 3) else none)) else (bif Nat.blt x 9 then (bif Nat.beq x 8 then some (.i2l, 1) else none) else (bif Nat.beq x 9 then some (.lastore, 1) else none)))) else (bif Nat.blt x 17 then (bif Nat.blt x 15 then (bif Nat.blt x 13 then (bif Nat.beq x 10 then some (.goto 11, 3) else none) else (bif Nat.beq x 13 then some (.astore 4, 2) else none)) else (bif Nat.blt x 16 then (bif Nat.beq x 15 then some (.iconst 1, 1) else none) else (bif Nat.beq x 16 then some (.ireturn, 1) else none))) else (bif Nat.blt x 20 then (bif Nat.blt x 19 then (bif Nat.beq x 17 then some (.astore 4, 2) else none) else (bif Nat.beq x 19 then some (.iconst 2, 1) else none)) else (bif Nat.blt x 21 then (bif Nat.beq x 20 then some (.ireturn, 1) else none) else (bif Nat.blt x 22 then (bif Nat.beq x 21 then some (.iconst 0, 1) else none) else (bif Nat.beq x 22 then some (.ireturn, 1) else none)))))
def q_t164 (x : Nat) : Option (Instr × Nat) := bif Nat.blt x 10 then (bif Nat.blt x 4 then (bif Nat.blt x 2 then (bif Nat.blt x 1 then (bif Nat.beq x 0 then some (.aload_n 3, 1) else none) else (bif Nat.beq x 1 then some (.iconst 0, 1) else none)) else (bif Nat.blt x 3 then (bif Nat.beq x 2 then some (.aload_n 0, 1) else none) else (bif Nat.beq x 3 then some (.iload_n 1, 1) else none))) else (bif Nat.blt x 8 then (bif Nat.blt x 5 then (bif Nat.beq x 4 then some (.iload_n 2, 1) else none) else (bif Nat.beq x 5 then some (.invokevirtual 31, 3) else none)) else (bif Nat.blt x 9 then (bif Nat.beq x 8 then some (.i2l, 1) else none) else (bif Nat.beq x 9 then some (.lastore, 1) else none)))) else (bif Nat.blt x 17 then (bif Nat.blt x 15 then (bif Nat.blt x 13 then (bif Nat.beq x 10 then some (.goto 11, 3) else none) else (bif Nat.beq x 13 then some (.astore 4, 2) else none)) else (bif Nat.blt x 16 then (bif Nat.beq x 15 then some (.iconst 1, 1) else none) else (bif Nat.beq x 16 then some (.ireturn, 1) else none))) else (bif Nat.blt x 20 then (bif Nat.blt x 19 then (bif Nat.beq x 17 then some (.astore 4, 2) else none) else (bif Nat.beq x 19 then some (.iconst 2, 1) else none)) else (bif Nat.blt x 21 then (bif Nat.beq x 20 then some (.ireturn, 1) else none) else (bif Nat.blt x 22 then (bif Nat.beq x 21 then some (.iconst 0, 1) else none) else (bif Nat.beq x 22 then some (.ireturn, 1) else none)))))
def q_t165 (x : Nat) : Option (Instr × Nat) := bif Nat.blt x 15 then (bif Nat.blt x 5 then (bif Nat.blt x 2 then (bif Nat.blt x 1 then (bif Nat.beq x 0 then some (.aload_n 3, 1) else none) else (bif Nat.beq x 1 then some (.iconst 0, 1) else none)) else (bif Nat.blt x 3 then (bif Nat.beq x 2 then some (.aload_n 0, 1) else none) else (bif Nat.blt x 4 then (bif Nat.beq x 3 then some (.iload_n 1, 1) else none) else (bif Nat.beq x 4 then some (.iload_n 2, 1) else none)))) else (bif Nat.blt x 9 then (bif Nat.blt x 8 then (bif Nat.beq x 5 then some (.invokevirtual 34, 3) else none) else (bif Nat.beq x 8 then some (.i2l, 1) else none)) else (bif Nat.blt x 10 then (bif Nat.beq x 9 then some (.lastore, 1) else none) else (bif Nat.blt x 13 then (bif Nat.beq x 10 then some (.goto 15, 3) else none) else (bif Nat.beq x 13 then some (.astore 4, 2) else none))))) else (bif Nat.blt x 21 then (bif Nat.blt x 17 then (bif Nat.blt x 16 then (bif Nat.beq x 15 then some (.iconst 1, 1) else none) else (bif Nat.beq x 16 then some (.ireturn, 1) else none)) else (bif Nat.blt x 19 then (bif Nat.beq x 17 then some (.astore 4, 2) else none) else (bif Nat.blt x 20 then (bif Nat.beq x 19 then some (.iconst 2, 1) else none) else (bif Nat.beq x 20 then some (.ireturn, 1) else none)))) else (bif Nat.blt x 24 then (bif Nat.blt x 23 then (bif Nat.beq x 21 then some (.astore 4, 2) else none) else (bif Nat.beq x 23 then some (.iconst 3, 1) else none)) else (bif Nat.blt x 25 then (bif Nat.beq x 24 then some (.ireturn, 1) else none) else (bif Nat.blt x 26 then (bif Nat.beq x 25 then some (.iconst 0, 1) else none) else (bif Nat.beq x 26 then some (.ireturn, 1) else none)))))
def q_t166 (x : Nat) : Option (Instr × Nat) := bif Nat.blt x 15 then (bif Nat.blt x 6 then (bif Nat.blt x 3 then (bif Nat.blt x 2 then (bif Nat.beq x 0 then some (.aload 4, 2) else none) else (bif Nat.beq x 2 then some (.iconst 0, 1) else none)) else (bif Nat.blt x 4 then (bif Nat.beq x 3 then some (.aload_n 0, 1) else none) else (bif Nat.blt x 5 then (bif Nat.beq x 4 then some (.iload_n 1, 1) else none) else (bif Nat.beq x 5 then some (.iload_n 2, 1) else none)))) else (bif Nat.blt x 10 then (bif Nat.blt x 7 then (bif Nat.beq x 6 then some (.iload_n 3, 1) else none) else (bif Nat.beq x 7 then some (.invokevirtual 38, 3) else none)) else (bif Nat.blt x 11 then (bif Nat.beq x 10 then some (.i2l, 1) else none) else (bif Nat.blt x 12 then (bif Nat.beq x 11 then some (.lastore, 1) else none) else (bif Nat.beq x 12 then some (.goto 15, 3) else none))))) else (bif Nat.blt x 22 then (bif Nat.blt x 18 then (bif Nat.blt x 17 then (bif Nat.beq x 15 then some (.astore 5, 2) else none) else (bif Nat.beq x 17 then some (.iconst 1, 1) else none)) else (bif Nat.blt x 19 then (bif Nat.beq x 18 then some (.ireturn, 1) else none) else (bif Nat.blt x 21 then (bif Nat.beq x 19 then some (.astore 5, 2) else none) else (bif Nat.beq x 21 then some (.iconst 2, 1) else none)))) else (bif Nat.blt x 26 then (bif Nat.blt x 23 then (bif Nat.beq x 22 then some (.ireturn, 1) else none) else (bif Nat.blt x 25 then (bif Nat.beq x 23 then some (.astore 5, 2) else none) else (bif Nat.beq x 25 then some (.iconst 3, 1) else none))) else (bif Nat.blt x 27 then (bif Nat.beq x 26 then some (.ireturn, 1) else none) else (bif Nat.blt x 28 then (bif Nat.beq x 27 then some (.iconst 0, 1) else none) else (bif Nat.beq x 28 then some (.ireturn, 1) else none)))))
def q_t167 (x : Nat) : Option (Instr × Nat) := bif Nat.blt x 15 then (bif Nat.blt x 5 then (bif Nat.blt x 2 then (bif Nat.blt x 1 then (bif Nat.beq x 0 then some (.aload_n 3, 1) else none) else (bif Nat.beq x 1 then some (.iconst 0, 1) else none)) else (bif Nat.blt x 3 then (bif Nat.beq x 2 then some (.aload_n 0, 1) else none) else (bif Nat.blt x 4 then (bif Nat.beq x 3 then some (.iload_n 1, 1) else none) else (bif Nat.beq x 4 then some (.iload_n 2, 1) else none)))) else (bif Nat.blt x 9 then (bif Nat.blt x 8 then (bif Nat.beq x 5 then some (.invokevirtual 42, 3) else none) else (bif Nat.beq x 8 then some (.i2l, 1) else none)) else (bif Nat.blt x 10 then (bif Nat.beq x 9 then some (.lastore, 1) else none) else (bif Nat.blt x 13 then (bif Nat.beq x 10 then some (.goto 15, 3) else none) else (bif Nat.beq x 13 then some (.astore 4, 2) else none))))) else (bif Nat.blt x 21 then (bif Nat.blt x 17 then (bif Nat.blt x 16 then (bif Nat.beq x 15 then some (.iconst 1, 1) else none) else (bif Nat.beq x 16 then some (.ireturn, 1) else none)) else (bif Nat.blt x 19 then (bif Nat.beq x 17 then some (.astore 4, 2) else none) else (bif Nat.blt x 20 then (bif Nat.beq x 19 then some (.iconst 2, 1) else none) else (bif Nat.beq x 20 then some (.ireturn, 1) else none)))) else (bif Nat.blt x 24 then (bif Nat.blt x 23 then (bif Nat.beq x 21 then some (.astore 4, 2) else none) else (bif Nat.beq x 23 then some (.iconst 3, 1) else none)) else (bif Nat.blt x 25 then (bif Nat.beq x 24 then some (.ireturn, 1) else none) else (bif Nat.blt x 26 then (bif Nat.beq x 25 then some (.iconst 0, 1) else none) else (bif Nat.beq x 26 then some (.ireturn, 1) else none)))))
def q_t168 (x : Nat) : Option (Instr × Nat) := bif Nat.blt x 8 then (bif Nat.blt x 3 then (bif Nat.blt x 1 then (bif Nat.beq x 0 then some (.aload_n 2, 1) else none) else (bif Nat.blt x 2 then (bif Nat.beq x 1 then some (.iconst 0, 1) else none) else (bif Nat.beq x 2 then some (.aload_n 0, 1) else none))) else (bif Nat.blt x 4 then (bif Nat.beq x 3 then some (.iload_n 1, 1) else none) else (bif Nat.blt x 7 then (bif Nat.beq x 4 then some (.invokevirtual 45, 3) else none) else (bif Nat.beq x 7 then some (.i2l, 1) else none)))) else (bif Nat.blt x 13 then (bif Nat.blt x 9 then (bif Nat.beq x 8 then some (.lastore, 1) else none) else (bif Nat.blt x 12 then (bif Nat.beq x 9 then some (.goto 6, 3) else none) else (bif Nat.beq x 12 then some (.astore_n 3, 1) else none))) else (bif Nat.blt x 15 then (bif Nat.blt x 14 then (bif Nat.beq x 13 then some (.iconst 1, 1) else none) else (bif Nat.beq x 14 then some (.ireturn, 1) else none)) else (bif Nat.blt x 16 then (bif Nat.beq x 15 then some (.iconst 0, 1) else none) else (bif Nat.beq x 16 then some (.ireturn, 1) else none))))
def q_t169 (x : Nat) : Option (Instr × Nat) := bif Nat.blt x 10 then (bif Nat.blt x 3 then (bif Nat.blt x 1 then (bif Nat.beq x 0 then some (.aload_n 0, 1) else none) else (bif Nat.blt x 2 then (bif Nat.beq x 1 then some (.iload_n 1, 1) else none) else (bif Nat.beq x 2 then some (.iload_n 2, 1) else none))) else (bif Nat.blt x 6 then (bif Nat.beq x 3 then some (.invokevirtual 48, 3) else none) else (bif Nat.blt x 9 then (bif Nat.beq x 6 then some (.goto 9, 3) else none) else (bif Nat.beq x 9 then some (.astore_n 3, 1) else none)))) else (bif Nat.blt x 13 then (bif Nat.blt x 11 then (bif Nat.beq x 10 then some (.iconst 1, 1) else none) else (bif Nat.blt x 12 then (bif Nat.beq x 11 then some (.ireturn, 1) else none) else (bif Nat.beq x 12 then some (.astore_n 3, 1) else none))) else (bif Nat.blt x 15 then (bif Nat.blt x 14 then (bif Nat.beq x 13 then some (.iconst 2, 1) else none) else (bif Nat.beq x 14 then some (.ireturn, 1) else none)) else (bif Nat.blt x 16 then (bif Nat.beq x 15 then some (.iconst 0, 1) else none) else (bif Nat.beq x 16 then some (.ireturn, 1) else none))))
def q_t170 (x : Nat) : Option (Instr × Nat) := bif Nat.blt x 12 then (bif Nat.blt x 4 then (bif Nat.blt x 2 then (bif Nat.blt x 1 then (bif Nat.beq x 0 then some (.aload_n 2, 1) else none) else (bif Nat.beq x 1 then some (.iconst 0, 1) else none)) else (bif Nat.blt x 3 then (bif Nat.beq x 2 then some (.aload_n 0, 1) else none) else (bif Nat.beq x 3 then some (.iload_n 1, 1) else none))) else (bif Nat.blt x 8 then (bif Nat.blt x 7 then (bif Nat.beq x 4 then some (.invokevirtual 52, 3) else none) else (bif Nat.beq x 7 then some (.i2l, 1) else none)) else (bif Nat.blt x 9 then (bif Nat.beq x 8 then some (.lastore, 1) else none) else (bif Nat.beq x 9 then some (.goto 9, 3) else none)))) else (bif Nat.blt x 16 then (bif Nat.blt x 14 then (bif Nat.blt x 13 then (bif Nat.beq x 12 then some (.astore_n 3, 1) else none) else (bif Nat.beq x 13 then some (.iconst 1, 1) else none)) else (bif Nat.blt x 15 then (bif Nat.beq x 14 then some (.ireturn, 1) else none) else (bif Nat.beq x 15 then some (.astore_n 3, 1) else none))) else (bif Nat.blt x 18 then (bif Nat.blt x 17 then (bif Nat.beq x 16 then some (.iconst 2, 1) else none) else (bif Nat.beq x 17 then some (.ireturn, 1) else none)) else (bif Nat.blt x 19 then (bif Nat.beq x 18 then some (.iconst 0, 1) else none) else (bif Nat.beq x 19 then some (.ireturn, 1) else none))))
def q_t171 (x : Nat) : Option (Instr × Nat) := bif Nat.blt x 8 then (bif Nat.blt x 3 then (bif Nat.blt x 1 then (bif Nat.beq x 0 then some (.aload_n 2, 1) else none) else (bif Nat.blt x 2 then (bif Nat.beq x 1 then some (.iconst 0, 1) else none) else (bif Nat.beq x 2 then some (.aload_n 0, 1) else none))) else (bif Nat.blt x 4 then (bif Nat.beq x 3 then some (.iload_n 1, 1) else none) else (bif Nat.blt x 7 then (bif Nat.beq x 4 then some (.invokevirtual 56, 3) else none) else (bif Nat.beq x 7 then some (.i2l, 1) else none)))) else (bif Nat.blt x 13 then (bif Nat.blt x 9 then (bif Nat.beq x 8 then some (.lastore, 1) else none) else (bif Nat.blt x 12 then (bif Nat.beq x 9 then some (.goto 6, 3) else none) else (bif Nat.beq x 12 then some (.astore_n 3, 1) else none))) else (bif Nat.blt x 15 then (bif Nat.blt x 14 then (bif Nat.beq x 13 then some (.iconst 1, 1) else none) else (bif Nat.beq x 14 then some (.ireturn, 1) else none)) else (bif Nat.blt x 16 then (bif Nat.beq x 15 then some (.iconst 0, 1) else none) else (bif Nat.beq x 16 then some (.ireturn, 1) else none))))
def q_t172 (x : Nat) : Option (Instr × Nat) := bif Nat.blt x 8 then (bif Nat.blt x 3 then (bif Nat.blt x 1 then (bif Nat.beq x 0 then some (.aload_n 1, 1) else none) else (bif Nat.blt x 2 then (bif Nat.beq x 1 then some (.iconst 0, 1) else none) else (bif Nat.beq x 2 then some (.aload_n 0, 1) else none))) else (bif Nat.blt x 6 then (bif Nat.beq x 3 then some (.invokevirtual 59, 3) else none) else (bif Nat.blt x 7 then (bif Nat.beq x 6 then some (.i2l, 1) else none) else (bif Nat.beq x 7 then some (.lastore, 1) else none)))) else (bif Nat.blt x 13 then (bif Nat.blt x 11 then (bif Nat.beq x 8 then some (.goto 6, 3) else none) else (bif Nat.blt x 12 then (bif Nat.beq x 11 then some (.astore_n 2, 1) else none) else (bif Nat.beq x 12 then some (.iconst 1, 1) else none))) else (bif Nat.blt x 14 then (bif Nat.beq x 13 then some (.ireturn, 1) else none) else (bif Nat.blt x 15 then (bif Nat.beq x 14 then some (.iconst 0, 1) else none) else (bif Nat.beq x 15 then some (.ireturn, 1) else none))))
def q_t173 (x : Nat) : Option (Instr × Nat) := bif Nat.blt x 10 then (bif Nat.blt x 4 then (bif Nat.blt x 2 then (bif Nat.blt x 1 then (bif Nat.beq x 0 then some (.aload_n 3, 1) else none) else (bif Nat.beq x 1 then some (.iconst 0, 1) else none)) else (bif Nat.blt x 3 then (bif Nat.beq x 2 then some (.aload_n 0, 1) else none) else (bif Nat.beq x 3 then some (.iload_n 1, 1) else none))) else (bif Nat.blt x 8 then (bif Nat.blt x 5 then (bif Nat.beq x 4 then some (.iload_n 2, 1) else none) else (bif Nat.beq x 5 then some (.invokevirtual 63, 3) else none)) else (bif Nat.blt x 9 then (bif Nat.beq x 8 then some (.i2l, 1) else none) else (bif Nat.beq x 9 then some (.lastore, 1) else none)))) else (bif Nat.blt x 17 then (bif Nat.blt x 15 then (bif Nat.blt x 13 then (bif Nat.beq x 10 then some (.goto 11, 3) else none) else (bif Nat.beq x 13 then some (.astore 4, 2) else none)) else (bif Nat.blt x 16 then (bif Nat.beq x 15 then some (.iconst 1, 1) else none) else (bif Nat.beq x 16 then some (.ireturn, 1) else none))) else (bif Nat.blt x 20 then (bif Nat.blt x 19 then (bif Nat.beq x 17 then some (.astore 4, 2) else none) else (bif Nat.beq x 19 then some (.iconst 2, 1) else none)) else (bif Nat.blt x 21 then (bif Nat.beq x 20 then some (.ireturn, 1) else none) else (bif Nat.blt x 22 then (bif Nat.beq x 21 then some (.iconst 0, 1) else none) else (bif Nat.beq x 22 then some (.ireturn, 1) else none)))))
def q_t174 (x : Nat) : Option (Instr × Nat) := bif Nat.blt x 9 then (bif Nat.blt x 3 then (bif Nat.blt x 1 then (bif Nat.beq x 0 then some (.aload_n 3, 1) else none) else (bif Nat.blt x 2 then (bif Nat.beq x 1 then some (.iconst 0, 1) else none) else (bif Nat.beq x 2 then some (.aload_n 0, 1) else none))) else (bif Nat.blt x 5 then (bif Nat.blt x 4 then (bif Nat.beq x 3 then some (.iload_n 1, 1) else none) else (bif Nat.beq x 4 then some (.iload_n 2, 1) else none)) else (bif Nat.blt x 8 then (bif Nat.beq x 5 then some (.invokevirtual 66, 3) else none) else (bif Nat.beq x 8 then some (.i2l, 1) else none)))) else (bif Nat.blt x 15 then (bif Nat.blt x 10 then (bif Nat.beq x 9 then some (.lastore, 1) else none) else (bif Nat.blt x 13 then (bif Nat.beq x 10 then some (.goto 7, 3) else none) else (bif Nat.beq x 13 then some (.astore 4, 2) else none))) else (bif Nat.blt x 17 then (bif Nat.blt x 16 then (bif Nat.beq x 15 then some (.iconst 1, 1) else none) else (bif Nat.beq x 16 then some (.ireturn, 1) else none)) else (bif Nat.blt x 18 then (bif Nat.beq x 17 then some (.iconst 0, 1) else none) else (bif Nat.beq x 18 then some (.ireturn, 1) else none))))
def q_t175 (x : Nat) : Option (Instr × Nat) := bif Nat.blt x 638 then (bif Nat.blt x 366 then (bif Nat.blt x 232 then (bif Nat.blt x 159 then (bif Nat.blt x 36 then (bif Nat.blt x 20 then (bif Nat.blt x 11 then (bif Nat.blt x 4 then (bif Nat.blt x 3 then (bif Nat.beq x 0 then some (.new 8, 3) else none) else (bif Nat.beq x 3 then some (.dup, 1) else none)) else (bif Nat.blt x 7 then (bif Nat.beq x 4 then some (.invokespecial 69, 3) else none) else (bif Nat.blt x 8 then (bif Nat.beq x 7 then some (.astore_n 1, 1) else none) else (bif Nat.beq x 8 then some (.new 70, 3) else none)))) else (bif Nat.blt x 16 then (bif Nat.blt x 12 then (bif Nat.beq x 11 then some (.dup, 1) else none) else (bif Nat.blt x 15 then (bif Nat.beq x 12 then some (.invokespecial 72, 3) else none) else (bif Nat.beq x 15 then some (.astore_n 2, 1) else none))) else (bif Nat.blt x 17 then (bif Nat.beq x 16 then some (.iconst 1, 1) else none) else (bif Nat.blt x 19 then (bif Nat.beq x 17 then some (.newarray .long, 2) else none) else (bif Nat.beq x 19 then some (.astore_n 3, 1) else none))))) else (bif Nat.blt x 27 then (bif Nat.blt x 23 then (bif Nat.blt x 21 then (bif Nat.beq x 20 then some (.iconst 0, 1) else none) else (bif Nat.beq x 21 then some (.istore 4, 2) else none)) else (bif Nat.blt x 25 then (bif Nat.beq x 23 then some (.iload 4, 2) else none) else (bif Nat.blt x 26 then (bif Nat.beq x 25 then some (.aload_n 0, 1) else none) else (bif Nat.beq x 26 then some (.arraylength, 1) else none)))) else (bif Nat.blt x 32 then (bif Nat.blt x 28 then (bif Nat.beq x 27 then some (.iconst 4, 1) else none) else (bif Nat.blt x 29 then (bif Nat.beq x 28 then some (.isub, 1) else none) else (bif Nat.beq x 29 then some (.if_icmp .gt 1172, 3) else none))) else (bif Nat.blt x 33 then (bif Nat.beq x 32 then some (.aload_n 0, 1) else none) else (bif Nat.blt x 35 then (bif Nat.beq x 33 then some (.iload 4, 2) else none) else (bif Nat.beq x 35 then some (.iaload, 1) else none)))))) else (bif Nat.blt x 142 then (bif Nat.blt x 134 then (bif Nat.blt x 39 then (bif Nat.blt x 38 then (bif Nat.beq x 36 then some (.bipush 31, 2) else none) else (bif Nat.beq x 38 then some (.iand, 1) else none)) else (bif Nat.blt x 132 then (bif Nat.beq x 39 then some (.tableswitch 1156 0 19 #[93, 150, 163, 176, 189, 251, 307, 375, 445, 513, 583, 663, 733, 789, 837, 895, 920, 976, 1020, 1088], 93) else none) else (bif Nat.blt x 133 then (bif Nat.beq x 132 then some (.aload_n 1, 1) else none) else (bif Nat.beq x 133 then some (.aload_n 0, 1) else none)))) else (bif Nat.blt x 138 then (bif Nat.blt x 136 then (bif Nat.beq x 134 then some (.iload 4, 2) else none) else (bif Nat.blt x 137 then (bif Nat.beq x 136 then some (.iconst 1, 1) else none) else (bif Nat.beq x 137 then some (.iadd, 1) else none))) else (bif Nat.blt x 139 then (bif Nat.beq x 138 then some (.iaload, 1) else none) else (bif Nat.blt x 140 then (bif Nat.beq x 139 then some (.i2l, 1) else none) else (bif Nat.beq x 140 then some (.bipush 32, 2) else none))))) else (bif Nat.blt x 149 then (bif Nat.blt x 146 then (bif Nat.blt x 143 then (bif Nat.beq x 142 then some (.lshl, 1) else none) else (bif Nat.blt x 144 then (bif Nat.beq x 143 then some (.aload_n 0, 1) else none) else (bif Nat.beq x 144 then some (.iload 4, 2) else none))) else (bif Nat.blt x 147 then (bif Nat.beq x 146 then some (.iconst 2, 1) else none) else (bif Nat.blt x 148 then (bif Nat.beq x 147 then some (.iadd, 1) else none) else (bif Nat.beq x 148 then some (.iaload, 1) else none)))) else (bif Nat.blt x 154 then (bif Nat.blt x 150 then (bif Nat.beq x 149 then some (.i2l, 1) else none) else (bif Nat.blt x 153 then (bif Nat.beq x 150 then some (.ldc2_w 73, 3) else none) else (bif Nat.beq x 153 then some (.land, 1) else none))) else (bif Nat.blt x 155 then (bif Nat.beq x 154 then some (.lor, 1) else none) else (bif Nat.blt x 158 then (bif Nat.beq x 155 then some (.invokevirtual 75, 3) else none) else (bif Nat.beq x 158 then some (.aload_n 2, 1) else none))))))) else (bif Nat.blt x 190 then (bif Nat.blt x 173 then (bif Nat.blt x 165 then (bif Nat.blt x 162 then (bif Nat.blt x 160 then (bif Nat.beq x 159 then some (.aload_n 0, 1) else none) else (bif Nat.beq x 160 then some (.iload 4, 2) else none)) else (bif Nat.blt x 163 then (bif Nat.beq x 162 then some (.iconst 1, 1) else none) else (bif Nat.blt x 164 then (bif Nat.beq x 163 then some (.iadd, 1) else none) else (bif Nat.beq x 164 then some (.iaload, 1) else none)))) else (bif Nat.blt x 169 then (bif Nat.blt x 166 then (bif Nat.beq x 165 then some (.i2l, 1) else none) else (bif Nat.blt x 168 then (bif Nat.beq x 166 then some (.bipush 32, 2) else none) else (bif Nat.beq x 168 then some (.lshl, 1) else none))) else (bif Nat.blt x 170 then (bif Nat.beq x 169 then some (.aload_n 0, 1) else none) else (bif Nat.blt x 172 then (bif Nat.beq x 170 then some (.iload 4, 2) else none) else (bif Nat.beq x 172 then some (.iconst 2, 1) else none))))) else (bif Nat.blt x 180 then (bif Nat.blt x 175 then (bif Nat.blt x 174 then (bif Nat.beq x 173 then some (.iadd, 1) else none) else (bif Nat.beq x 174 then some (.iaload, 1) else none)) else (bif Nat.blt x 176 then (bif Nat.beq x 175 then some (.i2l, 1) else none) else (bif Nat.blt x 179 then (bif Nat.beq x 176 then some (.ldc2_w 73, 3) else none) else (bif Nat.beq x 179 then some (.land, 1) else none)))) else (bif Nat.blt x 187 then (bif Nat.blt x 181 then (bif Nat.beq x 180 then some (.lor, 1) else none) else (bif Nat.blt x 184 then (bif Nat.beq x 181 then some (.invokevirtual 79, 3) else none) else (bif Nat.beq x 184 then some (.if_icmp .eq 1011, 3) else none))) else (bif Nat.blt x 188 then (bif Nat.beq x 187 then some (.iconst 0, 1) else none) else (bif Nat.blt x 189 then (bif Nat.beq x 188 then some (.ireturn, 1) else none) else (bif Nat.beq x 189 then some (.aload_n 1, 1) else none)))))) else (bif Nat.blt x 213 then (bif Nat.blt x 201 then (bif Nat.blt x 194 then (bif Nat.blt x 193 then (bif Nat.beq x 190 then some (.invokevirtual 80, 3) else none) else (bif Nat.beq x 193 then some (.aload_n 2, 1) else none)) else (bif Nat.blt x 197 then (bif Nat.beq x 194 then some (.invokevirtual 83, 3) else none) else (bif Nat.blt x 200 then (bif Nat.beq x 197 then some (.if_icmp .eq 998, 3) else none) else (bif Nat.beq x 200 then some (.iconst 0, 1) else none)))) else (bif Nat.blt x 206 then (bif Nat.blt x 202 then (bif Nat.beq x 201 then some (.ireturn, 1) else none) else (bif Nat.blt x 203 then (bif Nat.beq x 202 then some (.aload_n 1, 1) else none) else (bif Nat.beq x 203 then some (.invokevirtual 84, 3) else none))) else (bif Nat.blt x 207 then (bif Nat.beq x 206 then some (.aload_n 2, 1) else none) else (bif Nat.blt x 210 then (bif Nat.beq x 207 then some (.invokevirtual 87, 3) else none) else (bif Nat.beq x 210 then some (.if_icmp .eq 985, 3) else none))))) else (bif Nat.blt x 223 then (bif Nat.blt x 216 then (bif Nat.blt x 214 then (bif Nat.beq x 213 then some (.iconst 0, 1) else none) else (bif Nat.blt x 215 then (bif Nat.beq x 214 then some (.ireturn, 1) else none) else (bif Nat.beq x 215 then some (.aload_n 1, 1) else none))) else (bif Nat.blt x 219 then (bif Nat.beq x 216 then some (.invokevirtual 88, 3) else none) else (bif Nat.blt x 220 then (bif Nat.beq x 219 then some (.aload_n 2, 1) else none) else (bif Nat.beq x 220 then some (.invokevirtual 91, 3) else none)))) else (bif Nat.blt x 228 then (bif Nat.blt x 226 then (bif Nat.beq x 223 then some (.if_icmp .eq 972, 3) else none) else (bif Nat.blt x 227 then (bif Nat.beq x 226 then some (.iconst 0, 1) else none) else (bif Nat.beq x 227 then some (.ireturn, 1) else none))) else (bif Nat.blt x 229 then (bif Nat.beq x 228 then some (.aload_n 1, 1) else none) else (bif Nat.blt x 230 then (bif Nat.beq x 229 then some (.aload_n 0, 1) else none) else (bif Nat.beq x 230 then some (.iload 4, 2) else none)))))))) else (bif Nat.blt x 295 then (bif Nat.blt x 260 then (bif Nat.blt x 245 then (bif Nat.blt x 237 then (bif Nat.blt x 234 then (bif Nat.blt x 233 then (bif Nat.beq x 232 then some (.iconst 1, 1) else none) else (bif Nat.beq x 233 then some (.iadd, 1) else none)) else (bif Nat.blt x 235 then (bif Nat.beq x 234 then some (.iaload, 1) else none) else (bif Nat.blt x 236 then (bif Nat.beq x 235 then some (.i2c, 1) else none) else (bif Nat.beq x 236 then some (.aload_n 0, 1) else none)))) else (bif Nat.blt x 241 then (bif Nat.blt x 239 then (bif Nat.beq x 237 then some (.iload 4, 2) else none) else (bif Nat.blt x 240 then (bif Nat.beq x 239 then some (.iconst 2, 1) else none) else (bif Nat.beq x 240 then some (.iadd, 1) else none))) else (bif Nat.blt x 242 then (bif Nat.beq x 241 then some (.iaload, 1) else none) else (bif Nat.blt x 243 then (bif Nat.beq x 242 then some (.aload_n 0, 1) else none) else (bif Nat.beq x 243 then some (.iload 4, 2) else none))))) else (bif Nat.blt x 253 then (bif Nat.blt x 247 then (bif Nat.blt x 246 then (bif Nat.beq x 245 then some (.iconst 3, 1) else none) else (bif Nat.beq x 246 then some (.iadd, 1) else none)) else (bif Nat.blt x 248 then (bif Nat.beq x 247 then some (.iaload, 1) else none) else (bif Nat.blt x 251 then (bif Nat.beq x 248 then some (.invokestatic 92, 3) else none) else (bif Nat.beq x 251 then some (.istore 5, 2) else none)))) else (bif Nat.blt x 257 then (bif Nat.blt x 254 then (bif Nat.beq x 253 then some (.aload_n 2, 1) else none) else (bif Nat.blt x 255 then (bif Nat.beq x 254 then some (.aload_n 0, 1) else none) else (bif Nat.beq x 255 then some (.iload 4, 2) else none))) else (bif Nat.blt x 258 then (bif Nat.beq x 257 then some (.iconst 1, 1) else none) else (bif Nat.blt x 259 then (bif Nat.beq x 258 then some (.iadd, 1) else none) else (bif Nat.beq x 259 then some (.iaload, 1) else none)))))) else (bif Nat.blt x 273 then (bif Nat.blt x 266 then (bif Nat.blt x 262 then (bif Nat.blt x 261 then (bif Nat.beq x 260 then some (.i2c, 1) else none) else (bif Nat.beq x 261 then some (.aload_n 0, 1) else none)) else (bif Nat.blt x 264 then (bif Nat.beq x 262 then some (.iload 4, 2) else none) else (bif Nat.blt x 265 then (bif Nat.beq x 264 then some (.iconst 2, 1) else none) else (bif Nat.beq x 265 then some (.iadd, 1) else none)))) else (bif Nat.blt x 270 then (bif Nat.blt x 267 then (bif Nat.beq x 266 then some (.iaload, 1) else none) else (bif Nat.blt x 268 then (bif Nat.beq x 267 then some (.aload_n 0, 1) else none) else (bif Nat.beq x 268 then some (.iload 4, 2) else none))) else (bif Nat.blt x 271 then (bif Nat.beq x 270 then some (.iconst 3, 1) else none) else (bif Nat.blt x 272 then (bif Nat.beq x 271 then some (.iadd, 1) else none) else (bif Nat.beq x 272 then some (.iaload, 1) else none))))) else (bif Nat.blt x 286 then (bif Nat.blt x 280 then (bif Nat.blt x 276 then (bif Nat.beq x 273 then some (.invokevirtual 97, 3) else none) else (bif Nat.blt x 277 then (bif Nat.beq x 276 then some (.aload_n 2, 1) else none) else (bif Nat.beq x 277 then some (.invokevirtual 98, 3) else none))) else (bif Nat.blt x 282 then (bif Nat.beq x 280 then some (.iload 5, 2) else none) else (bif Nat.blt x 285 then (bif Nat.beq x 282 then some (.if_icmp .eq 5, 3) else none) else (bif Nat.beq x 285 then some (.iconst 0, 1) else none)))) else (bif Nat.blt x 291 then (bif Nat.blt x 287 then (bif Nat.beq x 286 then some (.ireturn, 1) else none) else (bif Nat.blt x 290 then (bif Nat.beq x 287 then some (.goto 908, 3) else none) else (bif Nat.beq x 290 then some (.aload_n 1, 1) else none))) else (bif Nat.blt x 292 then (bif Nat.beq x 291 then some (.aload_n 0, 1) else none) else (bif Nat.blt x 294 then (bif Nat.beq x 292 then some (.iload 4, 2) else none) else (bif Nat.beq x 294 then some (.iconst 1, 1) else none))))))) else (bif Nat.blt x 333 then (bif Nat.blt x 310 then (bif Nat.blt x 303 then (bif Nat.blt x 297 then (bif Nat.blt x 296 then (bif Nat.beq x 295 then some (.iadd, 1) else none) else (bif Nat.beq x 296 then some (.iaload, 1) else none)) else (bif Nat.blt x 298 then (bif Nat.beq x 297 then some (.aload_n 3, 1) else none) else (bif Nat.blt x 301 then (bif Nat.beq x 298 then some (.invokestatic 101, 3) else none) else (bif Nat.beq x 301 then some (.istore 5, 2) else none)))) else (bif Nat.blt x 307 then (bif Nat.blt x 304 then (bif Nat.beq x 303 then some (.aload_n 2, 1) else none) else (bif Nat.blt x 305 then (bif Nat.beq x 304 then some (.aload_n 0, 1) else none) else (bif Nat.beq x 305 then some (.iload 4, 2) else none))) else (bif Nat.blt x 308 then (bif Nat.beq x 307 then some (.iconst 1, 1) else none) else (bif Nat.blt x 309 then (bif Nat.beq x 308 then some (.iadd, 1) else none) else (bif Nat.beq x 309 then some (.iaload, 1) else none))))) else (bif Nat.blt x 324 then (bif Nat.blt x 316 then (bif Nat.blt x 313 then (bif Nat.beq x 310 then some (.invokevirtual 104, 3) else none) else (bif Nat.blt x 315 then (bif Nat.beq x 313 then some (.istore 6, 2) else none) else (bif Nat.beq x 315 then some (.aload_n 2, 1) else none))) else (bif Nat.blt x 319 then (bif Nat.beq x 316 then some (.invokevirtual 98, 3) else none) else (bif Nat.blt x 321 then (bif Nat.beq x 319 then some (.iload 5, 2) else none) else (bif Nat.beq x 321 then some (.if_icmp .eq 5, 3) else none)))) else (bif Nat.blt x 328 then (bif Nat.blt x 325 then (bif Nat.beq x 324 then some (.iconst 0, 1) else none) else (bif Nat.blt x 326 then (bif Nat.beq x 325 then some (.ireturn, 1) else none) else (bif Nat.beq x 326 then some (.iload 5, 2) else none))) else (bif Nat.blt x 331 then (bif Nat.beq x 328 then some (.ifCond .ne 15, 3) else none) else (bif Nat.blt x 332 then (bif Nat.beq x 331 then some (.aload_n 3, 1) else none) else (bif Nat.beq x 332 then some (.iconst 0, 1) else none)))))) else (bif Nat.blt x 350 then (bif Nat.blt x 341 then (bif Nat.blt x 336 then (bif Nat.blt x 334 then (bif Nat.beq x 333 then some (.laload, 1) else none) else (bif Nat.beq x 334 then some (.iload 6, 2) else none)) else (bif Nat.blt x 337 then (bif Nat.beq x 336 then some (.i2l, 1) else none) else (bif Nat.blt x 338 then (bif Nat.beq x 337 then some (.lcmp, 1) else none) else (bif Nat.beq x 338 then some (.ifCond .eq 5, 3) else none)))) else (bif Nat.blt x 346 then (bif Nat.blt x 342 then (bif Nat.beq x 341 then some (.iconst 0, 1) else none) else (bif Nat.blt x 343 then (bif Nat.beq x 342 then some (.ireturn, 1) else none) else (bif Nat.beq x 343 then some (.goto 852, 3) else none))) else (bif Nat.blt x 347 then (bif Nat.beq x 346 then some (.aload_n 1, 1) else none) else (bif Nat.blt x 348 then (bif Nat.beq x 347 then some (.aload_n 0, 1) else none) else (bif Nat.beq x 348 then some (.iload 4, 2) else none))))) else (bif Nat.blt x 357 then (bif Nat.blt x 353 then (bif Nat.blt x 351 then (bif Nat.beq x 350 then some (.iconst 1, 1) else none) else (bif Nat.blt x 352 then (bif Nat.beq x 351 then some (.iadd, 1) else none) else (bif Nat.beq x 352 then some (.iaload, 1) else none))) else (bif Nat.blt x 354 then (bif Nat.beq x 353 then some (.aload_n 0, 1) else none) else (bif Nat.blt x 356 then (bif Nat.beq x 354 then some (.iload 4, 2) else none) else (bif Nat.beq x 356 then some (.iconst 2, 1) else none)))) else (bif Nat.blt x 360 then (bif Nat.blt x 358 then (bif Nat.beq x 357 then some (.iadd, 1) else none) else (bif Nat.blt x 359 then (bif Nat.beq x 358 then some (.iaload, 1) else none) else (bif Nat.beq x 359 then some (.aload_n 3, 1) else none))) else (bif Nat.blt x 363 then (bif Nat.beq x 360 then some (.invokestatic 105, 3) else none) else (bif Nat.blt x 365 then (bif Nat.beq x 363 then some (.istore 5, 2) else none) else (bif Nat.beq x 365 then some (.aload_n 2, 1) else none))))))))) else (bif Nat.blt x 503 then (bif Nat.blt x 434 then (bif Nat.blt x 401 then (bif Nat.blt x 381 then (bif Nat.blt x 372 then (bif Nat.blt x 369 then (bif Nat.blt x 367 then (bif Nat.beq x 366 then some (.aload_n 0, 1) else none) else (bif Nat.beq x 367 then some (.iload 4, 2) else none)) else (bif Nat.blt x 370 then (bif Nat.beq x 369 then some (.iconst 1, 1) else none) else (bif Nat.blt x 371 then (bif Nat.beq x 370 then some (.iadd, 1) else none) else (bif Nat.beq x 371 then some (.iaload, 1) else none)))) else (bif Nat.blt x 376 then (bif Nat.blt x 373 then (bif Nat.beq x 372 then some (.aload_n 0, 1) else none) else (bif Nat.blt x 375 then (bif Nat.beq x 373 then some (.iload 4, 2) else none) else (bif Nat.beq x 375 then some (.iconst 2, 1) else none))) else (bif Nat.blt x 377 then (bif Nat.beq x 376 then some (.iadd, 1) else none) else (bif Nat.blt x 378 then (bif Nat.beq x 377 then some (.iaload, 1) else none) else (bif Nat.beq x 378 then some (.invokevirtual 108, 3) else none))))) else (bif Nat.blt x 392 then (bif Nat.blt x 384 then (bif Nat.blt x 383 then (bif Nat.beq x 381 then some (.istore 6, 2) else none) else (bif Nat.beq x 383 then some (.aload_n 2, 1) else none)) else (bif Nat.blt x 387 then (bif Nat.beq x 384 then some (.invokevirtual 98, 3) else none) else (bif Nat.blt x 389 then (bif Nat.beq x 387 then some (.iload 5, 2) else none) else (bif Nat.beq x 389 then some (.if_icmp .eq 5, 3) else none)))) else (bif Nat.blt x 396 then (bif Nat.blt x 393 then (bif Nat.beq x 392 then some (.iconst 0, 1) else none) else (bif Nat.blt x 394 then (bif Nat.beq x 393 then some (.ireturn, 1) else none) else (bif Nat.beq x 394 then some (.iload 5, 2) else none))) else (bif Nat.blt x 399 then (bif Nat.beq x 396 then some (.ifCond .ne 15, 3) else none) else (bif Nat.blt x 400 then (bif Nat.beq x 399 then some (.aload_n 3, 1) else none) else (bif Nat.beq x 400 then some (.iconst 0, 1) else none)))))) else (bif Nat.blt x 418 then (bif Nat.blt x 409 then (bif Nat.blt x 404 then (bif Nat.blt x 402 then (bif Nat.beq x 401 then some (.laload, 1) else none) else (bif Nat.beq x 402 then some (.iload 6, 2) else none)) else (bif Nat.blt x 405 then (bif Nat.beq x 404 then some (.i2l, 1) else none) else (bif Nat.blt x 406 then (bif Nat.beq x 405 then some (.lcmp, 1) else none) else (bif Nat.beq x 406 then some (.ifCond .eq 5, 3) else none)))) else (bif Nat.blt x 414 then (bif Nat.blt x 410 then (bif Nat.beq x 409 then some (.iconst 0, 1) else none) else (bif Nat.blt x 411 then (bif Nat.beq x 410 then some (.ireturn, 1) else none) else (bif Nat.beq x 411 then some (.goto 784, 3) else none))) else (bif Nat.blt x 415 then (bif Nat.beq x 414 then some (.aload_n 1, 1) else none) else (bif Nat.blt x 416 then (bif Nat.beq x 415 then some (.aload_n 0, 1) else none) else (bif Nat.beq x 416 then some (.iload 4, 2) else none))))) else (bif Nat.blt x 425 then (bif Nat.blt x 421 then (bif Nat.blt x 419 then (bif Nat.beq x 418 then some (.iconst 1, 1) else none) else (bif Nat.blt x 420 then (bif Nat.beq x 419 then some (.iadd, 1) else none) else (bif Nat.beq x 420 then some (.iaload, 1) else none))) else (bif Nat.blt x 422 then (bif Nat.beq x 421 then some (.i2c, 1) else none) else (bif Nat.blt x 423 then (bif Nat.beq x 422 then some (.aload_n 0, 1) else none) else (bif Nat.beq x 423 then some (.iload 4, 2) else none)))) else (bif Nat.blt x 428 then (bif Nat.blt x 426 then (bif Nat.beq x 425 then some (.iconst 2, 1) else none) else (bif Nat.blt x 427 then (bif Nat.beq x 426 then some (.iadd, 1) else none) else (bif Nat.beq x 427 then some (.iaload, 1) else none))) else (bif Nat.blt x 429 then (bif Nat.beq x 428 then some (.aload_n 3, 1) else none) else (bif Nat.blt x 432 then (bif Nat.beq x 429 then some (.invokestatic 109, 3) else none) else (bif Nat.beq x 432 then some (.istore 5, 2) else none))))))) else (bif Nat.blt x 470 then (bif Nat.blt x 447 then (bif Nat.blt x 440 then (bif Nat.blt x 436 then (bif Nat.blt x 435 then (bif Nat.beq x 434 then some (.aload_n 2, 1) else none) else (bif Nat.beq x 435 then some (.aload_n 0, 1) else none)) else (bif Nat.blt x 438 then (bif Nat.beq x 436 then some (.iload 4, 2) else none) else (bif Nat.blt x 439 then (bif Nat.beq x 438 then some (.iconst 1, 1) else none) else (bif Nat.beq x 439 then some (.iadd, 1) else none)))) else (bif Nat.blt x 443 then (bif Nat.blt x 441 then (bif Nat.beq x 440 then some (.iaload, 1) else none) else (bif Nat.blt x 442 then (bif Nat.beq x 441 then some (.i2c, 1) else none) else (bif Nat.beq x 442 then some (.aload_n 0, 1) else none))) else (bif Nat.blt x 445 then (bif Nat.beq x 443 then some (.iload 4, 2) else none) else (bif Nat.blt x 446 then (bif Nat.beq x 445 then some (.iconst 2, 1) else none) else (bif Nat.beq x 446 then some (.iadd, 1) else none))))) else (bif Nat.blt x 459 then (bif Nat.blt x 453 then (bif Nat.blt x 448 then (bif Nat.beq x 447 then some (.iaload, 1) else none) else (bif Nat.blt x 451 then (bif Nat.beq x 448 then some (.invokevirtual 112, 3) else none) else (bif Nat.beq x 451 then some (.istore 6, 2) else none))) else (bif Nat.blt x 454 then (bif Nat.beq x 453 then some (.aload_n 2, 1) else none) else (bif Nat.blt x 457 then (bif Nat.beq x 454 then some (.invokevirtual 98, 3) else none) else (bif Nat.beq x 457 then some (.iload 5, 2) else none)))) else (bif Nat.blt x 464 then (bif Nat.blt x 462 then (bif Nat.beq x 459 then some (.if_icmp .eq 5, 3) else none) else (bif Nat.blt x 463 then (bif Nat.beq x 462 then some (.iconst 0, 1) else none) else (bif Nat.beq x 463 then some (.ireturn, 1) else none))) else (bif Nat.blt x 466 then (bif Nat.beq x 464 then some (.iload 5, 2) else none) else (bif Nat.blt x 469 then (bif Nat.beq x 466 then some (.ifCond .ne 15, 3) else none) else (bif Nat.beq x 469 then some (.aload_n 3, 1) else none)))))) else (bif Nat.blt x 486 then (bif Nat.blt x 476 then (bif Nat.blt x 472 then (bif Nat.blt x 471 then (bif Nat.beq x 470 then some (.iconst 0, 1) else none) else (bif Nat.beq x 471 then some (.laload, 1) else none)) else (bif Nat.blt x 474 then (bif Nat.beq x 472 then some (.iload 6, 2) else none) else (bif Nat.blt x 475 then (bif Nat.beq x 474 then some (.i2l, 1) else none) else (bif Nat.beq x 475 then some (.lcmp, 1) else none)))) else (bif Nat.blt x 481 then (bif Nat.blt x 479 then (bif Nat.beq x 476 then some (.ifCond .eq 5, 3) else none) else (bif Nat.blt x 480 then (bif Nat.beq x 479 then some (.iconst 0, 1) else none) else (bif Nat.beq x 480 then some (.ireturn, 1) else none))) else (bif Nat.blt x 484 then (bif Nat.beq x 481 then some (.goto 714, 3) else none) else (bif Nat.blt x 485 then (bif Nat.beq x 484 then some (.aload_n 1, 1) else none) else (bif Nat.beq x 485 then some (.aload_n 0, 1) else none))))) else (bif Nat.blt x 494 then (bif Nat.blt x 490 then (bif Nat.blt x 488 then (bif Nat.beq x 486 then some (.iload 4, 2) else none) else (bif Nat.blt x 489 then (bif Nat.beq x 488 then some (.iconst 1, 1) else none) else (bif Nat.beq x 489 then some (.iadd, 1) else none))) else (bif Nat.blt x 491 then (bif Nat.beq x 490 then some (.iaload, 1) else none) else (bif Nat.blt x 492 then (bif Nat.beq x 491 then some (.aload_n 0, 1) else none) else (bif Nat.beq x 492 then some (.iload 4, 2) else none)))) else (bif Nat.blt x 497 then (bif Nat.blt x 495 then (bif Nat.beq x 494 then some (.iconst 2, 1) else none) else (bif Nat.blt x 496 then (bif Nat.beq x 495 then some (.iadd, 1) else none) else (bif Nat.beq x 496 then some (.iaload, 1) else none))) else (bif Nat.blt x 498 then (bif Nat.beq x 497 then some (.aload_n 3, 1) else none) else (bif Nat.blt x 501 then (bif Nat.beq x 498 then some (.invokestatic 113, 3) else none) else (bif Nat.beq x 501 then some (.istore 5, 2) else none)))))))) else (bif Nat.blt x 570 then (bif Nat.blt x 538 then (bif Nat.blt x 516 then (bif Nat.blt x 509 then (bif Nat.blt x 505 then (bif Nat.blt x 504 then (bif Nat.beq x 503 then some (.aload_n 2, 1) else none) else (bif Nat.beq x 504 then some (.aload_n 0, 1) else none)) else (bif Nat.blt x 507 then (bif Nat.beq x 505 then some (.iload 4, 2) else none) else (bif Nat.blt x 508 then (bif Nat.beq x 507 then some (.iconst 1, 1) else none) else (bif Nat.beq x 508 then some (.iadd, 1) else none)))) else (bif Nat.blt x 513 then (bif Nat.blt x 510 then (bif Nat.beq x 509 then some (.iaload, 1) else none) else (bif Nat.blt x 511 then (bif Nat.beq x 510 then some (.aload_n 0, 1) else none) else (bif Nat.beq x 511 then some (.iload 4, 2) else none))) else (bif Nat.blt x 514 then (bif Nat.beq x 513 then some (.iconst 2, 1) else none) else (bif Nat.blt x 515 then (bif Nat.beq x 514 then some (.iadd, 1) else none) else (bif Nat.beq x 515 then some (.iaload, 1) else none))))) else (bif Nat.blt x 527 then (bif Nat.blt x 521 then (bif Nat.blt x 519 then (bif Nat.beq x 516 then some (.invokevirtual 115, 3) else none) else (bif Nat.beq x 519 then some (.istore 6, 2) else none)) else (bif Nat.blt x 522 then (bif Nat.beq x 521 then some (.aload_n 2, 1) else none) else (bif Nat.blt x 525 then (bif Nat.beq x 522 then some (.invokevirtual 98, 3) else none) else (bif Nat.beq x 525 then some (.iload 5, 2) else none)))) else (bif Nat.blt x 532 then (bif Nat.blt x 530 then (bif Nat.beq x 527 then some (.if_icmp .eq 5, 3) else none) else (bif Nat.blt x 531 then (bif Nat.beq x 530 then some (.iconst 0, 1) else none) else (bif Nat.beq x 531 then some (.ireturn, 1) else none))) else (bif Nat.blt x 534 then (bif Nat.beq x 532 then some (.iload 5, 2) else none) else (bif Nat.blt x 537 then (bif Nat.beq x 534 then some (.ifCond .ne 15, 3) else none) else (bif Nat.beq x 537 then some (.aload_n 3, 1) else none)))))) else (bif Nat.blt x 554 then (bif Nat.blt x 544 then (bif Nat.blt x 540 then (bif Nat.blt x 539 then (bif Nat.beq x 538 then some (.iconst 0, 1) else none) else (bif Nat.beq x 539 then some (.laload, 1) else none)) else (bif Nat.blt x 542 then (bif Nat.beq x 540 then some (.iload 6, 2) else none) else (bif Nat.blt x 543 then (bif Nat.beq x 542 then some (.i2l, 1) else none) else (bif Nat.beq x 543 then some (.lcmp, 1) else none)))) else (bif Nat.blt x 549 then (bif Nat.blt x 547 then (bif Nat.beq x 544 then some (.ifCond .eq 5, 3) else none) else (bif Nat.blt x 548 then (bif Nat.beq x 547 then some (.iconst 0, 1) else none) else (bif Nat.beq x 548 then some (.ireturn, 1) else none))) else (bif Nat.blt x 552 then (bif Nat.beq x 549 then some (.goto 646, 3) else none) else (bif Nat.blt x 553 then (bif Nat.beq x 552 then some (.aload_n 1, 1) else none) else (bif Nat.beq x 553 then some (.aload_n 0, 1) else none))))) else (bif Nat.blt x 562 then (bif Nat.blt x 558 then (bif Nat.blt x 556 then (bif Nat.beq x 554 then some (.iload 4, 2) else none) else (bif Nat.blt x 557 then (bif Nat.beq x 556 then some (.iconst 1, 1) else none) else (bif Nat.beq x 557 then some (.iadd, 1) else none))) else (bif Nat.blt x 559 then (bif Nat.beq x 558 then some (.iaload, 1) else none) else (bif Nat.blt x 560 then (bif Nat.beq x 559 then some (.aload_n 0, 1) else none) else (bif Nat.beq x 560 then some (.iload 4, 2) else none)))) else (bif Nat.blt x 565 then (bif Nat.blt x 563 then (bif Nat.beq x 562 then some (.iconst 2, 1) else none) else (bif Nat.blt x 564 then (bif Nat.beq x 563 then some (.iadd, 1) else none) else (bif Nat.beq x 564 then some (.iaload, 1) else none))) else (bif Nat.blt x 566 then (bif Nat.beq x 565 then some (.i2c, 1) else none) else (bif Nat.blt x 567 then (bif Nat.beq x 566 then some (.aload_n 3, 1) else none) else (bif Nat.beq x 567 then some (.invokestatic 116, 3) else none))))))) else (bif Nat.blt x 607 then (bif Nat.blt x 584 then (bif Nat.blt x 577 then (bif Nat.blt x 573 then (bif Nat.blt x 572 then (bif Nat.beq x 570 then some (.istore 5, 2) else none) else (bif Nat.beq x 572 then some (.aload_n 2, 1) else none)) else (bif Nat.blt x 574 then (bif Nat.beq x 573 then some (.aload_n 0, 1) else none) else (bif Nat.blt x 576 then (bif Nat.beq x 574 then some (.iload 4, 2) else none) else (bif Nat.beq x 576 then some (.iconst 1, 1) else none)))) else (bif Nat.blt x 580 then (bif Nat.blt x 578 then (bif Nat.beq x 577 then some (.iadd, 1) else none) else (bif Nat.blt x 579 then (bif Nat.beq x 578 then some (.iaload, 1) else none) else (bif Nat.beq x 579 then some (.aload_n 0, 1) else none))) else (bif Nat.blt x 582 then (bif Nat.beq x 580 then some (.iload 4, 2) else none) else (bif Nat.blt x 583 then (bif Nat.beq x 582 then some (.iconst 2, 1) else none) else (bif Nat.beq x 583 then some (.iadd, 1) else none))))) else (bif Nat.blt x 595 then (bif Nat.blt x 589 then (bif Nat.blt x 585 then (bif Nat.beq x 584 then some (.iaload, 1) else none) else (bif Nat.blt x 586 then (bif Nat.beq x 585 then some (.i2c, 1) else none) else (bif Nat.beq x 586 then some (.invokevirtual 119, 3) else none))) else (bif Nat.blt x 591 then (bif Nat.beq x 589 then some (.istore 6, 2) else none) else (bif Nat.blt x 592 then (bif Nat.beq x 591 then some (.aload_n 2, 1) else none) else (bif Nat.beq x 592 then some (.invokevirtual 98, 3) else none)))) else (bif Nat.blt x 601 then (bif Nat.blt x 597 then (bif Nat.beq x 595 then some (.iload 5, 2) else none) else (bif Nat.blt x 600 then (bif Nat.beq x 597 then some (.if_icmp .eq 5, 3) else none) else (bif Nat.beq x 600 then some (.iconst 0, 1) else none))) else (bif Nat.blt x 602 then (bif Nat.beq x 601 then some (.ireturn, 1) else none) else (bif Nat.blt x 604 then (bif Nat.beq x 602 then some (.iload 5, 2) else none) else (bif Nat.beq x 604 then some (.ifCond .ne 15, 3) else none)))))) else (bif Nat.blt x 623 then (bif Nat.blt x 613 then (bif Nat.blt x 609 then (bif Nat.blt x 608 then (bif Nat.beq x 607 then some (.aload_n 3, 1) else none) else (bif Nat.beq x 608 then some (.iconst 0, 1) else none)) else (bif Nat.blt x 610 then (bif Nat.beq x 609 then some (.laload, 1) else none) else (bif Nat.blt x 612 then (bif Nat.beq x 610 then some (.iload 6, 2) else none) else (bif Nat.beq x 612 then some (.i2l, 1) else none)))) else (bif Nat.blt x 618 then (bif Nat.blt x 614 then (bif Nat.beq x 613 then some (.lcmp, 1) else none) else (bif Nat.blt x 617 then (bif Nat.beq x 614 then some (.ifCond .eq 5, 3) else none) else (bif Nat.beq x 617 then some (.iconst 0, 1) else none))) else (bif Nat.blt x 619 then (bif Nat.beq x 618 then some (.ireturn, 1) else none) else (bif Nat.blt x 622 then (bif Nat.beq x 619 then some (.goto 576, 3) else none) else (bif Nat.beq x 622 then some (.aload_n 1, 1) else none))))) else (bif Nat.blt x 630 then (bif Nat.blt x 627 then (bif Nat.blt x 624 then (bif Nat.beq x 623 then some (.aload_n 0, 1) else none) else (bif Nat.blt x 626 then (bif Nat.beq x 624 then some (.iload 4, 2) else none) else (bif Nat.beq x 626 then some (.iconst 1, 1) else none))) else (bif Nat.blt x 628 then (bif Nat.beq x 627 then some (.iadd, 1) else none) else (bif Nat.blt x 629 then (bif Nat.beq x 628 then some (.iaload, 1) else none) else (bif Nat.beq x 629 then some (.aload_n 0, 1) else none)))) else (bif Nat.blt x 634 then (bif Nat.blt x 632 then (bif Nat.beq x 630 then some (.iload 4, 2) else none) else (bif Nat.blt x 633 then (bif Nat.beq x 632 then some (.iconst 2, 1) else none) else (bif Nat.beq x 633 then some (.iadd, 1) else none))) else (bif Nat.blt x 635 then (bif Nat.beq x 634 then some (.iaload, 1) else none) else (bif Nat.blt x 636 then (bif Nat.beq x 635 then some (.aload_n 0, 1) else none) else (bif Nat.beq x 636 then some (.iload 4, 2) else none)))))))))) else (bif Nat.blt x 916 then (bif Nat.blt x 774 then (bif Nat.blt x 706 then (bif Nat.blt x 666 then (bif Nat.blt x 653 then (bif Nat.blt x 645 then (bif Nat.blt x 640 then (bif Nat.blt x 639 then (bif Nat.beq x 638 then some (.iconst 3, 1) else none) else (bif Nat.beq x 639 then some (.iadd, 1) else none)) else (bif Nat.blt x 641 then (bif Nat.beq x 640 then some (.iaload, 1) else none) else (bif Nat.blt x 642 then (bif Nat.beq x 641 then some (.aload_n 3, 1) else none) else (bif Nat.beq x 642 then some (.invokestatic 120, 3) else none)))) else (bif Nat.blt x 649 then (bif Nat.blt x 647 then (bif Nat.beq x 645 then some (.istore 5, 2) else none) else (bif Nat.blt x 648 then (bif Nat.beq x 647 then some (.aload_n 2, 1) else none) else (bif Nat.beq x 648 then some (.aload_n 0, 1) else none))) else (bif Nat.blt x 651 then (bif Nat.beq x 649 then some (.iload 4, 2) else none) else (bif Nat.blt x 652 then (bif Nat.beq x 651 then some (.iconst 1, 1) else none) else (bif Nat.beq x 652 then some (.iadd, 1) else none))))) else (bif Nat.blt x 659 then (bif Nat.blt x 655 then (bif Nat.blt x 654 then (bif Nat.beq x 653 then some (.iaload, 1) else none) else (bif Nat.beq x 654 then some (.aload_n 0, 1) else none)) else (bif Nat.blt x 657 then (bif Nat.beq x 655 then some (.iload 4, 2) else none) else (bif Nat.blt x 658 then (bif Nat.beq x 657 then some (.iconst 2, 1) else none) else (bif Nat.beq x 658 then some (.iadd, 1) else none)))) else (bif Nat.blt x 663 then (bif Nat.blt x 660 then (bif Nat.beq x 659 then some (.iaload, 1) else none) else (bif Nat.blt x 661 then (bif Nat.beq x 660 then some (.aload_n 0, 1) else none) else (bif Nat.beq x 661 then some (.iload 4, 2) else none))) else (bif Nat.blt x 664 then (bif Nat.beq x 663 then some (.iconst 3, 1) else none) else (bif Nat.blt x 665 then (bif Nat.beq x 664 then some (.iadd, 1) else none) else (bif Nat.beq x 665 then some (.iaload, 1) else none)))))) else (bif Nat.blt x 688 then (bif Nat.blt x 677 then (bif Nat.blt x 671 then (bif Nat.blt x 669 then (bif Nat.beq x 666 then some (.invokevirtual 123, 3) else none) else (bif Nat.beq x 669 then some (.istore 6, 2) else none)) else (bif Nat.blt x 672 then (bif Nat.beq x 671 then some (.aload_n 2, 1) else none) else (bif Nat.blt x 675 then (bif Nat.beq x 672 then some (.invokevirtual 98, 3) else none) else (bif Nat.beq x 675 then some (.iload 5, 2) else none)))) else (bif Nat.blt x 682 then (bif Nat.blt x 680 then (bif Nat.beq x 677 then some (.if_icmp .eq 5, 3) else none) else (bif Nat.blt x 681 then (bif Nat.beq x 680 then some (.iconst 0, 1) else none) else (bif Nat.beq x 681 then some (.ireturn, 1) else none))) else (bif Nat.blt x 684 then (bif Nat.beq x 682 then some (.iload 5, 2) else none) else (bif Nat.blt x 687 then (bif Nat.beq x 684 then some (.ifCond .ne 15, 3) else none) else (bif Nat.beq x 687 then some (.aload_n 3, 1) else none))))) else (bif Nat.blt x 697 then (bif Nat.blt x 692 then (bif Nat.blt x 689 then (bif Nat.beq x 688 then some (.iconst 0, 1) else none) else (bif Nat.blt x 690 then (bif Nat.beq x 689 then some (.laload, 1) else none) else (bif Nat.beq x 690 then some (.iload 6, 2) else none))) else (bif Nat.blt x 693 then (bif Nat.beq x 692 then some (.i2l, 1) else none) else (bif Nat.blt x 694 then (bif Nat.beq x 693 then some (.lcmp, 1) else none) else (bif Nat.beq x 694 then some (.ifCond .eq 5, 3) else none)))) else (bif Nat.blt x 702 then (bif Nat.blt x 698 then (bif Nat.beq x 697 then some (.iconst 0, 1) else none) else (bif Nat.blt x 699 then (bif Nat.beq x 698 then some (.ireturn, 1) else none) else (bif Nat.beq x 699 then some (.goto 496, 3) else none))) else (bif Nat.blt x 703 then (bif Nat.beq x 702 then some (.aload_n 1, 1) else none) else (bif Nat.blt x 704 then (bif Nat.beq x 703 then some (.aload_n 0, 1) else none) else (bif Nat.beq x 704 then some (.iload 4, 2) else none))))))) else (bif Nat.blt x 735 then (bif Nat.blt x 720 then (bif Nat.blt x 712 then (bif Nat.blt x 708 then (bif Nat.blt x 707 then (bif Nat.beq x 706 then some (.iconst 1, 1) else none) else (bif Nat.beq x 707 then some (.iadd, 1) else none)) else (bif Nat.blt x 709 then (bif Nat.beq x 708 then some (.iaload, 1) else none) else (bif Nat.blt x 710 then (bif Nat.beq x 709 then some (.aload_n 0, 1) else none) else (bif Nat.beq x 710 then some (.iload 4, 2) else none)))) else (bif Nat.blt x 715 then (bif Nat.blt x 713 then (bif Nat.beq x 712 then some (.iconst 2, 1) else none) else (bif Nat.blt x 714 then (bif Nat.beq x 713 then some (.iadd, 1) else none) else (bif Nat.beq x 714 then some (.iaload, 1) else none))) else (bif Nat.blt x 716 then (bif Nat.beq x 715 then some (.i2c, 1) else none) else (bif Nat.blt x 717 then (bif Nat.beq x 716 then some (.aload_n 3, 1) else none) else (bif Nat.beq x 717 then some (.invokestatic 124, 3) else none))))) else (bif Nat.blt x 728 then (bif Nat.blt x 724 then (bif Nat.blt x 722 then (bif Nat.beq x 720 then some (.istore 5, 2) else none) else (bif Nat.blt x 723 then (bif Nat.beq x 722 then some (.aload_n 2, 1) else none) else (bif Nat.beq x 723 then some (.aload_n 0, 1) else none))) else (bif Nat.blt x 726 then (bif Nat.beq x 724 then some (.iload 4, 2) else none) else (bif Nat.blt x 727 then (bif Nat.beq x 726 then some (.iconst 1, 1) else none) else (bif Nat.beq x 727 then some (.iadd, 1) else none)))) else (bif Nat.blt x 732 then (bif Nat.blt x 729 then (bif Nat.beq x 728 then some (.iaload, 1) else none) else (bif Nat.blt x 730 then (bif Nat.beq x 729 then some (.aload_n 0, 1) else none) else (bif Nat.beq x 730 then some (.iload 4, 2) else none))) else (bif Nat.blt x 733 then (bif Nat.beq x 732 then some (.iconst 2, 1) else none) else (bif Nat.blt x 734 then (bif Nat.beq x 733 then some (.iadd, 1) else none) else (bif Nat.beq x 734 then some (.iaload, 1) else none)))))) else (bif Nat.blt x 757 then (bif Nat.blt x 745 then (bif Nat.blt x 739 then (bif Nat.blt x 736 then (bif Nat.beq x 735 then some (.i2c, 1) else none) else (bif Nat.beq x 736 then some (.invokevirtual 126, 3) else none)) else (bif Nat.blt x 741 then (bif Nat.beq x 739 then some (.istore 6, 2) else none) else (bif Nat.blt x 742 then (bif Nat.beq x 741 then some (.aload_n 2, 1) else none) else (bif Nat.beq x 742 then some (.invokevirtual 98, 3) else none)))) else (bif Nat.blt x 751 then (bif Nat.blt x 747 then (bif Nat.beq x 745 then some (.iload 5, 2) else none) else (bif Nat.blt x 750 then (bif Nat.beq x 747 then some (.if_icmp .eq 5, 3) else none) else (bif Nat.beq x 750 then some (.iconst 0, 1) else none))) else (bif Nat.blt x 752 then (bif Nat.beq x 751 then some (.ireturn, 1) else none) else (bif Nat.blt x 754 then (bif Nat.beq x 752 then some (.iload 5, 2) else none) else (bif Nat.beq x 754 then some (.ifCond .ne 15, 3) else none))))) else (bif Nat.blt x 764 then (bif Nat.blt x 760 then (bif Nat.blt x 758 then (bif Nat.beq x 757 then some (.aload_n 3, 1) else none) else (bif Nat.blt x 759 then (bif Nat.beq x 758 then some (.iconst 0, 1) else none) else (bif Nat.beq x 759 then some (.laload, 1) else none))) else (bif Nat.blt x 762 then (bif Nat.beq x 760 then some (.iload 6, 2) else none) else (bif Nat.blt x 763 then (bif Nat.beq x 762 then some (.i2l, 1) else none) else (bif Nat.beq x 763 then some (.lcmp, 1) else none)))) else (bif Nat.blt x 769 then (bif Nat.blt x 767 then (bif Nat.beq x 764 then some (.ifCond .eq 5, 3) else none) else (bif Nat.blt x 768 then (bif Nat.beq x 767 then some (.iconst 0, 1) else none) else (bif Nat.beq x 768 then some (.ireturn, 1) else none))) else (bif Nat.blt x 772 then (bif Nat.beq x 769 then some (.goto 426, 3) else none) else (bif Nat.blt x 773 then (bif Nat.beq x 772 then some (.aload_n 1, 1) else none) else (bif Nat.beq x 773 then some (.aload_n 0, 1) else none)))))))) else (bif Nat.blt x 844 then (bif Nat.blt x 810 then (bif Nat.blt x 790 then (bif Nat.blt x 780 then (bif Nat.blt x 777 then (bif Nat.blt x 776 then (bif Nat.beq x 774 then some (.iload 4, 2) else none) else (bif Nat.beq x 776 then some (.iconst 1, 1) else none)) else (bif Nat.blt x 778 then (bif Nat.beq x 777 then some (.iadd, 1) else none) else (bif Nat.blt x 779 then (bif Nat.beq x 778 then some (.iaload, 1) else none) else (bif Nat.beq x 779 then some (.aload_n 3, 1) else none)))) else (bif Nat.blt x 786 then (bif Nat.blt x 783 then (bif Nat.beq x 780 then some (.invokestatic 127, 3) else none) else (bif Nat.blt x 785 then (bif Nat.beq x 783 then some (.istore 5, 2) else none) else (bif Nat.beq x 785 then some (.aload_n 2, 1) else none))) else (bif Nat.blt x 787 then (bif Nat.beq x 786 then some (.aload_n 0, 1) else none) else (bif Nat.blt x 789 then (bif Nat.beq x 787 then some (.iload 4, 2) else none) else (bif Nat.beq x 789 then some (.iconst 1, 1) else none))))) else (bif Nat.blt x 798 then (bif Nat.blt x 792 then (bif Nat.blt x 791 then (bif Nat.beq x 790 then some (.iadd, 1) else none) else (bif Nat.beq x 791 then some (.iaload, 1) else none)) else (bif Nat.blt x 795 then (bif Nat.beq x 792 then some (.invokevirtual 129, 3) else none) else (bif Nat.blt x 797 then (bif Nat.beq x 795 then some (.istore 6, 2) else none) else (bif Nat.beq x 797 then some (.aload_n 2, 1) else none)))) else (bif Nat.blt x 806 then (bif Nat.blt x 801 then (bif Nat.beq x 798 then some (.invokevirtual 98, 3) else none) else (bif Nat.blt x 803 then (bif Nat.beq x 801 then some (.iload 5, 2) else none) else (bif Nat.beq x 803 then some (.if_icmp .eq 5, 3) else none))) else (bif Nat.blt x 807 then (bif Nat.beq x 806 then some (.iconst 0, 1) else none) else (bif Nat.blt x 808 then (bif Nat.beq x 807 then some (.ireturn, 1) else none) else (bif Nat.beq x 808 then some (.iload 5, 2) else none)))))) else (bif Nat.blt x 828 then (bif Nat.blt x 818 then (bif Nat.blt x 814 then (bif Nat.blt x 813 then (bif Nat.beq x 810 then some (.ifCond .ne 15, 3) else none) else (bif Nat.beq x 813 then some (.aload_n 3, 1) else none)) else (bif Nat.blt x 815 then (bif Nat.beq x 814 then some (.iconst 0, 1) else none) else (bif Nat.blt x 816 then (bif Nat.beq x 815 then some (.laload, 1) else none) else (bif Nat.beq x 816 then some (.iload 6, 2) else none)))) else (bif Nat.blt x 823 then (bif Nat.blt x 819 then (bif Nat.beq x 818 then some (.i2l, 1) else none) else (bif Nat.blt x 820 then (bif Nat.beq x 819 then some (.lcmp, 1) else none) else (bif Nat.beq x 820 then some (.ifCond .eq 5, 3) else none))) else (bif Nat.blt x 824 then (bif Nat.beq x 823 then some (.iconst 0, 1) else none) else (bif Nat.blt x 825 then (bif Nat.beq x 824 then some (.ireturn, 1) else none) else (bif Nat.beq x 825 then some (.goto 370, 3) else none))))) else (bif Nat.blt x 835 then (bif Nat.blt x 832 then (bif Nat.blt x 829 then (bif Nat.beq x 828 then some (.aload_n 1, 1) else none) else (bif Nat.blt x 830 then (bif Nat.beq x 829 then some (.aload_n 0, 1) else none) else (bif Nat.beq x 830 then some (.iload 4, 2) else none))) else (bif Nat.blt x 833 then (bif Nat.beq x 832 then some (.iconst 1, 1) else none) else (bif Nat.blt x 834 then (bif Nat.beq x 833 then some (.iadd, 1) else none) else (bif Nat.beq x 834 then some (.iaload, 1) else none)))) else (bif Nat.blt x 839 then (bif Nat.blt x 836 then (bif Nat.beq x 835 then some (.aload_n 0, 1) else none) else (bif Nat.blt x 838 then (bif Nat.beq x 836 then some (.iload 4, 2) else none) else (bif Nat.beq x 838 then some (.iconst 2, 1) else none))) else (bif Nat.blt x 840 then (bif Nat.beq x 839 then some (.iadd, 1) else none) else (bif Nat.blt x 841 then (bif Nat.beq x 840 then some (.iaload, 1) else none) else (bif Nat.beq x 841 then some (.invokestatic 130, 3) else none))))))) else (bif Nat.blt x 880 then (bif Nat.blt x 858 then (bif Nat.blt x 851 then (bif Nat.blt x 847 then (bif Nat.blt x 846 then (bif Nat.beq x 844 then some (.istore 5, 2) else none) else (bif Nat.beq x 846 then some (.aload_n 2, 1) else none)) else (bif Nat.blt x 848 then (bif Nat.beq x 847 then some (.aload_n 0, 1) else none) else (bif Nat.blt x 850 then (bif Nat.beq x 848 then some (.iload 4, 2) else none) else (bif Nat.beq x 850 then some (.iconst 1, 1) else none)))) else (bif Nat.blt x 854 then (bif Nat.blt x 852 then (bif Nat.beq x 851 then some (.iadd, 1) else none) else (bif Nat.blt x 853 then (bif Nat.beq x 852 then some (.iaload, 1) else none) else (bif Nat.beq x 853 then some (.aload_n 0, 1) else none))) else (bif Nat.blt x 856 then (bif Nat.beq x 854 then some (.iload 4, 2) else none) else (bif Nat.blt x 857 then (bif Nat.beq x 856 then some (.iconst 2, 1) else none) else (bif Nat.beq x 857 then some (.iadd, 1) else none))))) else (bif Nat.blt x 871 then (bif Nat.blt x 863 then (bif Nat.blt x 859 then (bif Nat.beq x 858 then some (.iaload, 1) else none) else (bif Nat.blt x 862 then (bif Nat.beq x 859 then some (.invokevirtual 133, 3) else none) else (bif Nat.beq x 862 then some (.aload_n 2, 1) else none))) else (bif Nat.blt x 866 then (bif Nat.beq x 863 then some (.invokevirtual 98, 3) else none) else (bif Nat.blt x 868 then (bif Nat.beq x 866 then some (.iload 5, 2) else none) else (bif Nat.beq x 868 then some (.if_icmp .eq 5, 3) else none)))) else (bif Nat.blt x 876 then (bif Nat.blt x 872 then (bif Nat.beq x 871 then some (.iconst 0, 1) else none) else (bif Nat.blt x 873 then (bif Nat.beq x 872 then some (.ireturn, 1) else none) else (bif Nat.beq x 873 then some (.goto 322, 3) else none))) else (bif Nat.blt x 877 then (bif Nat.beq x 876 then some (.aload_n 1, 1) else none) else (bif Nat.blt x 878 then (bif Nat.beq x 877 then some (.aload_n 0, 1) else none) else (bif Nat.beq x 878 then some (.iload 4, 2) else none)))))) else (bif Nat.blt x 895 then (bif Nat.blt x 885 then (bif Nat.blt x 882 then (bif Nat.blt x 881 then (bif Nat.beq x 880 then some (.iconst 1, 1) else none) else (bif Nat.beq x 881 then some (.iadd, 1) else none)) else (bif Nat.blt x 883 then (bif Nat.beq x 882 then some (.iaload, 1) else none) else (bif Nat.blt x 884 then (bif Nat.beq x 883 then some (.i2c, 1) else none) else (bif Nat.beq x 884 then some (.aload_n 3, 1) else none)))) else (bif Nat.blt x 891 then (bif Nat.blt x 888 then (bif Nat.beq x 885 then some (.invokestatic 134, 3) else none) else (bif Nat.blt x 890 then (bif Nat.beq x 888 then some (.istore 5, 2) else none) else (bif Nat.beq x 890 then some (.aload_n 2, 1) else none))) else (bif Nat.blt x 892 then (bif Nat.beq x 891 then some (.aload_n 0, 1) else none) else (bif Nat.blt x 894 then (bif Nat.beq x 892 then some (.iload 4, 2) else none) else (bif Nat.beq x 894 then some (.iconst 1, 1) else none))))) else (bif Nat.blt x 904 then (bif Nat.blt x 898 then (bif Nat.blt x 896 then (bif Nat.beq x 895 then some (.iadd, 1) else none) else (bif Nat.blt x 897 then (bif Nat.beq x 896 then some (.iaload, 1) else none) else (bif Nat.beq x 897 then some (.i2c, 1) else none))) else (bif Nat.blt x 901 then (bif Nat.beq x 898 then some (.invokevirtual 137, 3) else none) else (bif Nat.blt x 903 then (bif Nat.beq x 901 then some (.istore 6, 2) else none) else (bif Nat.beq x 903 then some (.aload_n 2, 1) else none)))) else (bif Nat.blt x 912 then (bif Nat.blt x 907 then (bif Nat.beq x 904 then some (.invokevirtual 98, 3) else none) else (bif Nat.blt x 909 then (bif Nat.beq x 907 then some (.iload 5, 2) else none) else (bif Nat.beq x 909 then some (.if_icmp .eq 5, 3) else none))) else (bif Nat.blt x 913 then (bif Nat.beq x 912 then some (.iconst 0, 1) else none) else (bif Nat.blt x 914 then (bif Nat.beq x 913 then some (.ireturn, 1) else none) else (bif Nat.beq x 914 then some (.iload 5, 2) else none))))))))) else (bif Nat.blt x 1063 then (bif Nat.blt x 984 then (bif Nat.blt x 949 then (bif Nat.blt x 934 then (bif Nat.blt x 924 then (bif Nat.blt x 920 then (bif Nat.blt x 919 then (bif Nat.beq x 916 then some (.ifCond .ne 15, 3) else none) else (bif Nat.beq x 919 then some (.aload_n 3, 1) else none)) else (bif Nat.blt x 921 then (bif Nat.beq x 920 then some (.iconst 0, 1) else none) else (bif Nat.blt x 922 then (bif Nat.beq x 921 then some (.laload, 1) else none) else (bif Nat.beq x 922 then some (.iload 6, 2) else none)))) else (bif Nat.blt x 929 then (bif Nat.blt x 925 then (bif Nat.beq x 924 then some (.i2l, 1) else none) else (bif Nat.blt x 926 then (bif Nat.beq x 925 then some (.lcmp, 1) else none) else (bif Nat.beq x 926 then some (.ifCond .eq 5, 3) else none))) else (bif Nat.blt x 930 then (bif Nat.beq x 929 then some (.iconst 0, 1) else none) else (bif Nat.blt x 931 then (bif Nat.beq x 930 then some (.ireturn, 1) else none) else (bif Nat.beq x 931 then some (.goto 264, 3) else none))))) else (bif Nat.blt x 940 then (bif Nat.blt x 936 then (bif Nat.blt x 935 then (bif Nat.beq x 934 then some (.aload_n 1, 1) else none) else (bif Nat.beq x 935 then some (.aload_n 0, 1) else none)) else (bif Nat.blt x 938 then (bif Nat.beq x 936 then some (.iload 4, 2) else none) else (bif Nat.blt x 939 then (bif Nat.beq x 938 then some (.iconst 1, 1) else none) else (bif Nat.beq x 939 then some (.iadd, 1) else none)))) else (bif Nat.blt x 945 then (bif Nat.blt x 941 then (bif Nat.beq x 940 then some (.iaload, 1) else none) else (bif Nat.blt x 944 then (bif Nat.beq x 941 then some (.invokevirtual 138, 3) else none) else (bif Nat.beq x 944 then some (.aload_n 2, 1) else none))) else (bif Nat.blt x 946 then (bif Nat.beq x 945 then some (.aload_n 0, 1) else none) else (bif Nat.blt x 948 then (bif Nat.beq x 946 then some (.iload 4, 2) else none) else (bif Nat.beq x 948 then some (.iconst 1, 1) else none)))))) else (bif Nat.blt x 965 then (bif Nat.blt x 958 then (bif Nat.blt x 951 then (bif Nat.blt x 950 then (bif Nat.beq x 949 then some (.iadd, 1) else none) else (bif Nat.beq x 950 then some (.iaload, 1) else none)) else (bif Nat.blt x 954 then (bif Nat.beq x 951 then some (.invokevirtual 141, 3) else none) else (bif Nat.blt x 957 then (bif Nat.beq x 954 then some (.if_icmp .eq 241, 3) else none) else (bif Nat.beq x 957 then some (.iconst 0, 1) else none)))) else (bif Nat.blt x 961 then (bif Nat.blt x 959 then (bif Nat.beq x 958 then some (.ireturn, 1) else none) else (bif Nat.blt x 960 then (bif Nat.beq x 959 then some (.aload_n 1, 1) else none) else (bif Nat.beq x 960 then some (.aload_n 0, 1) else none))) else (bif Nat.blt x 963 then (bif Nat.beq x 961 then some (.iload 4, 2) else none) else (bif Nat.blt x 964 then (bif Nat.beq x 963 then some (.iconst 1, 1) else none) else (bif Nat.beq x 964 then some (.iadd, 1) else none))))) else (bif Nat.blt x 974 then (bif Nat.blt x 970 then (bif Nat.blt x 966 then (bif Nat.beq x 965 then some (.iaload, 1) else none) else (bif Nat.blt x 967 then (bif Nat.beq x 966 then some (.aload_n 3, 1) else none) else (bif Nat.beq x 967 then some (.invokestatic 142, 3) else none))) else (bif Nat.blt x 972 then (bif Nat.beq x 970 then some (.istore 5, 2) else none) else (bif Nat.blt x 973 then (bif Nat.beq x 972 then some (.aload_n 2, 1) else none) else (bif Nat.beq x 973 then some (.aload_n 0, 1) else none)))) else (bif Nat.blt x 978 then (bif Nat.blt x 976 then (bif Nat.beq x 974 then some (.iload 4, 2) else none) else (bif Nat.blt x 977 then (bif Nat.beq x 976 then some (.iconst 1, 1) else none) else (bif Nat.beq x 977 then some (.iadd, 1) else none))) else (bif Nat.blt x 979 then (bif Nat.beq x 978 then some (.iaload, 1) else none) else (bif Nat.blt x 982 then (bif Nat.beq x 979 then some (.invokevirtual 144, 3) else none) else (bif Nat.beq x 982 then some (.istore 6, 2) else none))))))) else (bif Nat.blt x 1023 then (bif Nat.blt x 1003 then (bif Nat.blt x 994 then (bif Nat.blt x 988 then (bif Nat.blt x 985 then (bif Nat.beq x 984 then some (.aload_n 2, 1) else none) else (bif Nat.beq x 985 then some (.invokevirtual 98, 3) else none)) else (bif Nat.blt x 990 then (bif Nat.beq x 988 then some (.iload 5, 2) else none) else (bif Nat.blt x 993 then (bif Nat.beq x 990 then some (.if_icmp .eq 5, 3) else none) else (bif Nat.beq x 993 then some (.iconst 0, 1) else none)))) else (bif Nat.blt x 1000 then (bif Nat.blt x 995 then (bif Nat.beq x 994 then some (.ireturn, 1) else none) else (bif Nat.blt x 997 then (bif Nat.beq x 995 then some (.iload 5, 2) else none) else (bif Nat.beq x 997 then some (.ifCond .ne 15, 3) else none))) else (bif Nat.blt x 1001 then (bif Nat.beq x 1000 then some (.aload_n 3, 1) else none) else (bif Nat.blt x 1002 then (bif Nat.beq x 1001 then some (.iconst 0, 1) else none) else (bif Nat.beq x 1002 then some (.laload, 1) else none))))) else (bif Nat.blt x 1012 then (bif Nat.blt x 1007 then (bif Nat.blt x 1005 then (bif Nat.beq x 1003 then some (.iload 6, 2) else none) else (bif Nat.blt x 1006 then (bif Nat.beq x 1005 then some (.i2l, 1) else none) else (bif Nat.beq x 1006 then some (.lcmp, 1) else none))) else (bif Nat.blt x 1010 then (bif Nat.beq x 1007 then some (.ifCond .eq 5, 3) else none) else (bif Nat.blt x 1011 then (bif Nat.beq x 1010 then some (.iconst 0, 1) else none) else (bif Nat.beq x 1011 then some (.ireturn, 1) else none)))) else (bif Nat.blt x 1017 then (bif Nat.blt x 1015 then (bif Nat.beq x 1012 then some (.goto 183, 3) else none) else (bif Nat.blt x 1016 then (bif Nat.beq x 1015 then some (.aload_n 1, 1) else none) else (bif Nat.beq x 1016 then some (.aload_n 3, 1) else none))) else (bif Nat.blt x 1020 then (bif Nat.beq x 1017 then some (.invokestatic 145, 3) else none) else (bif Nat.blt x 1022 then (bif Nat.beq x 1020 then some (.istore 5, 2) else none) else (bif Nat.beq x 1022 then some (.aload_n 2, 1) else none)))))) else (bif Nat.blt x 1045 then (bif Nat.blt x 1034 then (bif Nat.blt x 1028 then (bif Nat.blt x 1026 then (bif Nat.beq x 1023 then some (.invokevirtual 148, 3) else none) else (bif Nat.beq x 1026 then some (.istore 6, 2) else none)) else (bif Nat.blt x 1029 then (bif Nat.beq x 1028 then some (.aload_n 2, 1) else none) else (bif Nat.blt x 1032 then (bif Nat.beq x 1029 then some (.invokevirtual 98, 3) else none) else (bif Nat.beq x 1032 then some (.iload 5, 2) else none)))) else (bif Nat.blt x 1039 then (bif Nat.blt x 1037 then (bif Nat.beq x 1034 then some (.if_icmp .eq 5, 3) else none) else (bif Nat.blt x 1038 then (bif Nat.beq x 1037 then some (.iconst 0, 1) else none) else (bif Nat.beq x 1038 then some (.ireturn, 1) else none))) else (bif Nat.blt x 1041 then (bif Nat.beq x 1039 then some (.iload 5, 2) else none) else (bif Nat.blt x 1044 then (bif Nat.beq x 1041 then some (.ifCond .ne 15, 3) else none) else (bif Nat.beq x 1044 then some (.aload_n 3, 1) else none))))) else (bif Nat.blt x 1054 then (bif Nat.blt x 1049 then (bif Nat.blt x 1046 then (bif Nat.beq x 1045 then some (.iconst 0, 1) else none) else (bif Nat.blt x 1047 then (bif Nat.beq x 1046 then some (.laload, 1) else none) else (bif Nat.beq x 1047 then some (.iload 6, 2) else none))) else (bif Nat.blt x 1050 then (bif Nat.beq x 1049 then some (.i2l, 1) else none) else (bif Nat.blt x 1051 then (bif Nat.beq x 1050 then some (.lcmp, 1) else none) else (bif Nat.beq x 1051 then some (.ifCond .eq 5, 3) else none)))) else (bif Nat.blt x 1059 then (bif Nat.blt x 1055 then (bif Nat.beq x 1054 then some (.iconst 0, 1) else none) else (bif Nat.blt x 1056 then (bif Nat.beq x 1055 then some (.ireturn, 1) else none) else (bif Nat.beq x 1056 then some (.goto 139, 3) else none))) else (bif Nat.blt x 1060 then (bif Nat.beq x 1059 then some (.aload_n 1, 1) else none) else (bif Nat.blt x 1061 then (bif Nat.beq x 1060 then some (.aload_n 0, 1) else none) else (bif Nat.beq x 1061 then some (.iload 4, 2) else none)))))))) else (bif Nat.blt x 1131 then (bif Nat.blt x 1091 then (bif Nat.blt x 1078 then (bif Nat.blt x 1069 then (bif Nat.blt x 1065 then (bif Nat.blt x 1064 then (bif Nat.beq x 1063 then some (.iconst 1, 1) else none) else (bif Nat.beq x 1064 then some (.iadd, 1) else none)) else (bif Nat.blt x 1066 then (bif Nat.beq x 1065 then some (.iaload, 1) else none) else (bif Nat.blt x 1067 then (bif Nat.beq x 1066 then some (.aload_n 0, 1) else none) else (bif Nat.beq x 1067 then some (.iload 4, 2) else none)))) else (bif Nat.blt x 1072 then (bif Nat.blt x 1070 then (bif Nat.beq x 1069 then some (.iconst 2, 1) else none) else (bif Nat.blt x 1071 then (bif Nat.beq x 1070 then some (.iadd, 1) else none) else (bif Nat.beq x 1071 then some (.iaload, 1) else none))) else (bif Nat.blt x 1073 then (bif Nat.beq x 1072 then some (.aload_n 3, 1) else none) else (bif Nat.blt x 1076 then (bif Nat.beq x 1073 then some (.invokestatic 149, 3) else none) else (bif Nat.beq x 1076 then some (.istore 5, 2) else none))))) else (bif Nat.blt x 1084 then (bif Nat.blt x 1080 then (bif Nat.blt x 1079 then (bif Nat.beq x 1078 then some (.aload_n 2, 1) else none) else (bif Nat.beq x 1079 then some (.aload_n 0, 1) else none)) else (bif Nat.blt x 1082 then (bif Nat.beq x 1080 then some (.iload 4, 2) else none) else (bif Nat.blt x 1083 then (bif Nat.beq x 1082 then some (.iconst 1, 1) else none) else (bif Nat.beq x 1083 then some (.iadd, 1) else none)))) else (bif Nat.blt x 1088 then (bif Nat.blt x 1085 then (bif Nat.beq x 1084 then some (.iaload, 1) else none) else (bif Nat.blt x 1086 then (bif Nat.beq x 1085 then some (.aload_n 0, 1) else none) else (bif Nat.beq x 1086 then some (.iload 4, 2) else none))) else (bif Nat.blt x 1089 then (bif Nat.beq x 1088 then some (.iconst 2, 1) else none) else (bif Nat.blt x 1090 then (bif Nat.beq x 1089 then some (.iadd, 1) else none) else (bif Nat.beq x 1090 then some (.iaload, 1) else none)))))) else (bif Nat.blt x 1113 then (bif Nat.blt x 1102 then (bif Nat.blt x 1096 then (bif Nat.blt x 1094 then (bif Nat.beq x 1091 then some (.invokevirtual 151, 3) else none) else (bif Nat.beq x 1094 then some (.istore 6, 2) else none)) else (bif Nat.blt x 1097 then (bif Nat.beq x 1096 then some (.aload_n 2, 1) else none) else (bif Nat.blt x 1100 then (bif Nat.beq x 1097 then some (.invokevirtual 98, 3) else none) else (bif Nat.beq x 1100 then some (.iload 5, 2) else none)))) else (bif Nat.blt x 1107 then (bif Nat.blt x 1105 then (bif Nat.beq x 1102 then some (.if_icmp .eq 5, 3) else none) else (bif Nat.blt x 1106 then (bif Nat.beq x 1105 then some (.iconst 0, 1) else none) else (bif Nat.beq x 1106 then some (.ireturn, 1) else none))) else (bif Nat.blt x 1109 then (bif Nat.beq x 1107 then some (.iload 5, 2) else none) else (bif Nat.blt x 1112 then (bif Nat.beq x 1109 then some (.ifCond .ne 15, 3) else none) else (bif Nat.beq x 1112 then some (.aload_n 3, 1) else none))))) else (bif Nat.blt x 1122 then (bif Nat.blt x 1117 then (bif Nat.blt x 1114 then (bif Nat.beq x 1113 then some (.iconst 0, 1) else none) else (bif Nat.blt x 1115 then (bif Nat.beq x 1114 then some (.laload, 1) else none) else (bif Nat.beq x 1115 then some (.iload 6, 2) else none))) else (bif Nat.blt x 1118 then (bif Nat.beq x 1117 then some (.i2l, 1) else none) else (bif Nat.blt x 1119 then (bif Nat.beq x 1118 then some (.lcmp, 1) else none) else (bif Nat.beq x 1119 then some (.ifCond .eq 5, 3) else none)))) else (bif Nat.blt x 1127 then (bif Nat.blt x 1123 then (bif Nat.beq x 1122 then some (.iconst 0, 1) else none) else (bif Nat.blt x 1124 then (bif Nat.beq x 1123 then some (.ireturn, 1) else none) else (bif Nat.beq x 1124 then some (.goto 71, 3) else none))) else (bif Nat.blt x 1128 then (bif Nat.beq x 1127 then some (.aload_n 1, 1) else none) else (bif Nat.blt x 1129 then (bif Nat.beq x 1128 then some (.aload_n 0, 1) else none) else (bif Nat.beq x 1129 then some (.iload 4, 2) else none))))))) else (bif Nat.blt x 1162 then (bif Nat.blt x 1146 then (bif Nat.blt x 1137 then (bif Nat.blt x 1133 then (bif Nat.blt x 1132 then (bif Nat.beq x 1131 then some (.iconst 1, 1) else none) else (bif Nat.beq x 1132 then some (.iadd, 1) else none)) else (bif Nat.blt x 1134 then (bif Nat.beq x 1133 then some (.iaload, 1) else none) else (bif Nat.blt x 1135 then (bif Nat.beq x 1134 then some (.aload_n 0, 1) else none) else (bif Nat.beq x 1135 then some (.iload 4, 2) else none)))) else (bif Nat.blt x 1140 then (bif Nat.blt x 1138 then (bif Nat.beq x 1137 then some (.iconst 2, 1) else none) else (bif Nat.blt x 1139 then (bif Nat.beq x 1138 then some (.iadd, 1) else none) else (bif Nat.beq x 1139 then some (.iaload, 1) else none))) else (bif Nat.blt x 1141 then (bif Nat.beq x 1140 then some (.aload_n 3, 1) else none) else (bif Nat.blt x 1144 then (bif Nat.beq x 1141 then some (.invokestatic 152, 3) else none) else (bif Nat.beq x 1144 then some (.istore 5, 2) else none))))) else (bif Nat.blt x 1153 then (bif Nat.blt x 1150 then (bif Nat.blt x 1147 then (bif Nat.beq x 1146 then some (.aload_n 2, 1) else none) else (bif Nat.blt x 1148 then (bif Nat.beq x 1147 then some (.aload_n 0, 1) else none) else (bif Nat.beq x 1148 then some (.iload 4, 2) else none))) else (bif Nat.blt x 1151 then (bif Nat.beq x 1150 then some (.iconst 1, 1) else none) else (bif Nat.blt x 1152 then (bif Nat.beq x 1151 then some (.iadd, 1) else none) else (bif Nat.beq x 1152 then some (.iaload, 1) else none)))) else (bif Nat.blt x 1157 then (bif Nat.blt x 1154 then (bif Nat.beq x 1153 then some (.aload_n 0, 1) else none) else (bif Nat.blt x 1156 then (bif Nat.beq x 1154 then some (.iload 4, 2) else none) else (bif Nat.beq x 1156 then some (.iconst 2, 1) else none))) else (bif Nat.blt x 1158 then (bif Nat.beq x 1157 then some (.iadd, 1) else none) else (bif Nat.blt x 1159 then (bif Nat.beq x 1158 then some (.iaload, 1) else none) else (bif Nat.beq x 1159 then some (.invokevirtual 154, 3) else none)))))) else (bif Nat.blt x 1182 then (bif Nat.blt x 1173 then (bif Nat.blt x 1165 then (bif Nat.blt x 1164 then (bif Nat.beq x 1162 then some (.istore 6, 2) else none) else (bif Nat.beq x 1164 then some (.aload_n 2, 1) else none)) else (bif Nat.blt x 1168 then (bif Nat.beq x 1165 then some (.invokevirtual 98, 3) else none) else (bif Nat.blt x 1170 then (bif Nat.beq x 1168 then some (.iload 5, 2) else none) else (bif Nat.beq x 1170 then some (.if_icmp .eq 5, 3) else none)))) else (bif Nat.blt x 1177 then (bif Nat.blt x 1174 then (bif Nat.beq x 1173 then some (.iconst 0, 1) else none) else (bif Nat.blt x 1175 then (bif Nat.beq x 1174 then some (.ireturn, 1) else none) else (bif Nat.beq x 1175 then some (.iload 5, 2) else none))) else (bif Nat.blt x 1180 then (bif Nat.beq x 1177 then some (.ifCond .ne 15, 3) else none) else (bif Nat.blt x 1181 then (bif Nat.beq x 1180 then some (.aload_n 3, 1) else none) else (bif Nat.beq x 1181 then some (.iconst 0, 1) else none))))) else (bif Nat.blt x 1191 then (bif Nat.blt x 1186 then (bif Nat.blt x 1183 then (bif Nat.beq x 1182 then some (.laload, 1) else none) else (bif Nat.blt x 1185 then (bif Nat.beq x 1183 then some (.iload 6, 2) else none) else (bif Nat.beq x 1185 then some (.i2l, 1) else none))) else (bif Nat.blt x 1187 then (bif Nat.beq x 1186 then some (.lcmp, 1) else none) else (bif Nat.blt x 1190 then (bif Nat.beq x 1187 then some (.ifCond .eq 5, 3) else none) else (bif Nat.beq x 1190 then some (.iconst 0, 1) else none)))) else (bif Nat.blt x 1198 then (bif Nat.blt x 1192 then (bif Nat.beq x 1191 then some (.ireturn, 1) else none) else (bif Nat.blt x 1195 then (bif Nat.beq x 1192 then some (.goto 3, 3) else none) else (bif Nat.beq x 1195 then some (.iinc 4 4, 3) else none))) else (bif Nat.blt x 1201 then (bif Nat.beq x 1198 then some (.goto (-1175), 3) else none) else (bif Nat.blt x 1202 then (bif Nat.beq x 1201 then some (.iconst 1, 1) else none) else (bif Nat.beq x 1202 then some (.ireturn, 1) else none))))))))))
def q_cd (m x : Nat) : Option (Instr × Nat) := bif Nat.blt m 88 then (bif Nat.blt m 44 then (bif Nat.blt m 22 then (bif Nat.blt m 11 then (bif Nat.blt m 5 then (bif Nat.blt m 2 then (bif Nat.blt m 1 then (bif Nat.beq m 0 then q_t0 x else none) else (bif Nat.beq m 1 then q_t1 x else none)) else (bif Nat.blt m 3 then (bif Nat.beq m 2 then q_t2 x else none) else (bif Nat.blt m 4 then (bif Nat.beq m 3 then q_t3 x else none) else (bif Nat.beq m 4 then q_t4 x else none)))) else (bif Nat.blt m 8 then (bif Nat.blt m 6 then (bif Nat.beq m 5 then q_t5 x else none) else (bif Nat.blt m 7 then (bif Nat.beq m 6 then q_t6 x else none) else (bif Nat.beq m 7 then q_t7 x else none))) else (bif Nat.blt m 9 then (bif Nat.beq m 8 then q_t8 x else none) else (bif Nat.blt m 10 then (bif Nat.beq m 9 then q_t9 x else none) else (bif Nat.beq m 10 then q_t10 x else none))))) else (bif Nat.blt m 16 then (bif Nat.blt m 13 then (bif Nat.blt m 12 then (bif Nat.beq m 11 then q_t11 x else none) else (bif Nat.beq m 12 then q_t12 x else none)) else (bif Nat.blt m 14 then (bif Nat.beq m 13 then q_t13 x else none) else (bif Nat.blt m 15 then (bif Nat.beq m 14 then q_t14 x else none) else (bif Nat.beq m 15 then q_t15 x else none)))) else (bif Nat.blt m 19 then (bif Nat.blt m 17 then (bif Nat.beq m 16 then q_t16 x else none) else (bif Nat.blt m 18 then (bif Nat.beq m 17 then q_t17 x else none) else (bif Nat.beq m 18 then q_t18 x else none))) else (bif Nat.blt m 20 then (bif Nat.beq m 19 then q_t19 x else none) else (bif Nat.blt m 21 then (bif Nat.beq m 20 then q_t20 x else none) else (bif Nat.beq m 21 then q_t21 x else none)))))) else (bif Nat.blt m 33 then (bif Nat.blt m 27 then (bif Nat.blt m 24 then (bif Nat.blt m 23 then (bif Nat.beq m 22 then q_t22 x else none) else (bif Nat.beq m 23 then q_t23 x else none)) else (bif Nat.blt m 25 then (bif Nat.beq m 24 then q_t24 x else none) else (bif Nat.blt m 26 then (bif Nat.beq m 25 then q_t25 x else none) else (bif Nat.beq m 26 then q_t26 x else none)))) else (bif Nat.blt m 30 then (bif Nat.blt m 28 then (bif Nat.beq m 27 then q_t27 x else none) else (bif Nat.blt m 29 then (bif Nat.beq m 28 then q_t28 x else none) else (bif Nat.beq m 29 then q_t29 x else none))) else (bif Nat.blt m 31 then (bif Nat.beq m 30 then q_t30 x else none) else (bif Nat.blt m 32 then (bif Nat.beq m 31 then q_t31 x else none) else (bif Nat.beq m 32 then q_t32 x else none))))) else (bif Nat.blt m 38 then (bif Nat.blt m 35 then (bif Nat.blt m 34 then (bif Nat.beq m 33 then q_t33 x else none) else (bif Nat.beq m 34 then q_t34 x else none)) else (bif Nat.blt m 36 then (bif Nat.beq m 35 then q_t35 x else none) else (bif Nat.blt m 37 then (bif Nat.beq m 36 then q_t36 x else none) else (bif Nat.beq m 37 then q_t37 x else none)))) else (bif Nat.blt m 41 then (bif Nat.blt m 39 then (bif Nat.beq m 38 then q_t38 x else none) else (bif Nat.blt m 40 then (bif Nat.beq m 39 then q_t39 x else none) else (bif Nat.beq m 40 then q_t40 x else none))) else (bif Nat.blt m 42 then (bif Nat.beq m 41 then q_t41 x else none) else (bif Nat.blt m 43 then (bif Nat.beq m 42 then q_t42 x else none) else (bif Nat.beq m 43 then q_t43 x else none))))))) else (bif Nat.blt m 66 then (bif Nat.blt m 55 then (bif Nat.blt m 49 then (bif Nat.blt m 46 then (bif Nat.blt m 45 then (bif Nat.beq m 44 then q_t44 x else none) else (bif Nat.beq m 45 then q_t45 x else none)) else (bif Nat.blt m 47 then (bif Nat.beq m 46 then q_t46 x else none) else (bif Nat.blt m 48 then (bif Nat.beq m 47 then q_t47 x else none) else (bif Nat.beq m 48 then q_t48 x else none)))) else (bif Nat.blt m 52 then (bif Nat.blt m 50 then (bif Nat.beq m 49 then q_t49 x else none) else (bif Nat.blt m 51 then (bif Nat.beq m 50 then q_t50 x else none) else (bif Nat.beq m 51 then q_t51 x else none))) else (bif Nat.blt m 53 then (bif Nat.beq m 52 then q_t52 x else none) else (bif Nat.blt m 54 then (bif Nat.beq m 53 then q_t53 x else none) else (bif Nat.beq m 54 then q_t54 x else none))))) else (bif Nat.blt m 60 then (bif Nat.blt m 57 then (bif Nat.blt m 56 then (bif Nat.beq m 55 then q_t55 x else none) else (bif Nat.beq m 56 then q_t56 x else none)) else (bif Nat.blt m 58 then (bif Nat.beq m 57 then q_t57 x else none) else (bif Nat.blt m 59 then (bif Nat.beq m 58 then q_t58 x else none) else (bif Nat.beq m 59 then q_t59 x else none)))) else (bif Nat.blt m 63 then (bif Nat.blt m 61 then (bif Nat.beq m 60 then q_t60 x else none) else (bif Nat.blt m 62 then (bif Nat.beq m 61 then q_t61 x else none) else (bif Nat.beq m 62 then q_t62 x else none))) else (bif Nat.blt m 64 then (bif Nat.beq m 63 then q_t63 x else none) else (bif Nat.blt m 65 then (bif Nat.beq m 64 then q_t64 x else none) else (bif Nat.beq m 65 then q_t65 x else none)))))) else (bif Nat.blt m 77 then (bif Nat.blt m 71 then (bif Nat.blt m 68 then (bif Nat.blt m 67 then (bif Nat.beq m 66 then q_t66 x else none) else (bif Nat.beq m 67 then q_t67 x else none)) else (bif Nat.blt m 69 then (bif Nat.beq m 68 then q_t68 x else none) else (bif Nat.blt m 70 then (bif Nat.beq m 69 then q_t69 x else none) else (bif Nat.beq m 70 then q_t70 x else none)))) else (bif Nat.blt m 74 then (bif Nat.blt m 72 then (bif Nat.beq m 71 then q_t71 x else none) else (bif Nat.blt m 73 then (bif Nat.beq m 72 then q_t72 x else none) else (bif Nat.beq m 73 then q_t73 x else none))) else (bif Nat.blt m 75 then (bif Nat.beq m 74 then q_t74 x else none) else (bif Nat.blt m 76 then (bif Nat.beq m 75 then q_t75 x else none) else (bif Nat.beq m 76 then q_t76 x else none))))) else (bif Nat.blt m 82 then (bif Nat.blt m 79 then (bif Nat.blt m 78 then (bif Nat.beq m 77 then q_t77 x else none) else (bif Nat.beq m 78 then q_t78 x else none)) else (bif Nat.blt m 80 then (bif Nat.beq m 79 then q_t79 x else none) else (bif Nat.blt m 81 then (bif Nat.beq m 80 then q_t80 x else none) else (bif Nat.beq m 81 then q_t81 x else none)))) else (bif Nat.blt m 85 then (bif Nat.blt m 83 then (bif Nat.beq m 82 then q_t82 x else none) else (bif Nat.blt m 84 then (bif Nat.beq m 83 then q_t83 x else none) else (bif Nat.beq m 84 then q_t84 x else none))) else (bif Nat.blt m 86 then (bif Nat.beq m 85 then q_t85 x else none) else (bif Nat.blt m 87 then (bif Nat.beq m 86 then q_t86 x else none) else (bif Nat.beq m 87 then q_t87 x else none)))))))) else (bif Nat.blt m 132 then (bif Nat.blt m 110 then (bif Nat.blt m 99 then (bif Nat.blt m 93 then (bif Nat.blt m 90 then (bif Nat.blt m 89 then (bif Nat.beq m 88 then q_t88 x else none) else (bif Nat.beq m 89 then q_t89 x else none)) else (bif Nat.blt m 91 then (bif Nat.beq m 90 then q_t90 x else none) else (bif Nat.blt m 92 then (bif Nat.beq m 91 then q_t91 x else none) else (bif Nat.beq m 92 then q_t92 x else none)))) else (bif Nat.blt m 96 then (bif Nat.blt m 94 then (bif Nat.beq m 93 then q_t93 x else none) else (bif Nat.blt m 95 then (bif Nat.beq m 94 then q_t94 x else none) else (bif Nat.beq m 95 then q_t95 x else none))) else (bif Nat.blt m 97 then (bif Nat.beq m 96 then q_t96 x else none) else (bif Nat.blt m 98 then (bif Nat.beq m 97 then q_t97 x else none) else (bif Nat.beq m 98 then q_t98 x else none))))) else (bif Nat.blt m 104 then (bif Nat.blt m 101 then (bif Nat.blt m 100 then (bif Nat.beq m 99 then q_t99 x else none) else (bif Nat.beq m 100 then q_t100 x else none)) else (bif Nat.blt m 102 then (bif Nat.beq m 101 then q_t101 x else none) else (bif Nat.blt m 103 then (bif Nat.beq m 102 then q_t102 x else none) else (bif Nat.beq m 103 then q_t103 x else none)))) else (bif Nat.blt m 107 then (bif Nat.blt m 105 then (bif Nat.beq m 104 then q_t104 x else none) else (bif Nat.blt m 106 then (bif Nat.beq m 105 then q_t105 x else none) else (bif Nat.beq m 106 then q_t106 x else none))) else (bif Nat.blt m 108 then (bif Nat.beq m 107 then q_t107 x else none) else (bif Nat.blt m 109 then (bif Nat.beq m 108 then q_t108 x else none) else (bif Nat.beq m 109 then q_t109 x else none)))))) else (bif Nat.blt m 121 then (bif Nat.blt m 115 then (bif Nat.blt m 112 then (bif Nat.blt m 111 then (bif Nat.beq m 110 then q_t110 x else none) else (bif Nat.beq m 111 then q_t111 x else none)) else (bif Nat.blt m 113 then (bif Nat.beq m 112 then q_t112 x else none) else (bif Nat.blt m 114 then (bif Nat.beq m 113 then q_t113 x else none) else (bif Nat.beq m 114 then q_t114 x else none)))) else (bif Nat.blt m 118 then (bif Nat.blt m 116 then (bif Nat.beq m 115 then q_t115 x else none) else (bif Nat.blt m 117 then (bif Nat.beq m 116 then q_t116 x else none) else (bif Nat.beq m 117 then q_t117 x else none))) else (bif Nat.blt m 119 then (bif Nat.beq m 118 then q_t118 x else none) else (bif Nat.blt m 120 then (bif Nat.beq m 119 then q_t119 x else none) else (bif Nat.beq m 120 then q_t120 x else none))))) else (bif Nat.blt m 126 then (bif Nat.blt m 123 then (bif Nat.blt m 122 then (bif Nat.beq m 121 then q_t121 x else none) else (bif Nat.beq m 122 then q_t122 x else none)) else (bif Nat.blt m 124 then (bif Nat.beq m 123 then q_t123 x else none) else (bif Nat.blt m 125 then (bif Nat.beq m 124 then q_t124 x else none) else (bif Nat.beq m 125 then q_t125 x else none)))) else (bif Nat.blt m 129 then (bif Nat.blt m 127 then (bif Nat.beq m 126 then q_t126 x else none) else (bif Nat.blt m 128 then (bif Nat.beq m 127 then q_t127 x else none) else (bif Nat.beq m 128 then q_t128 x else none))) else (bif Nat.blt m 130 then (bif Nat.beq m 129 then q_t129 x else none) else (bif Nat.blt m 131 then (bif Nat.beq m 130 then q_t130 x else none) else (bif Nat.beq m 131 then q_t131 x else none))))))) else (bif Nat.blt m 154 then (bif Nat.blt m 143 then (bif Nat.blt m 137 then (bif Nat.blt m 134 then (bif Nat.blt m 133 then (bif Nat.beq m 132 then q_t132 x else none) else (bif Nat.beq m 133 then q_t133 x else none)) else (bif Nat.blt m 135 then (bif Nat.beq m 134 then q_t134 x else none) else (bif Nat.blt m 136 then (bif Nat.beq m 135 then q_t135 x else none) else (bif Nat.beq m 136 then q_t136 x else none)))) else (bif Nat.blt m 140 then (bif Nat.blt m 138 then (bif Nat.beq m 137 then q_t137 x else none) else (bif Nat.blt m 139 then (bif Nat.beq m 138 then q_t138 x else none) else (bif Nat.beq m 139 then q_t139 x else none))) else (bif Nat.blt m 141 then (bif Nat.beq m 140 then q_t140 x else none) else (bif Nat.blt m 142 then (bif Nat.beq m 141 then q_t141 x else none) else (bif Nat.beq m 142 then q_t142 x else none))))) else (bif Nat.blt m 148 then (bif Nat.blt m 145 then (bif Nat.blt m 144 then (bif Nat.beq m 143 then q_t143 x else none) else (bif Nat.beq m 144 then q_t144 x else none)) else (bif Nat.blt m 146 then (bif Nat.beq m 145 then q_t145 x else none) else (bif Nat.blt m 147 then (bif Nat.beq m 146 then q_t146 x else none) else (bif Nat.beq m 147 then q_t147 x else none)))) else (bif Nat.blt m 151 then (bif Nat.blt m 149 then (bif Nat.beq m 148 then q_t148 x else none) else (bif Nat.blt m 150 then (bif Nat.beq m 149 then q_t149 x else none) else (bif Nat.beq m 150 then q_t150 x else none))) else (bif Nat.blt m 152 then (bif Nat.beq m 151 then q_t151 x else none) else (bif Nat.blt m 153 then (bif Nat.beq m 152 then q_t152 x else none) else (bif Nat.beq m 153 then q_t153 x else none)))))) else (bif Nat.blt m 165 then (bif Nat.blt m 159 then (bif Nat.blt m 156 then (bif Nat.blt m 155 then (bif Nat.beq m 154 then q_t154 x else none) else (bif Nat.beq m 155 then q_t155 x else none)) else (bif Nat.blt m 157 then (bif Nat.beq m 156 then q_t156 x else none) else (bif Nat.blt m 158 then (bif Nat.beq m 157 then q_t157 x else none) else (bif Nat.beq m 158 then q_t158 x else none)))) else (bif Nat.blt m 162 then (bif Nat.blt m 160 then (bif Nat.beq m 159 then q_t159 x else none) else (bif Nat.blt m 161 then (bif Nat.beq m 160 then q_t160 x else none) else (bif Nat.beq m 161 then q_t161 x else none))) else (bif Nat.blt m 163 then (bif Nat.beq m 162 then q_t162 x else none) else (bif Nat.blt m 164 then (bif Nat.beq m 163 then q_t163 x else none) else (bif Nat.beq m 164 then q_t164 x else none))))) else (bif Nat.blt m 170 then (bif Nat.blt m 167 then (bif Nat.blt m 166 then (bif Nat.beq m 165 then q_t165 x else none) else (bif Nat.beq m 166 then q_t166 x else none)) else (bif Nat.blt m 168 then (bif Nat.beq m 167 then q_t167 x else none) else (bif Nat.blt m 169 then (bif Nat.beq m 168 then q_t168 x else none) else (bif Nat.beq m 169 then q_t169 x else none)))) else (bif Nat.blt m 173 then (bif Nat.blt m 171 then (bif Nat.beq m 170 then q_t170 x else none) else (bif Nat.blt m 172 then (bif Nat.beq m 171 then q_t171 x else none) else (bif Nat.beq m 172 then q_t172 x else none))) else (bif Nat.blt m 174 then (bif Nat.beq m 173 then q_t173 x else none) else (bif Nat.blt m 175 then (bif Nat.beq m 174 then q_t174 x else none) else (bif Nat.beq m 175 then q_t175 x else none))))))))
def q_ml (m : Nat) : Nat := bif Nat.blt m 88 then (bif Nat.blt m 44 then (bif Nat.blt m 22 then (bif Nat.blt m 11 then (bif Nat.blt m 5 then (bif Nat.blt m 2 then (bif Nat.blt m 1 then (bif Nat.beq m 0 then 3 else 0) else (bif Nat.beq m 1 then 1 else 0)) else (bif Nat.blt m 3 then (bif Nat.beq m 2 then 2 else 0) else (bif Nat.blt m 4 then (bif Nat.beq m 3 then 1 else 0) else (bif Nat.beq m 4 then 5 else 0)))) else (bif Nat.blt m 8 then (bif Nat.blt m 6 then (bif Nat.beq m 5 then 2 else 0) else (bif Nat.blt m 7 then (bif Nat.beq m 6 then 3 else 0) else (bif Nat.beq m 7 then 4 else 0))) else (bif Nat.blt m 9 then (bif Nat.beq m 8 then 3 else 0) else (bif Nat.blt m 10 then (bif Nat.beq m 9 then 4 else 0) else (bif Nat.beq m 10 then 4 else 0))))) else (bif Nat.blt m 16 then (bif Nat.blt m 13 then (bif Nat.blt m 12 then (bif Nat.beq m 11 then 3 else 0) else (bif Nat.beq m 12 then 2 else 0)) else (bif Nat.blt m 14 then (bif Nat.beq m 13 then 3 else 0) else (bif Nat.blt m 15 then (bif Nat.beq m 14 then 2 else 0) else (bif Nat.beq m 15 then 2 else 0)))) else (bif Nat.blt m 19 then (bif Nat.blt m 17 then (bif Nat.beq m 16 then 2 else 0) else (bif Nat.blt m 18 then (bif Nat.beq m 17 then 1 else 0) else (bif Nat.beq m 18 then 3 else 0))) else (bif Nat.blt m 20 then (bif Nat.beq m 19 then 3 else 0) else (bif Nat.blt m 21 then (bif Nat.beq m 20 then 1 else 0) else (bif Nat.beq m 21 then 2 else 0)))))) else (bif Nat.blt m 33 then (bif Nat.blt m 27 then (bif Nat.blt m 24 then (bif Nat.blt m 23 then (bif Nat.beq m 22 then 2 else 0) else (bif Nat.beq m 23 then 2 else 0)) else (bif Nat.blt m 25 then (bif Nat.beq m 24 then 2 else 0) else (bif Nat.blt m 26 then (bif Nat.beq m 25 then 1 else 0) else (bif Nat.beq m 26 then 1 else 0)))) else (bif Nat.blt m 30 then (bif Nat.blt m 28 then (bif Nat.beq m 27 then 1 else 0) else (bif Nat.blt m 29 then (bif Nat.beq m 28 then 1 else 0) else (bif Nat.beq m 29 then 1 else 0))) else (bif Nat.blt m 31 then (bif Nat.beq m 30 then 1 else 0) else (bif Nat.blt m 32 then (bif Nat.beq m 31 then 1 else 0) else (bif Nat.beq m 32 then 7 else 0))))) else (bif Nat.blt m 38 then (bif Nat.blt m 35 then (bif Nat.blt m 34 then (bif Nat.beq m 33 then 2 else 0) else (bif Nat.beq m 34 then 3 else 0)) else (bif Nat.blt m 36 then (bif Nat.beq m 35 then 7 else 0) else (bif Nat.blt m 37 then (bif Nat.beq m 36 then 5 else 0) else (bif Nat.beq m 37 then 4 else 0)))) else (bif Nat.blt m 41 then (bif Nat.blt m 39 then (bif Nat.beq m 38 then 2 else 0) else (bif Nat.blt m 40 then (bif Nat.beq m 39 then 3 else 0) else (bif Nat.beq m 40 then 2 else 0))) else (bif Nat.blt m 42 then (bif Nat.beq m 41 then 1 else 0) else (bif Nat.blt m 43 then (bif Nat.beq m 42 then 6 else 0) else (bif Nat.beq m 43 then 4 else 0))))))) else (bif Nat.blt m 66 then (bif Nat.blt m 55 then (bif Nat.blt m 49 then (bif Nat.blt m 46 then (bif Nat.blt m 45 then (bif Nat.beq m 44 then 6 else 0) else (bif Nat.beq m 45 then 5 else 0)) else (bif Nat.blt m 47 then (bif Nat.beq m 46 then 5 else 0) else (bif Nat.blt m 48 then (bif Nat.beq m 47 then 7 else 0) else (bif Nat.beq m 48 then 5 else 0)))) else (bif Nat.blt m 52 then (bif Nat.blt m 50 then (bif Nat.beq m 49 then 5 else 0) else (bif Nat.blt m 51 then (bif Nat.beq m 50 then 11 else 0) else (bif Nat.beq m 51 then 5 else 0))) else (bif Nat.blt m 53 then (bif Nat.beq m 52 then 4 else 0) else (bif Nat.blt m 54 then (bif Nat.beq m 53 then 6 else 0) else (bif Nat.beq m 54 then 3 else 0))))) else (bif Nat.blt m 60 then (bif Nat.blt m 57 then (bif Nat.blt m 56 then (bif Nat.beq m 55 then 5 else 0) else (bif Nat.beq m 56 then 4 else 0)) else (bif Nat.blt m 58 then (bif Nat.beq m 57 then 7 else 0) else (bif Nat.blt m 59 then (bif Nat.beq m 58 then 4 else 0) else (bif Nat.beq m 59 then 5 else 0)))) else (bif Nat.blt m 63 then (bif Nat.blt m 61 then (bif Nat.beq m 60 then 4 else 0) else (bif Nat.blt m 62 then (bif Nat.beq m 61 then 4 else 0) else (bif Nat.beq m 62 then 2 else 0))) else (bif Nat.blt m 64 then (bif Nat.beq m 63 then 2 else 0) else (bif Nat.blt m 65 then (bif Nat.beq m 64 then 2 else 0) else (bif Nat.beq m 65 then 3 else 0)))))) else (bif Nat.blt m 77 then (bif Nat.blt m 71 then (bif Nat.blt m 68 then (bif Nat.blt m 67 then (bif Nat.beq m 66 then 5 else 0) else (bif Nat.beq m 67 then 5 else 0)) else (bif Nat.blt m 69 then (bif Nat.beq m 68 then 3 else 0) else (bif Nat.blt m 70 then (bif Nat.beq m 69 then 4 else 0) else (bif Nat.beq m 70 then 3 else 0)))) else (bif Nat.blt m 74 then (bif Nat.blt m 72 then (bif Nat.beq m 71 then 2 else 0) else (bif Nat.blt m 73 then (bif Nat.beq m 72 then 3 else 0) else (bif Nat.beq m 73 then 6 else 0))) else (bif Nat.blt m 75 then (bif Nat.beq m 74 then 6 else 0) else (bif Nat.blt m 76 then (bif Nat.beq m 75 then 5 else 0) else (bif Nat.beq m 76 then 2 else 0))))) else (bif Nat.blt m 82 then (bif Nat.blt m 79 then (bif Nat.blt m 78 then (bif Nat.beq m 77 then 2 else 0) else (bif Nat.beq m 78 then 3 else 0)) else (bif Nat.blt m 80 then (bif Nat.beq m 79 then 3 else 0) else (bif Nat.blt m 81 then (bif Nat.beq m 80 then 3 else 0) else (bif Nat.beq m 81 then 3 else 0)))) else (bif Nat.blt m 85 then (bif Nat.blt m 83 then (bif Nat.beq m 82 then 4 else 0) else (bif Nat.blt m 84 then (bif Nat.beq m 83 then 4 else 0) else (bif Nat.beq m 84 then 9 else 0))) else (bif Nat.blt m 86 then (bif Nat.beq m 85 then 6 else 0) else (bif Nat.blt m 87 then (bif Nat.beq m 86 then 3 else 0) else (bif Nat.beq m 87 then 4 else 0)))))))) else (bif Nat.blt m 132 then (bif Nat.blt m 110 then (bif Nat.blt m 99 then (bif Nat.blt m 93 then (bif Nat.blt m 90 then (bif Nat.blt m 89 then (bif Nat.beq m 88 then 4 else 0) else (bif Nat.beq m 89 then 4 else 0)) else (bif Nat.blt m 91 then (bif Nat.beq m 90 then 2 else 0) else (bif Nat.blt m 92 then (bif Nat.beq m 91 then 6 else 0) else (bif Nat.beq m 92 then 4 else 0)))) else (bif Nat.blt m 96 then (bif Nat.blt m 94 then (bif Nat.beq m 93 then 4 else 0) else (bif Nat.blt m 95 then (bif Nat.beq m 94 then 5 else 0) else (bif Nat.beq m 95 then 4 else 0))) else (bif Nat.blt m 97 then (bif Nat.beq m 96 then 5 else 0) else (bif Nat.blt m 98 then (bif Nat.beq m 97 then 3 else 0) else (bif Nat.beq m 98 then 6 else 0))))) else (bif Nat.blt m 104 then (bif Nat.blt m 101 then (bif Nat.blt m 100 then (bif Nat.beq m 99 then 4 else 0) else (bif Nat.beq m 100 then 3 else 0)) else (bif Nat.blt m 102 then (bif Nat.beq m 101 then 1 else 0) else (bif Nat.blt m 103 then (bif Nat.beq m 102 then 1 else 0) else (bif Nat.beq m 103 then 2 else 0)))) else (bif Nat.blt m 107 then (bif Nat.blt m 105 then (bif Nat.beq m 104 then 3 else 0) else (bif Nat.blt m 106 then (bif Nat.beq m 105 then 3 else 0) else (bif Nat.beq m 106 then 2 else 0))) else (bif Nat.blt m 108 then (bif Nat.beq m 107 then 1 else 0) else (bif Nat.blt m 109 then (bif Nat.beq m 108 then 7 else 0) else (bif Nat.beq m 109 then 6 else 0)))))) else (bif Nat.blt m 121 then (bif Nat.blt m 115 then (bif Nat.blt m 112 then (bif Nat.blt m 111 then (bif Nat.beq m 110 then 3 else 0) else (bif Nat.beq m 111 then 4 else 0)) else (bif Nat.blt m 113 then (bif Nat.beq m 112 then 1 else 0) else (bif Nat.blt m 114 then (bif Nat.beq m 113 then 3 else 0) else (bif Nat.beq m 114 then 1 else 0)))) else (bif Nat.blt m 118 then (bif Nat.blt m 116 then (bif Nat.beq m 115 then 4 else 0) else (bif Nat.blt m 117 then (bif Nat.beq m 116 then 3 else 0) else (bif Nat.beq m 117 then 3 else 0))) else (bif Nat.blt m 119 then (bif Nat.beq m 118 then 5 else 0) else (bif Nat.blt m 120 then (bif Nat.beq m 119 then 3 else 0) else (bif Nat.beq m 120 then 2 else 0))))) else (bif Nat.blt m 126 then (bif Nat.blt m 123 then (bif Nat.blt m 122 then (bif Nat.beq m 121 then 3 else 0) else (bif Nat.beq m 122 then 2 else 0)) else (bif Nat.blt m 124 then (bif Nat.beq m 123 then 1 else 0) else (bif Nat.blt m 125 then (bif Nat.beq m 124 then 4 else 0) else (bif Nat.beq m 125 then 3 else 0)))) else (bif Nat.blt m 129 then (bif Nat.blt m 127 then (bif Nat.beq m 126 then 3 else 0) else (bif Nat.blt m 128 then (bif Nat.beq m 127 then 1 else 0) else (bif Nat.beq m 128 then 4 else 0))) else (bif Nat.blt m 130 then (bif Nat.beq m 129 then 3 else 0) else (bif Nat.blt m 131 then (bif Nat.beq m 130 then 3 else 0) else (bif Nat.beq m 131 then 5 else 0))))))) else (bif Nat.blt m 154 then (bif Nat.blt m 143 then (bif Nat.blt m 137 then (bif Nat.blt m 134 then (bif Nat.blt m 133 then (bif Nat.beq m 132 then 1 else 0) else (bif Nat.beq m 133 then 2 else 0)) else (bif Nat.blt m 135 then (bif Nat.beq m 134 then 6 else 0) else (bif Nat.blt m 136 then (bif Nat.beq m 135 then 6 else 0) else (bif Nat.beq m 136 then 6 else 0)))) else (bif Nat.blt m 140 then (bif Nat.blt m 138 then (bif Nat.beq m 137 then 4 else 0) else (bif Nat.blt m 139 then (bif Nat.beq m 138 then 6 else 0) else (bif Nat.beq m 139 then 3 else 0))) else (bif Nat.blt m 141 then (bif Nat.beq m 140 then 4 else 0) else (bif Nat.blt m 142 then (bif Nat.beq m 141 then 3 else 0) else (bif Nat.beq m 142 then 3 else 0))))) else (bif Nat.blt m 148 then (bif Nat.blt m 145 then (bif Nat.blt m 144 then (bif Nat.beq m 143 then 6 else 0) else (bif Nat.beq m 144 then 3 else 0)) else (bif Nat.blt m 146 then (bif Nat.beq m 145 then 4 else 0) else (bif Nat.blt m 147 then (bif Nat.beq m 146 then 6 else 0) else (bif Nat.beq m 147 then 2 else 0)))) else (bif Nat.blt m 151 then (bif Nat.blt m 149 then (bif Nat.beq m 148 then 3 else 0) else (bif Nat.blt m 150 then (bif Nat.beq m 149 then 2 else 0) else (bif Nat.beq m 150 then 6 else 0))) else (bif Nat.blt m 152 then (bif Nat.beq m 151 then 3 else 0) else (bif Nat.blt m 153 then (bif Nat.beq m 152 then 4 else 0) else (bif Nat.beq m 153 then 5 else 0)))))) else (bif Nat.blt m 165 then (bif Nat.blt m 159 then (bif Nat.blt m 156 then (bif Nat.blt m 155 then (bif Nat.beq m 154 then 2 else 0) else (bif Nat.beq m 155 then 6 else 0)) else (bif Nat.blt m 157 then (bif Nat.beq m 156 then 3 else 0) else (bif Nat.blt m 158 then (bif Nat.beq m 157 then 2 else 0) else (bif Nat.beq m 158 then 4 else 0)))) else (bif Nat.blt m 162 then (bif Nat.blt m 160 then (bif Nat.beq m 159 then 7 else 0) else (bif Nat.blt m 161 then (bif Nat.beq m 160 then 5 else 0) else (bif Nat.beq m 161 then 4 else 0))) else (bif Nat.blt m 163 then (bif Nat.beq m 162 then 5 else 0) else (bif Nat.blt m 164 then (bif Nat.beq m 163 then 5 else 0) else (bif Nat.beq m 164 then 5 else 0))))) else (bif Nat.blt m 170 then (bif Nat.blt m 167 then (bif Nat.blt m 166 then (bif Nat.beq m 165 then 5 else 0) else (bif Nat.beq m 166 then 6 else 0)) else (bif Nat.blt m 168 then (bif Nat.beq m 167 then 5 else 0) else (bif Nat.blt m 169 then (bif Nat.beq m 168 then 4 else 0) else (bif Nat.beq m 169 then 4 else 0)))) else (bif Nat.blt m 173 then (bif Nat.blt m 171 then (bif Nat.beq m 170 then 4 else 0) else (bif Nat.blt m 172 then (bif Nat.beq m 171 then 4 else 0) else (bif Nat.beq m 172 then 3 else 0))) else (bif Nat.blt m 174 then (bif Nat.beq m 173 then 5 else 0) else (bif Nat.blt m 175 then (bif Nat.beq m 174 then 5 else 0) else (bif Nat.beq m 175 then 7 else 0))))))))
def q_mc (m : Nat) : Nat := bif Nat.blt m 88 then (bif Nat.blt m 44 then (bif Nat.blt m 22 then (bif Nat.blt m 11 then (bif Nat.blt m 5 then (bif Nat.blt m 2 then (bif Nat.blt m 1 then (bif Nat.beq m 0 then 0 else 99) else (bif Nat.beq m 1 then 0 else 99)) else (bif Nat.blt m 3 then (bif Nat.beq m 2 then 0 else 99) else (bif Nat.blt m 4 then (bif Nat.beq m 3 then 0 else 99) else (bif Nat.beq m 4 then 0 else 99)))) else (bif Nat.blt m 8 then (bif Nat.blt m 6 then (bif Nat.beq m 5 then 0 else 99) else (bif Nat.blt m 7 then (bif Nat.beq m 6 then 0 else 99) else (bif Nat.beq m 7 then 0 else 99))) else (bif Nat.blt m 9 then (bif Nat.beq m 8 then 0 else 99) else (bif Nat.blt m 10 then (bif Nat.beq m 9 then 0 else 99) else (bif Nat.beq m 10 then 0 else 99))))) else (bif Nat.blt m 16 then (bif Nat.blt m 13 then (bif Nat.blt m 12 then (bif Nat.beq m 11 then 0 else 99) else (bif Nat.beq m 12 then 0 else 99)) else (bif Nat.blt m 14 then (bif Nat.beq m 13 then 0 else 99) else (bif Nat.blt m 15 then (bif Nat.beq m 14 then 0 else 99) else (bif Nat.beq m 15 then 0 else 99)))) else (bif Nat.blt m 19 then (bif Nat.blt m 17 then (bif Nat.beq m 16 then 0 else 99) else (bif Nat.blt m 18 then (bif Nat.beq m 17 then 0 else 99) else (bif Nat.beq m 18 then 0 else 99))) else (bif Nat.blt m 20 then (bif Nat.beq m 19 then 0 else 99) else (bif Nat.blt m 21 then (bif Nat.beq m 20 then 0 else 99) else (bif Nat.beq m 21 then 0 else 99)))))) else (bif Nat.blt m 33 then (bif Nat.blt m 27 then (bif Nat.blt m 24 then (bif Nat.blt m 23 then (bif Nat.beq m 22 then 0 else 99) else (bif Nat.beq m 23 then 0 else 99)) else (bif Nat.blt m 25 then (bif Nat.beq m 24 then 0 else 99) else (bif Nat.blt m 26 then (bif Nat.beq m 25 then 0 else 99) else (bif Nat.beq m 26 then 0 else 99)))) else (bif Nat.blt m 30 then (bif Nat.blt m 28 then (bif Nat.beq m 27 then 0 else 99) else (bif Nat.blt m 29 then (bif Nat.beq m 28 then 11 else 99) else (bif Nat.beq m 29 then 11 else 99))) else (bif Nat.blt m 31 then (bif Nat.beq m 30 then 11 else 99) else (bif Nat.blt m 32 then (bif Nat.beq m 31 then 11 else 99) else (bif Nat.beq m 32 then 11 else 99))))) else (bif Nat.blt m 38 then (bif Nat.blt m 35 then (bif Nat.blt m 34 then (bif Nat.beq m 33 then 11 else 99) else (bif Nat.beq m 34 then 11 else 99)) else (bif Nat.blt m 36 then (bif Nat.beq m 35 then 11 else 99) else (bif Nat.blt m 37 then (bif Nat.beq m 36 then 11 else 99) else (bif Nat.beq m 37 then 11 else 99)))) else (bif Nat.blt m 41 then (bif Nat.blt m 39 then (bif Nat.beq m 38 then 11 else 99) else (bif Nat.blt m 40 then (bif Nat.beq m 39 then 11 else 99) else (bif Nat.beq m 40 then 11 else 99))) else (bif Nat.blt m 42 then (bif Nat.beq m 41 then 11 else 99) else (bif Nat.blt m 43 then (bif Nat.beq m 42 then 11 else 99) else (bif Nat.beq m 43 then 11 else 99))))))) else (bif Nat.blt m 66 then (bif Nat.blt m 55 then (bif Nat.blt m 49 then (bif Nat.blt m 46 then (bif Nat.blt m 45 then (bif Nat.beq m 44 then 11 else 99) else (bif Nat.beq m 45 then 11 else 99)) else (bif Nat.blt m 47 then (bif Nat.beq m 46 then 11 else 99) else (bif Nat.blt m 48 then (bif Nat.beq m 47 then 11 else 99) else (bif Nat.beq m 48 then 11 else 99)))) else (bif Nat.blt m 52 then (bif Nat.blt m 50 then (bif Nat.beq m 49 then 11 else 99) else (bif Nat.blt m 51 then (bif Nat.beq m 50 then 11 else 99) else (bif Nat.beq m 51 then 11 else 99))) else (bif Nat.blt m 53 then (bif Nat.beq m 52 then 11 else 99) else (bif Nat.blt m 54 then (bif Nat.beq m 53 then 11 else 99) else (bif Nat.beq m 54 then 11 else 99))))) else (bif Nat.blt m 60 then (bif Nat.blt m 57 then (bif Nat.blt m 56 then (bif Nat.beq m 55 then 11 else 99) else (bif Nat.beq m 56 then 11 else 99)) else (bif Nat.blt m 58 then (bif Nat.beq m 57 then 11 else 99) else (bif Nat.blt m 59 then (bif Nat.beq m 58 then 11 else 99) else (bif Nat.beq m 59 then 11 else 99)))) else (bif Nat.blt m 63 then (bif Nat.blt m 61 then (bif Nat.beq m 60 then 11 else 99) else (bif Nat.blt m 62 then (bif Nat.beq m 61 then 11 else 99) else (bif Nat.beq m 62 then 11 else 99))) else (bif Nat.blt m 64 then (bif Nat.beq m 63 then 11 else 99) else (bif Nat.blt m 65 then (bif Nat.beq m 64 then 11 else 99) else (bif Nat.beq m 65 then 11 else 99)))))) else (bif Nat.blt m 77 then (bif Nat.blt m 71 then (bif Nat.blt m 68 then (bif Nat.blt m 67 then (bif Nat.beq m 66 then 11 else 99) else (bif Nat.beq m 67 then 11 else 99)) else (bif Nat.blt m 69 then (bif Nat.beq m 68 then 11 else 99) else (bif Nat.blt m 70 then (bif Nat.beq m 69 then 11 else 99) else (bif Nat.beq m 70 then 11 else 99)))) else (bif Nat.blt m 74 then (bif Nat.blt m 72 then (bif Nat.beq m 71 then 11 else 99) else (bif Nat.blt m 73 then (bif Nat.beq m 72 then 11 else 99) else (bif Nat.beq m 73 then 11 else 99))) else (bif Nat.blt m 75 then (bif Nat.beq m 74 then 11 else 99) else (bif Nat.blt m 76 then (bif Nat.beq m 75 then 11 else 99) else (bif Nat.beq m 76 then 11 else 99))))) else (bif Nat.blt m 82 then (bif Nat.blt m 79 then (bif Nat.blt m 78 then (bif Nat.beq m 77 then 11 else 99) else (bif Nat.beq m 78 then 11 else 99)) else (bif Nat.blt m 80 then (bif Nat.beq m 79 then 11 else 99) else (bif Nat.blt m 81 then (bif Nat.beq m 80 then 11 else 99) else (bif Nat.beq m 81 then 6 else 99)))) else (bif Nat.blt m 85 then (bif Nat.blt m 83 then (bif Nat.beq m 82 then 6 else 99) else (bif Nat.blt m 84 then (bif Nat.beq m 83 then 6 else 99) else (bif Nat.beq m 84 then 6 else 99))) else (bif Nat.blt m 86 then (bif Nat.beq m 85 then 6 else 99) else (bif Nat.blt m 87 then (bif Nat.beq m 86 then 7 else 99) else (bif Nat.beq m 87 then 7 else 99)))))))) else (bif Nat.blt m 132 then (bif Nat.blt m 110 then (bif Nat.blt m 99 then (bif Nat.blt m 93 then (bif Nat.blt m 90 then (bif Nat.blt m 89 then (bif Nat.beq m 88 then 7 else 99) else (bif Nat.beq m 89 then 8 else 99)) else (bif Nat.blt m 91 then (bif Nat.beq m 90 then 8 else 99) else (bif Nat.blt m 92 then (bif Nat.beq m 91 then 8 else 99) else (bif Nat.beq m 92 then 8 else 99)))) else (bif Nat.blt m 96 then (bif Nat.blt m 94 then (bif Nat.beq m 93 then 8 else 99) else (bif Nat.blt m 95 then (bif Nat.beq m 94 then 8 else 99) else (bif Nat.beq m 95 then 8 else 99))) else (bif Nat.blt m 97 then (bif Nat.beq m 96 then 8 else 99) else (bif Nat.blt m 98 then (bif Nat.beq m 97 then 8 else 99) else (bif Nat.beq m 98 then 8 else 99))))) else (bif Nat.blt m 104 then (bif Nat.blt m 101 then (bif Nat.blt m 100 then (bif Nat.beq m 99 then 8 else 99) else (bif Nat.beq m 100 then 8 else 99)) else (bif Nat.blt m 102 then (bif Nat.beq m 101 then 2 else 99) else (bif Nat.blt m 103 then (bif Nat.beq m 102 then 2 else 99) else (bif Nat.beq m 103 then 2 else 99)))) else (bif Nat.blt m 107 then (bif Nat.blt m 105 then (bif Nat.beq m 104 then 2 else 99) else (bif Nat.blt m 106 then (bif Nat.beq m 105 then 2 else 99) else (bif Nat.beq m 106 then 2 else 99))) else (bif Nat.blt m 108 then (bif Nat.beq m 107 then 2 else 99) else (bif Nat.blt m 109 then (bif Nat.beq m 108 then 2 else 99) else (bif Nat.beq m 109 then 2 else 99)))))) else (bif Nat.blt m 121 then (bif Nat.blt m 115 then (bif Nat.blt m 112 then (bif Nat.blt m 111 then (bif Nat.beq m 110 then 2 else 99) else (bif Nat.beq m 111 then 2 else 99)) else (bif Nat.blt m 113 then (bif Nat.beq m 112 then 9 else 99) else (bif Nat.blt m 114 then (bif Nat.beq m 113 then 9 else 99) else (bif Nat.beq m 114 then 9 else 99)))) else (bif Nat.blt m 118 then (bif Nat.blt m 116 then (bif Nat.beq m 115 then 9 else 99) else (bif Nat.blt m 117 then (bif Nat.beq m 116 then 9 else 99) else (bif Nat.beq m 117 then 9 else 99))) else (bif Nat.blt m 119 then (bif Nat.beq m 118 then 9 else 99) else (bif Nat.blt m 120 then (bif Nat.beq m 119 then 9 else 99) else (bif Nat.beq m 120 then 9 else 99))))) else (bif Nat.blt m 126 then (bif Nat.blt m 123 then (bif Nat.blt m 122 then (bif Nat.beq m 121 then 9 else 99) else (bif Nat.beq m 122 then 3 else 99)) else (bif Nat.blt m 124 then (bif Nat.beq m 123 then 3 else 99) else (bif Nat.blt m 125 then (bif Nat.beq m 124 then 3 else 99) else (bif Nat.beq m 125 then 3 else 99)))) else (bif Nat.blt m 129 then (bif Nat.blt m 127 then (bif Nat.beq m 126 then 3 else 99) else (bif Nat.blt m 128 then (bif Nat.beq m 127 then 3 else 99) else (bif Nat.beq m 128 then 3 else 99))) else (bif Nat.blt m 130 then (bif Nat.beq m 129 then 3 else 99) else (bif Nat.blt m 131 then (bif Nat.beq m 130 then 3 else 99) else (bif Nat.beq m 131 then 3 else 99))))))) else (bif Nat.blt m 154 then (bif Nat.blt m 143 then (bif Nat.blt m 137 then (bif Nat.blt m 134 then (bif Nat.blt m 133 then (bif Nat.beq m 132 then 4 else 99) else (bif Nat.beq m 133 then 4 else 99)) else (bif Nat.blt m 135 then (bif Nat.beq m 134 then 4 else 99) else (bif Nat.blt m 136 then (bif Nat.beq m 135 then 4 else 99) else (bif Nat.beq m 136 then 4 else 99)))) else (bif Nat.blt m 140 then (bif Nat.blt m 138 then (bif Nat.beq m 137 then 4 else 99) else (bif Nat.blt m 139 then (bif Nat.beq m 138 then 4 else 99) else (bif Nat.beq m 139 then 5 else 99))) else (bif Nat.blt m 141 then (bif Nat.beq m 140 then 5 else 99) else (bif Nat.blt m 142 then (bif Nat.beq m 141 then 5 else 99) else (bif Nat.beq m 142 then 5 else 99))))) else (bif Nat.blt m 148 then (bif Nat.blt m 145 then (bif Nat.blt m 144 then (bif Nat.beq m 143 then 5 else 99) else (bif Nat.beq m 144 then 5 else 99)) else (bif Nat.blt m 146 then (bif Nat.beq m 145 then 5 else 99) else (bif Nat.blt m 147 then (bif Nat.beq m 146 then 5 else 99) else (bif Nat.beq m 147 then 5 else 99)))) else (bif Nat.blt m 151 then (bif Nat.blt m 149 then (bif Nat.beq m 148 then 5 else 99) else (bif Nat.blt m 150 then (bif Nat.beq m 149 then 5 else 99) else (bif Nat.beq m 150 then 5 else 99))) else (bif Nat.blt m 152 then (bif Nat.beq m 151 then 5 else 99) else (bif Nat.blt m 153 then (bif Nat.beq m 152 then 5 else 99) else (bif Nat.beq m 153 then 1 else 99)))))) else (bif Nat.blt m 165 then (bif Nat.blt m 159 then (bif Nat.blt m 156 then (bif Nat.blt m 155 then (bif Nat.beq m 154 then 1 else 99) else (bif Nat.beq m 155 then 1 else 99)) else (bif Nat.blt m 157 then (bif Nat.beq m 156 then 1 else 99) else (bif Nat.blt m 158 then (bif Nat.beq m 157 then 10 else 99) else (bif Nat.beq m 158 then 10 else 99)))) else (bif Nat.blt m 162 then (bif Nat.blt m 160 then (bif Nat.beq m 159 then 10 else 99) else (bif Nat.blt m 161 then (bif Nat.beq m 160 then 12 else 99) else (bif Nat.beq m 161 then 12 else 99))) else (bif Nat.blt m 163 then (bif Nat.beq m 162 then 12 else 99) else (bif Nat.blt m 164 then (bif Nat.beq m 163 then 12 else 99) else (bif Nat.beq m 164 then 12 else 99))))) else (bif Nat.blt m 170 then (bif Nat.blt m 167 then (bif Nat.blt m 166 then (bif Nat.beq m 165 then 12 else 99) else (bif Nat.beq m 166 then 12 else 99)) else (bif Nat.blt m 168 then (bif Nat.beq m 167 then 12 else 99) else (bif Nat.blt m 169 then (bif Nat.beq m 168 then 12 else 99) else (bif Nat.beq m 169 then 12 else 99)))) else (bif Nat.blt m 173 then (bif Nat.blt m 171 then (bif Nat.beq m 170 then 12 else 99) else (bif Nat.blt m 172 then (bif Nat.beq m 171 then 12 else 99) else (bif Nat.beq m 172 then 12 else 99))) else (bif Nat.blt m 174 then (bif Nat.beq m 173 then 12 else 99) else (bif Nat.blt m 175 then (bif Nat.beq m 174 then 12 else 99) else (bif Nat.beq m 175 then 12 else 99))))))))
def q_rt (m : Nat) : Nat := bif Nat.blt m 88 then (bif Nat.blt m 44 then (bif Nat.blt m 22 then (bif Nat.blt m 11 then (bif Nat.blt m 5 then (bif Nat.blt m 2 then (bif Nat.blt m 1 then (bif Nat.beq m 0 then 1 else 9) else (bif Nat.beq m 1 then 1 else 9)) else (bif Nat.blt m 3 then (bif Nat.beq m 2 then 1 else 9) else (bif Nat.blt m 4 then (bif Nat.beq m 3 then 1 else 9) else (bif Nat.beq m 4 then 0 else 9)))) else (bif Nat.blt m 8 then (bif Nat.blt m 6 then (bif Nat.beq m 5 then 1 else 9) else (bif Nat.blt m 7 then (bif Nat.beq m 6 then 1 else 9) else (bif Nat.beq m 7 then 1 else 9))) else (bif Nat.blt m 9 then (bif Nat.beq m 8 then 1 else 9) else (bif Nat.blt m 10 then (bif Nat.beq m 9 then 1 else 9) else (bif Nat.beq m 10 then 1 else 9))))) else (bif Nat.blt m 16 then (bif Nat.blt m 13 then (bif Nat.blt m 12 then (bif Nat.beq m 11 then 1 else 9) else (bif Nat.beq m 12 then 1 else 9)) else (bif Nat.blt m 14 then (bif Nat.beq m 13 then 0 else 9) else (bif Nat.blt m 15 then (bif Nat.beq m 14 then 1 else 9) else (bif Nat.beq m 15 then 1 else 9)))) else (bif Nat.blt m 19 then (bif Nat.blt m 17 then (bif Nat.beq m 16 then 1 else 9) else (bif Nat.blt m 18 then (bif Nat.beq m 17 then 1 else 9) else (bif Nat.beq m 18 then 1 else 9))) else (bif Nat.blt m 20 then (bif Nat.beq m 19 then 1 else 9) else (bif Nat.blt m 21 then (bif Nat.beq m 20 then 0 else 9) else (bif Nat.beq m 21 then 0 else 9)))))) else (bif Nat.blt m 33 then (bif Nat.blt m 27 then (bif Nat.blt m 24 then (bif Nat.blt m 23 then (bif Nat.beq m 22 then 0 else 9) else (bif Nat.beq m 23 then 0 else 9)) else (bif Nat.blt m 25 then (bif Nat.beq m 24 then 1 else 9) else (bif Nat.blt m 26 then (bif Nat.beq m 25 then 1 else 9) else (bif Nat.beq m 26 then 1 else 9)))) else (bif Nat.blt m 30 then (bif Nat.blt m 28 then (bif Nat.beq m 27 then 1 else 9) else (bif Nat.blt m 29 then (bif Nat.beq m 28 then 1 else 9) else (bif Nat.beq m 29 then 1 else 9))) else (bif Nat.blt m 31 then (bif Nat.beq m 30 then 1 else 9) else (bif Nat.blt m 32 then (bif Nat.beq m 31 then 1 else 9) else (bif Nat.beq m 32 then 1 else 9))))) else (bif Nat.blt m 38 then (bif Nat.blt m 35 then (bif Nat.blt m 34 then (bif Nat.beq m 33 then 1 else 9) else (bif Nat.beq m 34 then 1 else 9)) else (bif Nat.blt m 36 then (bif Nat.beq m 35 then 1 else 9) else (bif Nat.blt m 37 then (bif Nat.beq m 36 then 0 else 9) else (bif Nat.beq m 37 then 0 else 9)))) else (bif Nat.blt m 41 then (bif Nat.blt m 39 then (bif Nat.beq m 38 then 1 else 9) else (bif Nat.blt m 40 then (bif Nat.beq m 39 then 1 else 9) else (bif Nat.beq m 40 then 1 else 9))) else (bif Nat.blt m 42 then (bif Nat.beq m 41 then 1 else 9) else (bif Nat.blt m 43 then (bif Nat.beq m 42 then 0 else 9) else (bif Nat.beq m 43 then 1 else 9))))))) else (bif Nat.blt m 66 then (bif Nat.blt m 55 then (bif Nat.blt m 49 then (bif Nat.blt m 46 then (bif Nat.blt m 45 then (bif Nat.beq m 44 then 2 else 9) else (bif Nat.beq m 45 then 2 else 9)) else (bif Nat.blt m 47 then (bif Nat.beq m 46 then 2 else 9) else (bif Nat.blt m 48 then (bif Nat.beq m 47 then 1 else 9) else (bif Nat.beq m 48 then 0 else 9)))) else (bif Nat.blt m 52 then (bif Nat.blt m 50 then (bif Nat.beq m 49 then 2 else 9) else (bif Nat.blt m 51 then (bif Nat.beq m 50 then 2 else 9) else (bif Nat.beq m 51 then 0 else 9))) else (bif Nat.blt m 53 then (bif Nat.beq m 52 then 1 else 9) else (bif Nat.blt m 54 then (bif Nat.beq m 53 then 1 else 9) else (bif Nat.beq m 54 then 1 else 9))))) else (bif Nat.blt m 60 then (bif Nat.blt m 57 then (bif Nat.blt m 56 then (bif Nat.beq m 55 then 1 else 9) else (bif Nat.beq m 56 then 1 else 9)) else (bif Nat.blt m 58 then (bif Nat.beq m 57 then 1 else 9) else (bif Nat.blt m 59 then (bif Nat.beq m 58 then 2 else 9) else (bif Nat.beq m 59 then 1 else 9)))) else (bif Nat.blt m 63 then (bif Nat.blt m 61 then (bif Nat.beq m 60 then 1 else 9) else (bif Nat.blt m 62 then (bif Nat.beq m 61 then 0 else 9) else (bif Nat.beq m 62 then 1 else 9))) else (bif Nat.blt m 64 then (bif Nat.beq m 63 then 2 else 9) else (bif Nat.blt m 65 then (bif Nat.beq m 64 then 2 else 9) else (bif Nat.beq m 65 then 1 else 9)))))) else (bif Nat.blt m 77 then (bif Nat.blt m 71 then (bif Nat.blt m 68 then (bif Nat.blt m 67 then (bif Nat.beq m 66 then 1 else 9) else (bif Nat.beq m 67 then 1 else 9)) else (bif Nat.blt m 69 then (bif Nat.beq m 68 then 1 else 9) else (bif Nat.blt m 70 then (bif Nat.beq m 69 then 1 else 9) else (bif Nat.beq m 70 then 1 else 9)))) else (bif Nat.blt m 74 then (bif Nat.blt m 72 then (bif Nat.beq m 71 then 1 else 9) else (bif Nat.blt m 73 then (bif Nat.beq m 72 then 0 else 9) else (bif Nat.beq m 73 then 0 else 9))) else (bif Nat.blt m 75 then (bif Nat.beq m 74 then 2 else 9) else (bif Nat.blt m 76 then (bif Nat.beq m 75 then 1 else 9) else (bif Nat.beq m 76 then 1 else 9))))) else (bif Nat.blt m 82 then (bif Nat.blt m 79 then (bif Nat.blt m 78 then (bif Nat.beq m 77 then 1 else 9) else (bif Nat.beq m 78 then 1 else 9)) else (bif Nat.blt m 80 then (bif Nat.beq m 79 then 1 else 9) else (bif Nat.blt m 81 then (bif Nat.beq m 80 then 1 else 9) else (bif Nat.beq m 81 then 0 else 9)))) else (bif Nat.blt m 85 then (bif Nat.blt m 83 then (bif Nat.beq m 82 then 1 else 9) else (bif Nat.blt m 84 then (bif Nat.beq m 83 then 0 else 9) else (bif Nat.beq m 84 then 0 else 9))) else (bif Nat.blt m 86 then (bif Nat.beq m 85 then 0 else 9) else (bif Nat.blt m 87 then (bif Nat.beq m 86 then 2 else 9) else (bif Nat.beq m 87 then 1 else 9)))))))) else (bif Nat.blt m 132 then (bif Nat.blt m 110 then (bif Nat.blt m 99 then (bif Nat.blt m 93 then (bif Nat.blt m 90 then (bif Nat.blt m 89 then (bif Nat.beq m 88 then 1 else 9) else (bif Nat.beq m 89 then 1 else 9)) else (bif Nat.blt m 91 then (bif Nat.beq m 90 then 1 else 9) else (bif Nat.blt m 92 then (bif Nat.beq m 91 then 1 else 9) else (bif Nat.beq m 92 then 1 else 9)))) else (bif Nat.blt m 96 then (bif Nat.blt m 94 then (bif Nat.beq m 93 then 1 else 9) else (bif Nat.blt m 95 then (bif Nat.beq m 94 then 1 else 9) else (bif Nat.beq m 95 then 2 else 9))) else (bif Nat.blt m 97 then (bif Nat.beq m 96 then 1 else 9) else (bif Nat.blt m 98 then (bif Nat.beq m 97 then 2 else 9) else (bif Nat.beq m 98 then 2 else 9))))) else (bif Nat.blt m 104 then (bif Nat.blt m 101 then (bif Nat.blt m 100 then (bif Nat.beq m 99 then 1 else 9) else (bif Nat.beq m 100 then 1 else 9)) else (bif Nat.blt m 102 then (bif Nat.beq m 101 then 0 else 9) else (bif Nat.blt m 103 then (bif Nat.beq m 102 then 2 else 9) else (bif Nat.beq m 103 then 0 else 9)))) else (bif Nat.blt m 107 then (bif Nat.blt m 105 then (bif Nat.beq m 104 then 0 else 9) else (bif Nat.blt m 106 then (bif Nat.beq m 105 then 1 else 9) else (bif Nat.beq m 106 then 2 else 9))) else (bif Nat.blt m 108 then (bif Nat.beq m 107 then 1 else 9) else (bif Nat.blt m 109 then (bif Nat.beq m 108 then 1 else 9) else (bif Nat.beq m 109 then 1 else 9)))))) else (bif Nat.blt m 121 then (bif Nat.blt m 115 then (bif Nat.blt m 112 then (bif Nat.blt m 111 then (bif Nat.beq m 110 then 2 else 9) else (bif Nat.beq m 111 then 1 else 9)) else (bif Nat.blt m 113 then (bif Nat.beq m 112 then 0 else 9) else (bif Nat.blt m 114 then (bif Nat.beq m 113 then 0 else 9) else (bif Nat.beq m 114 then 1 else 9)))) else (bif Nat.blt m 118 then (bif Nat.blt m 116 then (bif Nat.beq m 115 then 1 else 9) else (bif Nat.blt m 117 then (bif Nat.beq m 116 then 2 else 9) else (bif Nat.beq m 117 then 0 else 9))) else (bif Nat.blt m 119 then (bif Nat.beq m 118 then 0 else 9) else (bif Nat.blt m 120 then (bif Nat.beq m 119 then 1 else 9) else (bif Nat.beq m 120 then 2 else 9))))) else (bif Nat.blt m 126 then (bif Nat.blt m 123 then (bif Nat.blt m 122 then (bif Nat.beq m 121 then 0 else 9) else (bif Nat.beq m 122 then 1 else 9)) else (bif Nat.blt m 124 then (bif Nat.beq m 123 then 0 else 9) else (bif Nat.blt m 125 then (bif Nat.beq m 124 then 1 else 9) else (bif Nat.beq m 125 then 1 else 9)))) else (bif Nat.blt m 129 then (bif Nat.blt m 127 then (bif Nat.beq m 126 then 1 else 9) else (bif Nat.blt m 128 then (bif Nat.beq m 127 then 1 else 9) else (bif Nat.beq m 128 then 1 else 9))) else (bif Nat.blt m 130 then (bif Nat.beq m 129 then 1 else 9) else (bif Nat.blt m 131 then (bif Nat.beq m 130 then 1 else 9) else (bif Nat.beq m 131 then 1 else 9))))))) else (bif Nat.blt m 154 then (bif Nat.blt m 143 then (bif Nat.blt m 137 then (bif Nat.blt m 134 then (bif Nat.blt m 133 then (bif Nat.beq m 132 then 0 else 9) else (bif Nat.beq m 133 then 2 else 9)) else (bif Nat.blt m 135 then (bif Nat.beq m 134 then 1 else 9) else (bif Nat.blt m 136 then (bif Nat.beq m 135 then 0 else 9) else (bif Nat.beq m 136 then 1 else 9)))) else (bif Nat.blt m 140 then (bif Nat.blt m 138 then (bif Nat.beq m 137 then 0 else 9) else (bif Nat.blt m 139 then (bif Nat.beq m 138 then 2 else 9) else (bif Nat.beq m 139 then 2 else 9))) else (bif Nat.blt m 141 then (bif Nat.beq m 140 then 2 else 9) else (bif Nat.blt m 142 then (bif Nat.beq m 141 then 2 else 9) else (bif Nat.beq m 142 then 1 else 9))))) else (bif Nat.blt m 148 then (bif Nat.blt m 145 then (bif Nat.blt m 144 then (bif Nat.beq m 143 then 1 else 9) else (bif Nat.beq m 144 then 0 else 9)) else (bif Nat.blt m 146 then (bif Nat.beq m 145 then 2 else 9) else (bif Nat.blt m 147 then (bif Nat.beq m 146 then 2 else 9) else (bif Nat.beq m 147 then 1 else 9)))) else (bif Nat.blt m 151 then (bif Nat.blt m 149 then (bif Nat.beq m 148 then 2 else 9) else (bif Nat.blt m 150 then (bif Nat.beq m 149 then 1 else 9) else (bif Nat.beq m 150 then 0 else 9))) else (bif Nat.blt m 152 then (bif Nat.beq m 151 then 2 else 9) else (bif Nat.blt m 153 then (bif Nat.beq m 152 then 0 else 9) else (bif Nat.beq m 153 then 1 else 9)))))) else (bif Nat.blt m 165 then (bif Nat.blt m 159 then (bif Nat.blt m 156 then (bif Nat.blt m 155 then (bif Nat.beq m 154 then 1 else 9) else (bif Nat.beq m 155 then 2 else 9)) else (bif Nat.blt m 157 then (bif Nat.beq m 156 then 1 else 9) else (bif Nat.blt m 158 then (bif Nat.beq m 157 then 1 else 9) else (bif Nat.beq m 158 then 1 else 9)))) else (bif Nat.blt m 162 then (bif Nat.blt m 160 then (bif Nat.beq m 159 then 1 else 9) else (bif Nat.blt m 161 then (bif Nat.beq m 160 then 1 else 9) else (bif Nat.beq m 161 then 1 else 9))) else (bif Nat.blt m 163 then (bif Nat.beq m 162 then 1 else 9) else (bif Nat.blt m 164 then (bif Nat.beq m 163 then 1 else 9) else (bif Nat.beq m 164 then 1 else 9))))) else (bif Nat.blt m 170 then (bif Nat.blt m 167 then (bif Nat.blt m 166 then (bif Nat.beq m 165 then 1 else 9) else (bif Nat.beq m 166 then 1 else 9)) else (bif Nat.blt m 168 then (bif Nat.beq m 167 then 1 else 9) else (bif Nat.blt m 169 then (bif Nat.beq m 168 then 1 else 9) else (bif Nat.beq m 169 then 1 else 9)))) else (bif Nat.blt m 173 then (bif Nat.blt m 171 then (bif Nat.beq m 170 then 1 else 9) else (bif Nat.blt m 172 then (bif Nat.beq m 171 then 1 else 9) else (bif Nat.beq m 172 then 1 else 9))) else (bif Nat.blt m 174 then (bif Nat.beq m 173 then 1 else 9) else (bif Nat.blt m 175 then (bif Nat.beq m 174 then 1 else 9) else (bif Nat.beq m 175 then 2 else 9))))))))
-- loop heads
def q_hh (m x : Nat) : Bool := bif Nat.blt m 93 then (bif Nat.blt m 53 then (bif Nat.blt m 43 then (bif Nat.blt m 37 then (bif Nat.blt m 35 then (bif Nat.beq m 32 then (bif Nat.blt x 106 then (bif Nat.beq x 13 then true else false) else (bif Nat.beq x 106 then true else false)) else false) else (bif Nat.blt m 36 then (bif Nat.beq m 35 then (bif Nat.blt x 37 then (bif Nat.beq x 12 then true else false) else (bif Nat.beq x 37 then true else false)) else false) else (bif Nat.beq m 36 then (bif Nat.blt x 31 then (bif Nat.blt x 23 then (bif Nat.beq x 2 then true else false) else (bif Nat.beq x 23 then true else false)) else (bif Nat.blt x 44 then (bif Nat.beq x 31 then true else false) else (bif Nat.beq x 44 then true else false))) else false))) else (bif Nat.blt m 39 then (bif Nat.blt m 38 then (bif Nat.beq m 37 then (bif Nat.blt x 45 then (bif Nat.blt x 37 then (bif Nat.beq x 2 then true else false) else (bif Nat.beq x 37 then true else false)) else (bif Nat.blt x 55 then (bif Nat.beq x 45 then true else false) else (bif Nat.beq x 55 then true else false))) else false) else (bif Nat.beq m 38 then (bif Nat.beq x 2 then true else false) else false)) else (bif Nat.blt m 42 then (bif Nat.beq m 39 then (bif Nat.blt x 12 then (bif Nat.beq x 2 then true else false) else (bif Nat.beq x 12 then true else false)) else false) else (bif Nat.beq m 42 then (bif Nat.blt x 10 then (bif Nat.beq x 2 then true else false) else (bif Nat.blt x 67 then (bif Nat.beq x 10 then true else false) else (bif Nat.beq x 67 then true else false))) else false)))) else (bif Nat.blt m 47 then (bif Nat.blt m 45 then (bif Nat.blt m 44 then (bif Nat.beq m 43 then (bif Nat.blt x 18 then (bif Nat.beq x 6 then true else false) else (bif Nat.blt x 87 then (bif Nat.beq x 18 then true else false) else (bif Nat.beq x 87 then true else false))) else false) else (bif Nat.beq m 44 then (bif Nat.blt x 30 then (bif Nat.beq x 5 then true else false) else (bif Nat.beq x 30 then true else false)) else false)) else (bif Nat.blt m 46 then (bif Nat.beq m 45 then (bif Nat.blt x 42 then (bif Nat.beq x 2 then true else false) else (bif Nat.blt x 52 then (bif Nat.beq x 42 then true else false) else (bif Nat.beq x 52 then true else false))) else false) else (bif Nat.beq m 46 then (bif Nat.beq x 5 then true else false) else false))) else (bif Nat.blt m 50 then (bif Nat.blt m 48 then (bif Nat.beq m 47 then (bif Nat.beq x 8 then true else false) else false) else (bif Nat.beq m 48 then (bif Nat.blt x 131 then (bif Nat.blt x 62 then (bif Nat.blt x 53 then (bif Nat.beq x 2 then true else false) else (bif Nat.beq x 53 then true else false)) else (bif Nat.blt x 123 then (bif Nat.beq x 62 then true else false) else (bif Nat.beq x 123 then true else false))) else (bif Nat.blt x 190 then (bif Nat.blt x 182 then (bif Nat.beq x 131 then true else false) else (bif Nat.beq x 182 then true else false)) else (bif Nat.blt x 200 then (bif Nat.beq x 190 then true else false) else (bif Nat.beq x 200 then true else false)))) else false)) else (bif Nat.blt m 51 then (bif Nat.beq m 50 then (bif Nat.beq x 133 then true else false) else false) else (bif Nat.beq m 51 then (bif Nat.blt x 41 then (bif Nat.blt x 33 then (bif Nat.beq x 2 then true else false) else (bif Nat.beq x 33 then true else false)) else (bif Nat.blt x 51 then (bif Nat.beq x 41 then true else false) else (bif Nat.beq x 51 then true else false))) else false))))) else (bif Nat.blt m 75 then (bif Nat.blt m 59 then (bif Nat.blt m 55 then (bif Nat.beq m 53 then (bif Nat.beq x 6 then true else false) else false) else (bif Nat.blt m 56 then (bif Nat.beq m 55 then (bif Nat.beq x 8 then true else false) else false) else (bif Nat.beq m 56 then (bif Nat.beq x 4 then true else false) else false))) else (bif Nat.blt m 67 then (bif Nat.blt m 60 then (bif Nat.beq m 59 then (bif Nat.blt x 11 then (bif Nat.beq x 2 then true else false) else (bif Nat.beq x 11 then true else false)) else false) else (bif Nat.beq m 60 then (bif Nat.beq x 4 then true else false) else false)) else (bif Nat.blt m 73 then (bif Nat.beq m 67 then (bif Nat.beq x 42 then true else false) else false) else (bif Nat.beq m 73 then (bif Nat.beq x 37 then true else false) else false)))) else (bif Nat.blt m 84 then (bif Nat.blt m 81 then (bif Nat.blt m 78 then (bif Nat.beq m 75 then (bif Nat.beq x 50 then true else false) else false) else (bif Nat.beq m 78 then (bif Nat.beq x 20 then true else false) else false)) else (bif Nat.blt m 83 then (bif Nat.beq m 81 then (bif Nat.blt x 52 then (bif Nat.beq x 35 then true else false) else (bif Nat.beq x 52 then true else false)) else false) else (bif Nat.beq m 83 then (bif Nat.blt x 15 then (bif Nat.beq x 2 then true else false) else (bif Nat.beq x 15 then true else false)) else false))) else (bif Nat.blt m 90 then (bif Nat.blt m 88 then (bif Nat.beq m 84 then (bif Nat.beq x 84 then true else false) else false) else (bif Nat.beq m 88 then (bif Nat.beq x 12 then true else false) else false)) else (bif Nat.blt m 92 then (bif Nat.beq m 90 then (bif Nat.beq x 2 then true else false) else false) else (bif Nat.beq m 92 then (bif Nat.beq x 4 then true else false) else false)))))) else (bif Nat.blt m 136 then (bif Nat.blt m 109 then (bif Nat.blt m 97 then (bif Nat.blt m 94 then (bif Nat.beq m 93 then (bif Nat.blt x 17 then (bif Nat.beq x 4 then true else false) else (bif Nat.beq x 17 then true else false)) else false) else (bif Nat.blt m 96 then (bif Nat.beq m 94 then (bif Nat.blt x 18 then (bif Nat.beq x 4 then true else false) else (bif Nat.beq x 18 then true else false)) else false) else (bif Nat.beq m 96 then (bif Nat.beq x 3 then true else false) else false))) else (bif Nat.blt m 99 then (bif Nat.blt m 98 then (bif Nat.beq m 97 then (bif Nat.beq x 2 then true else false) else false) else (bif Nat.beq m 98 then (bif Nat.beq x 9 then true else false) else false)) else (bif Nat.blt m 108 then (bif Nat.beq m 99 then (bif Nat.beq x 4 then true else false) else false) else (bif Nat.beq m 108 then (bif Nat.blt x 24 then (bif Nat.beq x 7 then true else false) else (bif Nat.beq x 24 then true else false)) else false)))) else (bif Nat.blt m 130 then (bif Nat.blt m 115 then (bif Nat.blt m 111 then (bif Nat.beq m 109 then (bif Nat.blt x 27 then (bif Nat.beq x 11 then true else false) else (bif Nat.beq x 27 then true else false)) else false) else (bif Nat.beq m 111 then (bif Nat.beq x 4 then true else false) else false)) else (bif Nat.blt m 124 then (bif Nat.beq m 115 then (bif Nat.beq x 4 then true else false) else false) else (bif Nat.beq m 124 then (bif Nat.beq x 2 then true else false) else false))) else (bif Nat.blt m 134 then (bif Nat.blt m 131 then (bif Nat.beq m 130 then (bif Nat.beq x 2 then true else false) else false) else (bif Nat.beq m 131 then (bif Nat.beq x 2 then true else false) else false)) else (bif Nat.blt m 135 then (bif Nat.beq m 134 then (bif Nat.beq x 15 then true else false) else false) else (bif Nat.beq m 135 then (bif Nat.blt x 107 then (bif Nat.blt x 26 then (bif Nat.beq x 12 then true else false) else (bif Nat.beq x 26 then true else false)) else (bif Nat.blt x 120 then (bif Nat.beq x 107 then true else false) else (bif Nat.beq x 120 then true else false))) else false))))) else (bif Nat.blt m 147 then (bif Nat.blt m 139 then (bif Nat.blt m 137 then (bif Nat.beq m 136 then (bif Nat.beq x 5 then true else false) else false) else (bif Nat.blt m 138 then (bif Nat.beq m 137 then (bif Nat.blt x 41 then (bif Nat.beq x 27 then true else false) else (bif Nat.beq x 41 then true else false)) else false) else (bif Nat.beq m 138 then (bif Nat.beq x 4 then true else false) else false))) else (bif Nat.blt m 144 then (bif Nat.blt m 143 then (bif Nat.beq m 139 then (bif Nat.blt x 47 then (bif Nat.beq x 31 then true else false) else (bif Nat.beq x 47 then true else false)) else false) else (bif Nat.beq m 143 then (bif Nat.blt x 20 then (bif Nat.beq x 5 then true else false) else (bif Nat.beq x 20 then true else false)) else false)) else (bif Nat.blt m 146 then (bif Nat.beq m 144 then (bif Nat.blt x 23 then (bif Nat.beq x 10 then true else false) else (bif Nat.beq x 23 then true else false)) else false) else (bif Nat.beq m 146 then (bif Nat.beq x 5 then true else false) else false)))) else (bif Nat.blt m 152 then (bif Nat.blt m 150 then (bif Nat.blt m 148 then (bif Nat.beq m 147 then (bif Nat.beq x 2 then true else false) else false) else (bif Nat.beq m 148 then (bif Nat.beq x 2 then true else false) else false)) else (bif Nat.blt m 151 then (bif Nat.beq m 150 then (bif Nat.blt x 22 then (bif Nat.beq x 6 then true else false) else (bif Nat.beq x 22 then true else false)) else false) else (bif Nat.beq m 151 then (bif Nat.beq x 2 then true else false) else false))) else (bif Nat.blt m 155 then (bif Nat.blt m 153 then (bif Nat.beq m 152 then (bif Nat.beq x 20 then true else false) else false) else (bif Nat.beq m 153 then (bif Nat.beq x 12 then true else false) else false)) else (bif Nat.blt m 175 then (bif Nat.beq m 155 then (bif Nat.beq x 5 then true else false) else false) else (bif Nat.beq m 175 then (bif Nat.beq x 23 then true else false) else false))))))
def q_fls (m x : Nat) : Option (Nat × Nat × Int) := bif Nat.blt m 6 then (bif Nat.blt m 3 then (bif Nat.blt m 1 then (bif Nat.beq m 0 then (bif Nat.blt x 145 then (bif Nat.blt x 69 then (bif Nat.blt x 37 then (bif Nat.blt x 19 then (bif Nat.beq x 12 then some (0, 0, 0) else none) else (bif Nat.blt x 28 then (bif Nat.beq x 19 then some (0, 1, 1) else none) else (bif Nat.beq x 28 then some (0, 2, 2) else none))) else (bif Nat.blt x 53 then (bif Nat.blt x 44 then (bif Nat.beq x 37 then some (0, 3, 3) else none) else (bif Nat.beq x 44 then some (0, 4, 4) else none)) else (bif Nat.blt x 60 then (bif Nat.beq x 53 then some (0, 5, 5) else none) else (bif Nat.beq x 60 then some (0, 6, 6) else none)))) else (bif Nat.blt x 119 then (bif Nat.blt x 82 then (bif Nat.blt x 78 then (bif Nat.beq x 69 then some (0, 7, 7) else none) else (bif Nat.beq x 78 then some (0, 8, 8) else none)) else (bif Nat.blt x 108 then (bif Nat.beq x 82 then some (0, 9, 9) else none) else (bif Nat.beq x 108 then some (3, 0, 0) else none))) else (bif Nat.blt x 129 then (bif Nat.blt x 123 then (bif Nat.beq x 119 then some (7, 0, 0) else none) else (bif Nat.beq x 123 then some (7, 1, 1) else none)) else (bif Nat.blt x 132 then (bif Nat.beq x 129 then some (2, 4, 4) else none) else (bif Nat.beq x 132 then some (5, 0, 0) else none))))) else (bif Nat.blt x 222 then (bif Nat.blt x 204 then (bif Nat.blt x 172 then (bif Nat.blt x 159 then (bif Nat.beq x 145 then some (2, 1, 1) else none) else (bif Nat.beq x 159 then some (2, 0, 0) else none)) else (bif Nat.blt x 175 then (bif Nat.beq x 172 then some (4, 0, 0) else none) else (bif Nat.beq x 175 then some (4, 1, 1) else none))) else (bif Nat.blt x 216 then (bif Nat.blt x 207 then (bif Nat.beq x 204 then some (9, 0, 0) else none) else (bif Nat.beq x 207 then some (9, 1, 1) else none)) else (bif Nat.blt x 219 then (bif Nat.beq x 216 then some (9, 2, 2) else none) else (bif Nat.beq x 219 then some (9, 3, 3) else none)))) else (bif Nat.blt x 244 then (bif Nat.blt x 229 then (bif Nat.blt x 226 then (bif Nat.beq x 222 then some (9, 4, 4) else none) else (bif Nat.beq x 226 then some (10, 5, 5) else none)) else (bif Nat.blt x 241 then (bif Nat.beq x 229 then some (9, 5, 5) else none) else (bif Nat.beq x 241 then some (10, 0, 0) else none))) else (bif Nat.blt x 252 then (bif Nat.blt x 250 then (bif Nat.beq x 244 then some (10, 1, 1) else none) else (bif Nat.beq x 250 then some (10, 2, 2) else none)) else (bif Nat.blt x 255 then (bif Nat.beq x 252 then some (10, 3, 3) else none) else (bif Nat.beq x 255 then some (10, 4, 4) else none)))))) else none) else (bif Nat.blt m 2 then (bif Nat.beq m 1 then (bif Nat.blt x 15 then (bif Nat.beq x 9 then some (1, 0, 0) else none) else (bif Nat.beq x 15 then some (1, 1, 1) else none)) else none) else (bif Nat.beq m 2 then (bif Nat.blt x 21 then (bif Nat.blt x 15 then (bif Nat.beq x 9 then some (2, 0, 0) else none) else (bif Nat.blt x 18 then (bif Nat.beq x 15 then some (2, 1, 1) else none) else (bif Nat.beq x 18 then some (2, 2, 2) else none))) else (bif Nat.blt x 24 then (bif Nat.beq x 21 then some (2, 3, 3) else none) else (bif Nat.blt x 28 then (bif Nat.beq x 24 then some (2, 4, 4) else none) else (bif Nat.beq x 28 then some (2, 5, 5) else none)))) else none))) else (bif Nat.blt m 4 then (bif Nat.beq m 3 then (bif Nat.blt x 32 then (bif Nat.blt x 22 then (bif Nat.blt x 15 then (bif Nat.beq x 9 then some (3, 0, 0) else none) else (bif Nat.blt x 19 then (bif Nat.beq x 15 then some (3, 3, 3) else none) else (bif Nat.beq x 19 then some (3, 4, 4) else none))) else (bif Nat.blt x 25 then (bif Nat.beq x 22 then some (3, 5, 5) else none) else (bif Nat.blt x 28 then (bif Nat.beq x 25 then some (3, 6, 6) else none) else (bif Nat.beq x 28 then some (3, 1, 1) else none)))) else (bif Nat.blt x 80 then (bif Nat.blt x 67 then (bif Nat.beq x 32 then some (3, 2, 2) else none) else (bif Nat.blt x 72 then (bif Nat.beq x 67 then some (1, 1, 1) else none) else (bif Nat.beq x 72 then some (1, 0, 0) else none))) else (bif Nat.blt x 118 then (bif Nat.beq x 80 then some (2, 4, 4) else none) else (bif Nat.blt x 120 then (bif Nat.beq x 118 then some (2, 1, 1) else none) else (bif Nat.beq x 120 then some (2, 0, 0) else none))))) else none) else (bif Nat.blt m 5 then (bif Nat.beq m 4 then (bif Nat.blt x 25 then (bif Nat.blt x 18 then (bif Nat.blt x 15 then (bif Nat.beq x 9 then some (4, 0, 0) else none) else (bif Nat.beq x 15 then some (4, 1, 1) else none)) else (bif Nat.blt x 21 then (bif Nat.beq x 18 then some (4, 3, 3) else none) else (bif Nat.beq x 21 then some (4, 4, 4) else none))) else (bif Nat.blt x 59 then (bif Nat.blt x 41 then (bif Nat.beq x 25 then some (4, 2, 2) else none) else (bif Nat.beq x 41 then some (2, 1, 1) else none)) else (bif Nat.blt x 62 then (bif Nat.beq x 59 then some (2, 4, 4) else none) else (bif Nat.beq x 62 then some (2, 0, 0) else none)))) else none) else (bif Nat.beq m 5 then (bif Nat.blt x 28 then (bif Nat.blt x 19 then (bif Nat.blt x 15 then (bif Nat.beq x 9 then some (5, 0, 0) else none) else (bif Nat.beq x 15 then some (5, 2, 2) else none)) else (bif Nat.blt x 22 then (bif Nat.beq x 19 then some (5, 3, 3) else none) else (bif Nat.blt x 25 then (bif Nat.beq x 22 then some (5, 4, 4) else none) else (bif Nat.beq x 25 then some (5, 5, 5) else none)))) else (bif Nat.blt x 54 then (bif Nat.blt x 49 then (bif Nat.beq x 28 then some (5, 1, 1) else none) else (bif Nat.beq x 49 then some (2, 1, 1) else none)) else (bif Nat.blt x 91 then (bif Nat.beq x 54 then some (2, 4, 4) else none) else (bif Nat.blt x 94 then (bif Nat.beq x 91 then some (2, 3, 3) else none) else (bif Nat.beq x 94 then some (2, 2, 2) else none))))) else none)))) else (bif Nat.blt m 9 then (bif Nat.blt m 7 then (bif Nat.beq m 6 then (bif Nat.blt x 37 then (bif Nat.blt x 19 then (bif Nat.blt x 15 then (bif Nat.beq x 9 then some (6, 3, 3) else none) else (bif Nat.beq x 15 then some (6, 4, 4) else none)) else (bif Nat.blt x 23 then (bif Nat.beq x 19 then some (6, 0, 0) else none) else (bif Nat.blt x 27 then (bif Nat.beq x 23 then some (6, 1, 1) else none) else (bif Nat.beq x 27 then some (6, 2, 2) else none)))) else (bif Nat.blt x 59 then (bif Nat.blt x 54 then (bif Nat.beq x 37 then some (5, 0, 0) else none) else (bif Nat.beq x 54 then some (2, 4, 4) else none)) else (bif Nat.blt x 86 then (bif Nat.beq x 59 then some (2, 1, 1) else none) else (bif Nat.blt x 89 then (bif Nat.beq x 86 then some (2, 2, 2) else none) else (bif Nat.beq x 89 then some (2, 3, 3) else none))))) else none) else (bif Nat.blt m 8 then (bif Nat.beq m 7 then (bif Nat.blt x 18 then (bif Nat.blt x 15 then (bif Nat.beq x 9 then some (7, 0, 0) else none) else (bif Nat.beq x 15 then some (7, 1, 1) else none)) else (bif Nat.blt x 30 then (bif Nat.beq x 18 then some (7, 2, 2) else none) else (bif Nat.beq x 30 then some (2, 1, 1) else none))) else none) else (bif Nat.beq m 8 then (bif Nat.blt x 37 then (bif Nat.blt x 19 then (bif Nat.blt x 15 then (bif Nat.beq x 9 then some (8, 0, 0) else none) else (bif Nat.beq x 15 then some (8, 1, 1) else none)) else (bif Nat.blt x 23 then (bif Nat.beq x 19 then some (8, 2, 2) else none) else (bif Nat.blt x 27 then (bif Nat.beq x 23 then some (8, 3, 3) else none) else (bif Nat.beq x 27 then some (8, 4, 4) else none)))) else (bif Nat.blt x 48 then (bif Nat.blt x 43 then (bif Nat.beq x 37 then some (4, 1, 1) else none) else (bif Nat.beq x 43 then some (2, 0, 0) else none)) else (bif Nat.blt x 76 then (bif Nat.beq x 48 then some (2, 1, 1) else none) else (bif Nat.blt x 86 then (bif Nat.beq x 76 then some (5, 0, 0) else none) else (bif Nat.beq x 86 then some (2, 4, 4) else none))))) else none))) else (bif Nat.blt m 10 then (bif Nat.beq m 9 then (bif Nat.blt x 35 then (bif Nat.blt x 22 then (bif Nat.blt x 15 then (bif Nat.beq x 9 then some (9, 0, 0) else none) else (bif Nat.blt x 19 then (bif Nat.beq x 15 then some (9, 1, 1) else none) else (bif Nat.beq x 19 then some (9, 2, 2) else none))) else (bif Nat.blt x 29 then (bif Nat.blt x 25 then (bif Nat.beq x 22 then some (9, 3, 3) else none) else (bif Nat.beq x 25 then some (9, 5, 5) else none)) else (bif Nat.blt x 32 then (bif Nat.beq x 29 then some (9, 6, 6) else none) else (bif Nat.beq x 32 then some (9, 10, 10) else none)))) else (bif Nat.blt x 55 then (bif Nat.blt x 42 then (bif Nat.blt x 38 then (bif Nat.beq x 35 then some (9, 11, 11) else none) else (bif Nat.beq x 38 then some (9, 7, 7) else none)) else (bif Nat.blt x 46 then (bif Nat.beq x 42 then some (9, 8, 8) else none) else (bif Nat.beq x 46 then some (9, 9, 9) else none))) else (bif Nat.blt x 94 then (bif Nat.blt x 59 then (bif Nat.beq x 55 then some (9, 4, 4) else none) else (bif Nat.beq x 59 then some (10, 5, 5) else none)) else (bif Nat.blt x 99 then (bif Nat.beq x 94 then some (2, 1, 1) else none) else (bif Nat.beq x 99 then some (2, 0, 0) else none))))) else none) else (bif Nat.blt m 11 then (bif Nat.beq m 10 then (bif Nat.blt x 24 then (bif Nat.blt x 18 then (bif Nat.blt x 15 then (bif Nat.beq x 9 then some (10, 0, 0) else none) else (bif Nat.beq x 15 then some (10, 1, 1) else none)) else (bif Nat.blt x 21 then (bif Nat.beq x 18 then some (10, 2, 2) else none) else (bif Nat.beq x 21 then some (10, 3, 3) else none))) else (bif Nat.blt x 31 then (bif Nat.blt x 27 then (bif Nat.beq x 24 then some (10, 4, 4) else none) else (bif Nat.beq x 27 then some (10, 5, 5) else none)) else (bif Nat.blt x 35 then (bif Nat.beq x 31 then some (10, 6, 6) else none) else (bif Nat.blt x 40 then (bif Nat.beq x 35 then some (2, 1, 1) else none) else (bif Nat.beq x 40 then some (2, 0, 0) else none))))) else none) else (bif Nat.beq m 11 then (bif Nat.blt x 69 then (bif Nat.blt x 39 then (bif Nat.blt x 23 then (bif Nat.blt x 17 then (bif Nat.blt x 13 then (bif Nat.beq x 7 then some (11, 1, 1) else none) else (bif Nat.beq x 13 then some (11, 3, 3) else none)) else (bif Nat.blt x 20 then (bif Nat.beq x 17 then some (11, 6, 6) else none) else (bif Nat.beq x 20 then some (11, 7, 7) else none))) else (bif Nat.blt x 29 then (bif Nat.blt x 26 then (bif Nat.beq x 23 then some (11, 8, 8) else none) else (bif Nat.beq x 26 then some (11, 9, 9) else none)) else (bif Nat.blt x 32 then (bif Nat.beq x 29 then some (11, 11, 11) else none) else (bif Nat.blt x 35 then (bif Nat.beq x 32 then some (11, 12, 12) else none) else (bif Nat.beq x 35 then some (11, 13, 13) else none))))) else (bif Nat.blt x 54 then (bif Nat.blt x 45 then (bif Nat.blt x 42 then (bif Nat.beq x 39 then some (11, 14, 14) else none) else (bif Nat.beq x 42 then some (11, 15, 15) else none)) else (bif Nat.blt x 48 then (bif Nat.beq x 45 then some (11, 16, 16) else none) else (bif Nat.blt x 51 then (bif Nat.beq x 48 then some (11, 18, 18) else none) else (bif Nat.beq x 51 then some (11, 19, 19) else none)))) else (bif Nat.blt x 60 then (bif Nat.blt x 57 then (bif Nat.beq x 54 then some (11, 20, 20) else none) else (bif Nat.beq x 57 then some (11, 21, 21) else none)) else (bif Nat.blt x 63 then (bif Nat.beq x 60 then some (11, 22, 22) else none) else (bif Nat.blt x 66 then (bif Nat.beq x 63 then some (11, 23, 23) else none) else (bif Nat.beq x 66 then some (11, 31, 31) else none)))))) else (bif Nat.blt x 101 then (bif Nat.blt x 84 then (bif Nat.blt x 75 then (bif Nat.blt x 72 then (bif Nat.beq x 69 then some (11, 32, 32) else none) else (bif Nat.beq x 72 then some (11, 33, 33) else none)) else (bif Nat.blt x 78 then (bif Nat.beq x 75 then some (11, 34, 34) else none) else (bif Nat.blt x 81 then (bif Nat.beq x 78 then some (11, 35, 35) else none) else (bif Nat.beq x 81 then some (11, 36, 36) else none)))) else (bif Nat.blt x 90 then (bif Nat.blt x 87 then (bif Nat.beq x 84 then some (11, 37, 37) else none) else (bif Nat.beq x 87 then some (11, 38, 38) else none)) else (bif Nat.blt x 95 then (bif Nat.beq x 90 then some (11, 0, 0) else none) else (bif Nat.blt x 98 then (bif Nat.beq x 95 then some (11, 2, 2) else none) else (bif Nat.beq x 98 then some (11, 5, 5) else none))))) else (bif Nat.blt x 215 then (bif Nat.blt x 126 then (bif Nat.blt x 122 then (bif Nat.beq x 101 then some (11, 10, 10) else none) else (bif Nat.beq x 122 then some (11, 24, 24) else none)) else (bif Nat.blt x 148 then (bif Nat.beq x 126 then some (11, 4, 4) else none) else (bif Nat.blt x 212 then (bif Nat.beq x 148 then some (11, 17, 17) else none) else (bif Nat.beq x 212 then some (11, 25, 25) else none)))) else (bif Nat.blt x 221 then (bif Nat.blt x 218 then (bif Nat.beq x 215 then some (11, 26, 26) else none) else (bif Nat.beq x 218 then some (11, 27, 27) else none)) else (bif Nat.blt x 224 then (bif Nat.beq x 221 then some (11, 28, 28) else none) else (bif Nat.blt x 227 then (bif Nat.beq x 224 then some (11, 29, 29) else none) else (bif Nat.beq x 227 then some (11, 30, 30) else none))))))) else none))))
def q_ivs (m x : Nat) : Option (Nat × Nat) := bif Nat.blt m 6 then (bif Nat.blt m 3 then (bif Nat.blt m 1 then (bif Nat.beq m 0 then (bif Nat.blt x 162 then (bif Nat.blt x 118 then (bif Nat.blt x 100 then (bif Nat.blt x 94 then (bif Nat.blt x 90 then (bif Nat.beq x 86 then some (153, 2) else none) else (bif Nat.beq x 90 then some (154, 1) else none)) else (bif Nat.blt x 97 then (bif Nat.beq x 94 then some (112, 1) else none) else (bif Nat.beq x 97 then some (122, 1) else none))) else (bif Nat.blt x 107 then (bif Nat.blt x 104 then (bif Nat.beq x 100 then some (139, 1) else none) else (bif Nat.beq x 104 then some (132, 1) else none)) else (bif Nat.blt x 112 then (bif Nat.beq x 107 then some (81, 1) else none) else (bif Nat.beq x 112 then some (26, 1) else none)))) else (bif Nat.blt x 141 then (bif Nat.blt x 135 then (bif Nat.blt x 126 then (bif Nat.beq x 118 then some (2000, 1) else none) else (bif Nat.beq x 126 then some (20, 1) else none)) else (bif Nat.blt x 138 then (bif Nat.beq x 135 then some (90, 1) else none) else (bif Nat.beq x 138 then some (93, 1) else none))) else (bif Nat.blt x 151 then (bif Nat.blt x 150 then (bif Nat.beq x 141 then some (22, 2) else none) else (bif Nat.beq x 150 then some (2002, 1) else none)) else (bif Nat.blt x 155 then (bif Nat.beq x 151 then some (105, 3) else none) else (bif Nat.beq x 155 then some (27, 1) else none))))) else (bif Nat.blt x 194 then (bif Nat.blt x 181 then (bif Nat.blt x 169 then (bif Nat.blt x 165 then (bif Nat.beq x 162 then some (25, 1) else none) else (bif Nat.beq x 165 then some (106, 2) else none)) else (bif Nat.blt x 178 then (bif Nat.beq x 169 then some (133, 2) else none) else (bif Nat.beq x 178 then some (21, 2) else none))) else (bif Nat.blt x 187 then (bif Nat.blt x 184 then (bif Nat.beq x 181 then some (143, 3) else none) else (bif Nat.beq x 184 then some (142, 3) else none)) else (bif Nat.blt x 191 then (bif Nat.beq x 187 then some (89, 4) else none) else (bif Nat.beq x 191 then some (24, 1) else none)))) else (bif Nat.blt x 213 then (bif Nat.blt x 200 then (bif Nat.blt x 197 then (bif Nat.beq x 194 then some (91, 3) else none) else (bif Nat.beq x 197 then some (94, 2) else none)) else (bif Nat.blt x 212 then (bif Nat.beq x 200 then some (113, 3) else none) else (bif Nat.beq x 212 then some (2001, 1) else none))) else (bif Nat.blt x 235 then (bif Nat.blt x 232 then (bif Nat.beq x 213 then some (115, 2) else none) else (bif Nat.beq x 232 then some (114, 1) else none)) else (bif Nat.blt x 238 then (bif Nat.beq x 235 then some (92, 2) else none) else (bif Nat.blt x 247 then (bif Nat.beq x 238 then some (23, 2) else none) else (bif Nat.beq x 247 then some (157, 2) else none))))))) else none) else (bif Nat.blt m 2 then (bif Nat.beq m 1 then (bif Nat.blt x 23 then (bif Nat.beq x 19 then some (155, 2) else none) else (bif Nat.beq x 23 then some (156, 2) else none)) else none) else (bif Nat.beq m 2 then (bif Nat.blt x 41 then (bif Nat.blt x 37 then (bif Nat.beq x 31 then some (1001, 2) else none) else (bif Nat.beq x 37 then some (110, 3) else none)) else (bif Nat.blt x 45 then (bif Nat.beq x 41 then some (107, 1) else none) else (bif Nat.blt x 49 then (bif Nat.beq x 45 then some (111, 2) else none) else (bif Nat.beq x 49 then some (105, 3) else none)))) else none))) else (bif Nat.blt m 4 then (bif Nat.beq m 3 then (bif Nat.blt x 83 then (bif Nat.blt x 53 then (bif Nat.blt x 43 then (bif Nat.blt x 39 then (bif Nat.beq x 36 then some (123, 1) else none) else (bif Nat.beq x 39 then some (124, 1) else none)) else (bif Nat.blt x 47 then (bif Nat.beq x 43 then some (130, 1) else none) else (bif Nat.beq x 47 then some (108, 2) else none))) else (bif Nat.blt x 60 then (bif Nat.blt x 57 then (bif Nat.beq x 53 then some (131, 3) else none) else (bif Nat.beq x 57 then some (109, 1) else none)) else (bif Nat.blt x 61 then (bif Nat.beq x 60 then some (101, 1) else none) else (bif Nat.blt x 76 then (bif Nat.beq x 61 then some (1001, 2) else none) else (bif Nat.beq x 76 then some (125, 3) else none))))) else (bif Nat.blt x 100 then (bif Nat.blt x 90 then (bif Nat.blt x 86 then (bif Nat.beq x 83 then some (107, 1) else none) else (bif Nat.beq x 86 then some (104, 3) else none)) else (bif Nat.blt x 94 then (bif Nat.beq x 90 then some (25, 1) else none) else (bif Nat.blt x 97 then (bif Nat.beq x 94 then some (126, 3) else none) else (bif Nat.beq x 97 then some (127, 1) else none)))) else (bif Nat.blt x 107 then (bif Nat.blt x 103 then (bif Nat.beq x 100 then some (128, 3) else none) else (bif Nat.beq x 103 then some (106, 2) else none)) else (bif Nat.blt x 111 then (bif Nat.beq x 107 then some (102, 1) else none) else (bif Nat.blt x 115 then (bif Nat.beq x 111 then some (103, 2) else none) else (bif Nat.beq x 115 then some (129, 3) else none)))))) else none) else (bif Nat.blt m 5 then (bif Nat.beq m 4 then (bif Nat.blt x 52 then (bif Nat.blt x 38 then (bif Nat.blt x 35 then (bif Nat.beq x 29 then some (108, 2) else none) else (bif Nat.beq x 35 then some (135, 1) else none)) else (bif Nat.blt x 44 then (bif Nat.beq x 38 then some (137, 1) else none) else (bif Nat.blt x 48 then (bif Nat.beq x 44 then some (105, 3) else none) else (bif Nat.beq x 48 then some (133, 2) else none)))) else (bif Nat.blt x 68 then (bif Nat.blt x 65 then (bif Nat.beq x 52 then some (1001, 2) else none) else (bif Nat.beq x 65 then some (136, 3) else none)) else (bif Nat.blt x 72 then (bif Nat.beq x 68 then some (107, 1) else none) else (bif Nat.blt x 75 then (bif Nat.beq x 72 then some (138, 2) else none) else (bif Nat.beq x 75 then some (134, 4) else none))))) else none) else (bif Nat.beq m 5 then (bif Nat.blt x 65 then (bif Nat.blt x 45 then (bif Nat.blt x 35 then (bif Nat.beq x 32 then some (144, 1) else none) else (bif Nat.blt x 41 then (bif Nat.beq x 35 then some (1001, 2) else none) else (bif Nat.beq x 41 then some (149, 1) else none))) else (bif Nat.blt x 57 then (bif Nat.beq x 45 then some (145, 3) else none) else (bif Nat.blt x 61 then (bif Nat.beq x 57 then some (140, 4) else none) else (bif Nat.beq x 61 then some (105, 3) else none)))) else (bif Nat.blt x 75 then (bif Nat.blt x 68 then (bif Nat.beq x 65 then some (146, 3) else none) else (bif Nat.blt x 71 then (bif Nat.beq x 68 then some (147, 1) else none) else (bif Nat.beq x 71 then some (148, 2) else none))) else (bif Nat.blt x 84 then (bif Nat.blt x 78 then (bif Nat.beq x 75 then some (150, 1) else none) else (bif Nat.beq x 78 then some (1000, 5) else none)) else (bif Nat.blt x 87 then (bif Nat.beq x 84 then some (151, 2) else none) else (bif Nat.beq x 87 then some (152, 2) else none))))) else none)))) else (bif Nat.blt m 9 then (bif Nat.blt m 7 then (bif Nat.beq m 6 then (bif Nat.blt x 66 then (bif Nat.blt x 50 then (bif Nat.blt x 43 then (bif Nat.beq x 31 then some (1001, 2) else none) else (bif Nat.beq x 43 then some (85, 5) else none)) else (bif Nat.blt x 62 then (bif Nat.beq x 50 then some (83, 2) else none) else (bif Nat.beq x 62 then some (140, 4) else none))) else (bif Nat.blt x 74 then (bif Nat.blt x 70 then (bif Nat.beq x 66 then some (84, 4) else none) else (bif Nat.beq x 70 then some (82, 4) else none)) else (bif Nat.blt x 78 then (bif Nat.beq x 74 then some (105, 3) else none) else (bif Nat.blt x 81 then (bif Nat.beq x 78 then some (142, 3) else none) else (bif Nat.beq x 81 then some (134, 4) else none))))) else none) else (bif Nat.blt m 8 then (bif Nat.beq m 7 then (bif Nat.blt x 26 then (bif Nat.beq x 22 then some (88, 2) else none) else (bif Nat.blt x 35 then (bif Nat.beq x 26 then some (86, 3) else none) else (bif Nat.beq x 35 then some (105, 3) else none))) else none) else (bif Nat.beq m 8 then (bif Nat.blt x 73 then (bif Nat.blt x 61 then (bif Nat.blt x 51 then (bif Nat.beq x 31 then some (141, 3) else none) else (bif Nat.blt x 57 then (bif Nat.beq x 51 then some (82, 4) else none) else (bif Nat.beq x 57 then some (97, 2) else none))) else (bif Nat.blt x 65 then (bif Nat.beq x 61 then some (100, 3) else none) else (bif Nat.blt x 68 then (bif Nat.beq x 65 then some (96, 4) else none) else (bif Nat.beq x 68 then some (87, 3) else none)))) else (bif Nat.blt x 89 then (bif Nat.blt x 80 then (bif Nat.beq x 73 then some (91, 3) else none) else (bif Nat.blt x 83 then (bif Nat.beq x 80 then some (95, 3) else none) else (bif Nat.beq x 83 then some (86, 3) else none))) else (bif Nat.blt x 95 then (bif Nat.blt x 92 then (bif Nat.beq x 89 then some (89, 4) else none) else (bif Nat.beq x 92 then some (98, 3) else none)) else (bif Nat.blt x 99 then (bif Nat.beq x 95 then some (99, 2) else none) else (bif Nat.beq x 99 then some (142, 3) else none))))) else none))) else (bif Nat.blt m 11 then (bif Nat.blt m 10 then (bif Nat.beq m 9 then (bif Nat.blt x 84 then (bif Nat.blt x 72 then (bif Nat.blt x 66 then (bif Nat.beq x 62 then some (114, 1) else none) else (bif Nat.beq x 66 then some (91, 3) else none)) else (bif Nat.blt x 76 then (bif Nat.beq x 72 then some (116, 3) else none) else (bif Nat.blt x 80 then (bif Nat.beq x 76 then some (117, 3) else none) else (bif Nat.beq x 80 then some (118, 2) else none)))) else (bif Nat.blt x 102 then (bif Nat.blt x 88 then (bif Nat.beq x 84 then some (120, 2) else none) else (bif Nat.blt x 91 then (bif Nat.beq x 88 then some (158, 3) else none) else (bif Nat.beq x 91 then some (121, 3) else none))) else (bif Nat.blt x 105 then (bif Nat.beq x 102 then some (119, 3) else none) else (bif Nat.blt x 109 then (bif Nat.beq x 105 then some (159, 5) else none) else (bif Nat.beq x 109 then some (142, 3) else none))))) else none) else (bif Nat.beq m 10 then (bif Nat.beq x 43 then some (1000, 5) else none) else none)) else (bif Nat.blt m 12 then (bif Nat.beq m 11 then (bif Nat.blt x 168 then (bif Nat.blt x 139 then (bif Nat.blt x 119 then (bif Nat.blt x 112 then (bif Nat.blt x 108 then (bif Nat.beq x 104 then some (29, 1) else none) else (bif Nat.beq x 108 then some (34, 3) else none)) else (bif Nat.blt x 115 then (bif Nat.beq x 112 then some (36, 1) else none) else (bif Nat.beq x 115 then some (38, 1) else none))) else (bif Nat.blt x 132 then (bif Nat.blt x 129 then (bif Nat.beq x 119 then some (37, 1) else none) else (bif Nat.beq x 129 then some (35, 1) else none)) else (bif Nat.blt x 135 then (bif Nat.beq x 132 then some (39, 1) else none) else (bif Nat.beq x 135 then some (45, 1) else none)))) else (bif Nat.blt x 154 then (bif Nat.blt x 145 then (bif Nat.blt x 142 then (bif Nat.beq x 139 then some (48, 1) else none) else (bif Nat.beq x 142 then some (51, 1) else none)) else (bif Nat.blt x 151 then (bif Nat.beq x 145 then some (42, 1) else none) else (bif Nat.beq x 151 then some (43, 1) else none))) else (bif Nat.blt x 161 then (bif Nat.blt x 158 then (bif Nat.beq x 154 then some (44, 3) else none) else (bif Nat.beq x 158 then some (46, 3) else none)) else (bif Nat.blt x 164 then (bif Nat.beq x 161 then some (47, 3) else none) else (bif Nat.beq x 164 then some (49, 4) else none))))) else (bif Nat.blt x 193 then (bif Nat.blt x 181 then (bif Nat.blt x 175 then (bif Nat.blt x 171 then (bif Nat.beq x 168 then some (50, 3) else none) else (bif Nat.beq x 171 then some (52, 4) else none)) else (bif Nat.blt x 178 then (bif Nat.beq x 175 then some (54, 3) else none) else (bif Nat.beq x 178 then some (55, 3) else none))) else (bif Nat.blt x 187 then (bif Nat.blt x 184 then (bif Nat.beq x 181 then some (56, 2) else none) else (bif Nat.beq x 184 then some (53, 4) else none)) else (bif Nat.blt x 190 then (bif Nat.beq x 187 then some (58, 3) else none) else (bif Nat.beq x 190 then some (59, 1) else none)))) else (bif Nat.blt x 206 then (bif Nat.blt x 200 then (bif Nat.blt x 196 then (bif Nat.beq x 193 then some (60, 2) else none) else (bif Nat.beq x 196 then some (63, 2) else none)) else (bif Nat.blt x 203 then (bif Nat.beq x 200 then some (30, 1) else none) else (bif Nat.beq x 203 then some (64, 2) else none))) else (bif Nat.blt x 230 then (bif Nat.blt x 209 then (bif Nat.beq x 206 then some (31, 1) else none) else (bif Nat.beq x 209 then some (57, 3) else none)) else (bif Nat.blt x 234 then (bif Nat.beq x 230 then some (73, 5) else none) else (bif Nat.beq x 234 then some (74, 3) else none)))))) else none) else (bif Nat.beq m 12 then (bif Nat.blt x 105 then (bif Nat.blt x 66 then (bif Nat.blt x 42 then (bif Nat.blt x 27 then (bif Nat.blt x 15 then (bif Nat.beq x 7 then some (4, 4) else none) else (bif Nat.blt x 21 then (bif Nat.beq x 15 then some (5, 2) else none) else (bif Nat.beq x 21 then some (6, 3) else none))) else (bif Nat.blt x 34 then (bif Nat.blt x 31 then (bif Nat.beq x 27 then some (7, 3) else none) else (bif Nat.beq x 31 then some (8, 3) else none)) else (bif Nat.blt x 38 then (bif Nat.beq x 34 then some (9, 3) else none) else (bif Nat.beq x 38 then some (10, 4) else none)))) else (bif Nat.blt x 52 then (bif Nat.blt x 45 then (bif Nat.beq x 42 then some (11, 3) else none) else (bif Nat.blt x 48 then (bif Nat.beq x 45 then some (12, 2) else none) else (bif Nat.beq x 48 then some (13, 3) else none))) else (bif Nat.blt x 59 then (bif Nat.blt x 56 then (bif Nat.beq x 52 then some (14, 2) else none) else (bif Nat.beq x 56 then some (16, 2) else none)) else (bif Nat.blt x 63 then (bif Nat.beq x 59 then some (17, 1) else none) else (bif Nat.beq x 63 then some (18, 3) else none))))) else (bif Nat.blt x 88 then (bif Nat.blt x 80 then (bif Nat.blt x 75 then (bif Nat.beq x 66 then some (19, 3) else none) else (bif Nat.blt x 79 then (bif Nat.beq x 75 then some (0, 2) else none) else (bif Nat.beq x 79 then some (32, 2) else none))) else (bif Nat.blt x 84 then (bif Nat.blt x 83 then (bif Nat.beq x 80 then some (1, 1) else none) else (bif Nat.beq x 83 then some (33, 1) else none)) else (bif Nat.blt x 87 then (bif Nat.beq x 84 then some (2, 1) else none) else (bif Nat.beq x 87 then some (40, 1) else none)))) else (bif Nat.blt x 97 then (bif Nat.blt x 91 then (bif Nat.beq x 88 then some (3, 1) else none) else (bif Nat.blt x 92 then (bif Nat.beq x 91 then some (41, 1) else none) else (bif Nat.beq x 92 then some (160, 4) else none))) else (bif Nat.blt x 101 then (bif Nat.blt x 98 then (bif Nat.beq x 97 then some (61, 4) else none) else (bif Nat.beq x 98 then some (28, 1) else none)) else (bif Nat.blt x 104 then (bif Nat.beq x 101 then some (161, 3) else none) else (bif Nat.beq x 104 then some (62, 2) else none)))))) else (bif Nat.blt x 130 then (bif Nat.blt x 119 then (bif Nat.blt x 112 then (bif Nat.blt x 108 then (bif Nat.beq x 105 then some (162, 4) else none) else (bif Nat.blt x 109 then (bif Nat.beq x 108 then some (65, 3) else none) else (bif Nat.beq x 109 then some (163, 4) else none))) else (bif Nat.blt x 115 then (bif Nat.blt x 113 then (bif Nat.beq x 112 then some (66, 3) else none) else (bif Nat.beq x 113 then some (164, 4) else none)) else (bif Nat.blt x 116 then (bif Nat.beq x 115 then some (67, 3) else none) else (bif Nat.beq x 116 then some (165, 4) else none)))) else (bif Nat.blt x 124 then (bif Nat.blt x 120 then (bif Nat.beq x 119 then some (68, 3) else none) else (bif Nat.blt x 123 then (bif Nat.beq x 120 then some (166, 5) else none) else (bif Nat.beq x 123 then some (69, 4) else none))) else (bif Nat.blt x 127 then (bif Nat.blt x 126 then (bif Nat.beq x 124 then some (167, 4) else none) else (bif Nat.beq x 126 then some (70, 3) else none)) else (bif Nat.blt x 129 then (bif Nat.beq x 127 then some (168, 3) else none) else (bif Nat.beq x 129 then some (71, 2) else none))))) else (bif Nat.blt x 144 then (bif Nat.blt x 137 then (bif Nat.blt x 133 then (bif Nat.beq x 130 then some (169, 3) else none) else (bif Nat.blt x 134 then (bif Nat.beq x 133 then some (72, 3) else none) else (bif Nat.beq x 134 then some (170, 3) else none))) else (bif Nat.blt x 141 then (bif Nat.blt x 138 then (bif Nat.beq x 137 then some (75, 2) else none) else (bif Nat.beq x 138 then some (15, 2) else none)) else (bif Nat.blt x 142 then (bif Nat.beq x 141 then some (76, 2) else none) else (bif Nat.beq x 142 then some (171, 3) else none)))) else (bif Nat.blt x 149 then (bif Nat.blt x 145 then (bif Nat.beq x 144 then some (77, 2) else none) else (bif Nat.blt x 148 then (bif Nat.beq x 145 then some (172, 2) else none) else (bif Nat.beq x 148 then some (78, 1) else none))) else (bif Nat.blt x 152 then (bif Nat.blt x 151 then (bif Nat.beq x 149 then some (173, 4) else none) else (bif Nat.beq x 151 then some (79, 3) else none)) else (bif Nat.blt x 154 then (bif Nat.beq x 152 then some (174, 4) else none) else (bif Nat.beq x 154 then some (80, 3) else none))))))) else none))))
def q_kis (m x : Nat) : Option Int := bif Nat.blt m 4 then (bif Nat.beq m 3 then (bif Nat.beq x 46 then some 65280 else none) else none) else (bif Nat.blt m 6 then (bif Nat.beq m 4 then (bif Nat.beq x 58 then some 1000000 else none) else none) else (bif Nat.beq m 6 then (bif Nat.beq x 47 then some 1000000 else none) else none))
def q_kls (m x : Nat) : Option Int := bif Nat.blt m 11 then (bif Nat.beq m 6 then (bif Nat.beq x 48 then some (-1) else none) else none) else (bif Nat.blt m 12 then (bif Nat.beq m 11 then (bif Nat.beq x 93 then some 255 else none) else none) else (bif Nat.beq m 12 then (bif Nat.beq x 73 then some 4294967295 else none) else none))
def q_nws (m x : Nat) : Option Nat := bif Nat.beq m 0 then (bif Nat.blt x 148 then (bif Nat.beq x 116 then some 0 else none) else (bif Nat.blt x 210 then (bif Nat.beq x 148 then some 2 else none) else (bif Nat.beq x 210 then some 1 else none))) else none
-- handlers: from, to, exception, handler, pc behind its astore, the local
def q_hd (m : Nat) : List (Nat × Nat × Nat × Nat × Nat × Nat) := bif Nat.blt m 167 then (bif Nat.blt m 163 then (bif Nat.blt m 161 then (bif Nat.beq m 160 then [(0, 7, 0, 10, 12, 4)] else []) else (bif Nat.blt m 162 then (bif Nat.beq m 161 then [(0, 9, 1, 12, 13, 3), (0, 9, 0, 15, 16, 3)] else []) else (bif Nat.beq m 162 then [(0, 10, 1, 13, 15, 4), (0, 10, 2, 17, 19, 4)] else []))) else (bif Nat.blt m 165 then (bif Nat.blt m 164 then (bif Nat.beq m 163 then [(0, 10, 1, 13, 15, 4), (0, 10, 0, 17, 19, 4)] else []) else (bif Nat.beq m 164 then [(0, 10, 1, 13, 15, 4), (0, 10, 2, 17, 19, 4)] else [])) else (bif Nat.blt m 166 then (bif Nat.beq m 165 then [(0, 10, 1, 13, 15, 4), (0, 10, 2, 17, 19, 4), (0, 10, 0, 21, 23, 4)] else []) else (bif Nat.beq m 166 then [(0, 12, 1, 15, 17, 5), (0, 12, 2, 19, 21, 5), (0, 12, 0, 23, 25, 5)] else [])))) else (bif Nat.blt m 171 then (bif Nat.blt m 169 then (bif Nat.blt m 168 then (bif Nat.beq m 167 then [(0, 10, 1, 13, 15, 4), (0, 10, 2, 17, 19, 4), (0, 10, 0, 21, 23, 4)] else []) else (bif Nat.beq m 168 then [(0, 9, 1, 12, 13, 3)] else [])) else (bif Nat.blt m 170 then (bif Nat.beq m 169 then [(0, 6, 1, 9, 10, 3), (0, 6, 0, 12, 13, 3)] else []) else (bif Nat.beq m 170 then [(0, 9, 1, 12, 13, 3), (0, 9, 0, 15, 16, 3)] else []))) else (bif Nat.blt m 173 then (bif Nat.blt m 172 then (bif Nat.beq m 171 then [(0, 9, 2, 12, 13, 3)] else []) else (bif Nat.beq m 172 then [(0, 8, 1, 11, 12, 2)] else [])) else (bif Nat.blt m 174 then (bif Nat.beq m 173 then [(0, 10, 2, 13, 15, 4), (0, 10, 0, 17, 19, 4)] else []) else (bif Nat.beq m 174 then [(0, 10, 2, 13, 15, 4)] else []))))
-- shapes: an object: number of its kind, kinds of its slots (0 int, 1 boolean, 2 long, k + 3 a reference to cell k); an array: kind (0 int, 1 boolean, 2 char, 3 long), length
def q_ob (k : Nat) : Option (Nat × List Nat) := bif Nat.blt k 21 then (bif Nat.blt k 9 then (bif Nat.blt k 1 then (bif Nat.beq k 0 then some (0, [4, 6, 12, 15, 19, 24, 26, 29, 30, 1]) else none) else (bif Nat.blt k 3 then (bif Nat.beq k 1 then some (1, [5, 0]) else none) else (bif Nat.beq k 3 then some (2, [7, 8, 9, 10, 0, 11]) else none))) else (bif Nat.blt k 12 then (bif Nat.beq k 9 then some (3, [0, 4, 6, 13, 14, 0, 0]) else none) else (bif Nat.blt k 16 then (bif Nat.beq k 12 then some (4, [16, 17, 6, 18, 0]) else none) else (bif Nat.beq k 16 then some (5, [0, 6, 20, 21, 22, 23]) else none)))) else (bif Nat.blt k 27 then (bif Nat.blt k 23 then (bif Nat.beq k 21 then some (6, [6, 15, 19, 25, 2]) else none) else (bif Nat.blt k 26 then (bif Nat.beq k 23 then some (7, [27, 28, 6]) else none) else (bif Nat.beq k 26 then some (8, [6, 15, 19, 24, 26]) else none))) else (bif Nat.blt k 30 then (bif Nat.beq k 27 then some (9, [1, 0, 0, 0, 33, 31, 32, 6, 19, 29, 0, 0]) else none) else (bif Nat.blt k 36 then (bif Nat.beq k 30 then some (10, [34, 35, 36, 37, 38, 0, 6]) else none) else (bif Nat.beq k 36 then some (11, [0, 40, 0, 0, 1, 0, 41, 42, 43, 44, 0, 45, 46, 47, 48, 49, 50, 0, 51, 52, 53, 54, 55, 56, 1, 0, 0, 0, 0, 0, 0, 57, 58, 59, 60, 61, 62, 63, 64]) else none))))
def q_ar (k : Nat) : Option (Nat × Int) := bif Nat.blt k 37 then (bif Nat.blt k 18 then (bif Nat.blt k 10 then (bif Nat.blt k 6 then (bif Nat.blt k 4 then (bif Nat.beq k 2 then some (2, 200) else none) else (bif Nat.blt k 5 then (bif Nat.beq k 4 then some (0, 16) else none) else (bif Nat.beq k 5 then some (0, 16) else none))) else (bif Nat.blt k 7 then (bif Nat.beq k 6 then some (0, 8) else none) else (bif Nat.blt k 8 then (bif Nat.beq k 7 then some (0, 8) else none) else (bif Nat.beq k 8 then some (0, 64) else none)))) else (bif Nat.blt k 14 then (bif Nat.blt k 11 then (bif Nat.beq k 10 then some (0, 8) else none) else (bif Nat.blt k 13 then (bif Nat.beq k 11 then some (0, 8) else none) else (bif Nat.beq k 13 then some (0, 8) else none))) else (bif Nat.blt k 15 then (bif Nat.beq k 14 then some (0, 8) else none) else (bif Nat.blt k 17 then (bif Nat.beq k 15 then some (0, 80) else none) else (bif Nat.beq k 17 then some (0, 640) else none))))) else (bif Nat.blt k 28 then (bif Nat.blt k 22 then (bif Nat.blt k 19 then (bif Nat.beq k 18 then some (0, 640) else none) else (bif Nat.blt k 20 then (bif Nat.beq k 19 then some (0, 256) else none) else (bif Nat.beq k 20 then some (0, 16) else none))) else (bif Nat.blt k 24 then (bif Nat.beq k 22 then some (0, 3200) else none) else (bif Nat.blt k 25 then (bif Nat.beq k 24 then some (0, 9) else none) else (bif Nat.beq k 25 then some (0, 9) else none)))) else (bif Nat.blt k 32 then (bif Nat.blt k 29 then (bif Nat.beq k 28 then some (0, 24) else none) else (bif Nat.blt k 31 then (bif Nat.beq k 29 then some (0, 24) else none) else (bif Nat.beq k 31 then some (0, 60) else none))) else (bif Nat.blt k 34 then (bif Nat.blt k 33 then (bif Nat.beq k 32 then some (0, 60) else none) else (bif Nat.beq k 33 then some (0, 60) else none)) else (bif Nat.blt k 35 then (bif Nat.beq k 34 then some (0, 60) else none) else (bif Nat.beq k 35 then some (0, 240) else none)))))) else (bif Nat.blt k 50 then (bif Nat.blt k 43 then (bif Nat.blt k 40 then (bif Nat.blt k 38 then (bif Nat.beq k 37 then some (0, 200) else none) else (bif Nat.blt k 39 then (bif Nat.beq k 38 then some (0, 16) else none) else (bif Nat.beq k 39 then some (0, 16) else none))) else (bif Nat.blt k 41 then (bif Nat.beq k 40 then some (0, 64) else none) else (bif Nat.blt k 42 then (bif Nat.beq k 41 then some (0, 64) else none) else (bif Nat.beq k 42 then some (0, 8) else none)))) else (bif Nat.blt k 46 then (bif Nat.blt k 44 then (bif Nat.beq k 43 then some (0, 8) else none) else (bif Nat.blt k 45 then (bif Nat.beq k 44 then some (1, 8) else none) else (bif Nat.beq k 45 then some (1, 8) else none))) else (bif Nat.blt k 48 then (bif Nat.blt k 47 then (bif Nat.beq k 46 then some (0, 8) else none) else (bif Nat.beq k 47 then some (0, 8) else none)) else (bif Nat.blt k 49 then (bif Nat.beq k 48 then some (1, 5120) else none) else (bif Nat.beq k 49 then some (0, 5120) else none))))) else (bif Nat.blt k 56 then (bif Nat.blt k 53 then (bif Nat.blt k 51 then (bif Nat.beq k 50 then some (0, 640) else none) else (bif Nat.blt k 52 then (bif Nat.beq k 51 then some (1, 128) else none) else (bif Nat.beq k 52 then some (0, 8) else none))) else (bif Nat.blt k 54 then (bif Nat.beq k 53 then some (0, 8) else none) else (bif Nat.blt k 55 then (bif Nat.beq k 54 then some (0, 24) else none) else (bif Nat.beq k 55 then some (0, 24) else none)))) else (bif Nat.blt k 59 then (bif Nat.blt k 57 then (bif Nat.beq k 56 then some (0, 60) else none) else (bif Nat.blt k 58 then (bif Nat.beq k 57 then some (0, 60) else none) else (bif Nat.beq k 58 then some (0, 60) else none))) else (bif Nat.blt k 61 then (bif Nat.blt k 60 then (bif Nat.beq k 59 then some (0, 60) else none) else (bif Nat.beq k 60 then some (0, 60) else none)) else (bif Nat.blt k 62 then (bif Nat.beq k 61 then some (0, 240) else none) else (bif Nat.beq k 62 then some (3, 1) else none))))))
-- rooms: frames and words that a method needs over its own frame
def q_rf (m : Nat) : Nat := bif Nat.blt m 88 then (bif Nat.blt m 44 then (bif Nat.blt m 22 then (bif Nat.blt m 11 then (bif Nat.blt m 5 then (bif Nat.blt m 2 then (bif Nat.blt m 1 then (bif Nat.beq m 0 then 3 else 99) else (bif Nat.beq m 1 then 1 else 99)) else (bif Nat.blt m 3 then (bif Nat.beq m 2 then 6 else 99) else (bif Nat.blt m 4 then (bif Nat.beq m 3 then 0 else 99) else (bif Nat.beq m 4 then 6 else 99)))) else (bif Nat.blt m 8 then (bif Nat.blt m 6 then (bif Nat.beq m 5 then 7 else 99) else (bif Nat.blt m 7 then (bif Nat.beq m 6 then 7 else 99) else (bif Nat.beq m 7 then 7 else 99))) else (bif Nat.blt m 9 then (bif Nat.beq m 8 then 7 else 99) else (bif Nat.blt m 10 then (bif Nat.beq m 9 then 7 else 99) else (bif Nat.beq m 10 then 7 else 99))))) else (bif Nat.blt m 16 then (bif Nat.blt m 13 then (bif Nat.blt m 12 then (bif Nat.beq m 11 then 7 else 99) else (bif Nat.beq m 12 then 7 else 99)) else (bif Nat.blt m 14 then (bif Nat.beq m 13 then 7 else 99) else (bif Nat.blt m 15 then (bif Nat.beq m 14 then 7 else 99) else (bif Nat.beq m 15 then 0 else 99)))) else (bif Nat.blt m 19 then (bif Nat.blt m 17 then (bif Nat.beq m 16 then 6 else 99) else (bif Nat.blt m 18 then (bif Nat.beq m 17 then 6 else 99) else (bif Nat.beq m 18 then 7 else 99))) else (bif Nat.blt m 20 then (bif Nat.beq m 19 then 7 else 99) else (bif Nat.blt m 21 then (bif Nat.beq m 20 then 6 else 99) else (bif Nat.beq m 21 then 6 else 99)))))) else (bif Nat.blt m 33 then (bif Nat.blt m 27 then (bif Nat.blt m 24 then (bif Nat.blt m 23 then (bif Nat.beq m 22 then 6 else 99) else (bif Nat.beq m 23 then 6 else 99)) else (bif Nat.blt m 25 then (bif Nat.beq m 24 then 6 else 99) else (bif Nat.blt m 26 then (bif Nat.beq m 25 then 0 else 99) else (bif Nat.beq m 26 then 0 else 99)))) else (bif Nat.blt m 30 then (bif Nat.blt m 28 then (bif Nat.beq m 27 then 0 else 99) else (bif Nat.blt m 29 then (bif Nat.beq m 28 then 0 else 99) else (bif Nat.beq m 29 then 0 else 99))) else (bif Nat.blt m 31 then (bif Nat.beq m 30 then 0 else 99) else (bif Nat.blt m 32 then (bif Nat.beq m 31 then 0 else 99) else (bif Nat.beq m 32 then 0 else 99))))) else (bif Nat.blt m 38 then (bif Nat.blt m 35 then (bif Nat.blt m 34 then (bif Nat.beq m 33 then 0 else 99) else (bif Nat.beq m 34 then 0 else 99)) else (bif Nat.blt m 36 then (bif Nat.beq m 35 then 1 else 99) else (bif Nat.blt m 37 then (bif Nat.beq m 36 then 0 else 99) else (bif Nat.beq m 37 then 0 else 99)))) else (bif Nat.blt m 41 then (bif Nat.blt m 39 then (bif Nat.beq m 38 then 0 else 99) else (bif Nat.blt m 40 then (bif Nat.beq m 39 then 1 else 99) else (bif Nat.beq m 40 then 3 else 99))) else (bif Nat.blt m 42 then (bif Nat.beq m 41 then 0 else 99) else (bif Nat.blt m 43 then (bif Nat.beq m 42 then 0 else 99) else (bif Nat.beq m 43 then 1 else 99))))))) else (bif Nat.blt m 66 then (bif Nat.blt m 55 then (bif Nat.blt m 49 then (bif Nat.blt m 46 then (bif Nat.blt m 45 then (bif Nat.beq m 44 then 0 else 99) else (bif Nat.beq m 45 then 2 else 99)) else (bif Nat.blt m 47 then (bif Nat.beq m 46 then 0 else 99) else (bif Nat.blt m 48 then (bif Nat.beq m 47 then 0 else 99) else (bif Nat.beq m 48 then 1 else 99)))) else (bif Nat.blt m 52 then (bif Nat.blt m 50 then (bif Nat.beq m 49 then 0 else 99) else (bif Nat.blt m 51 then (bif Nat.beq m 50 then 1 else 99) else (bif Nat.beq m 51 then 2 else 99))) else (bif Nat.blt m 53 then (bif Nat.beq m 52 then 0 else 99) else (bif Nat.blt m 54 then (bif Nat.beq m 53 then 1 else 99) else (bif Nat.beq m 54 then 0 else 99))))) else (bif Nat.blt m 60 then (bif Nat.blt m 57 then (bif Nat.blt m 56 then (bif Nat.beq m 55 then 1 else 99) else (bif Nat.beq m 56 then 0 else 99)) else (bif Nat.blt m 58 then (bif Nat.beq m 57 then 2 else 99) else (bif Nat.blt m 59 then (bif Nat.beq m 58 then 2 else 99) else (bif Nat.beq m 59 then 2 else 99)))) else (bif Nat.blt m 63 then (bif Nat.blt m 61 then (bif Nat.beq m 60 then 3 else 99) else (bif Nat.blt m 62 then (bif Nat.beq m 61 then 0 else 99) else (bif Nat.beq m 62 then 4 else 99))) else (bif Nat.blt m 64 then (bif Nat.beq m 63 then 0 else 99) else (bif Nat.blt m 65 then (bif Nat.beq m 64 then 0 else 99) else (bif Nat.beq m 65 then 1 else 99)))))) else (bif Nat.blt m 77 then (bif Nat.blt m 71 then (bif Nat.blt m 68 then (bif Nat.blt m 67 then (bif Nat.beq m 66 then 0 else 99) else (bif Nat.beq m 67 then 1 else 99)) else (bif Nat.blt m 69 then (bif Nat.beq m 68 then 1 else 99) else (bif Nat.blt m 70 then (bif Nat.beq m 69 then 1 else 99) else (bif Nat.beq m 70 then 3 else 99)))) else (bif Nat.blt m 74 then (bif Nat.blt m 72 then (bif Nat.beq m 71 then 4 else 99) else (bif Nat.blt m 73 then (bif Nat.beq m 72 then 0 else 99) else (bif Nat.beq m 73 then 1 else 99))) else (bif Nat.blt m 75 then (bif Nat.beq m 74 then 2 else 99) else (bif Nat.blt m 76 then (bif Nat.beq m 75 then 3 else 99) else (bif Nat.beq m 76 then 0 else 99))))) else (bif Nat.blt m 82 then (bif Nat.blt m 79 then (bif Nat.blt m 78 then (bif Nat.beq m 77 then 0 else 99) else (bif Nat.beq m 78 then 3 else 99)) else (bif Nat.blt m 80 then (bif Nat.beq m 79 then 0 else 99) else (bif Nat.blt m 81 then (bif Nat.beq m 80 then 0 else 99) else (bif Nat.beq m 81 then 4 else 99)))) else (bif Nat.blt m 85 then (bif Nat.blt m 83 then (bif Nat.beq m 82 then 0 else 99) else (bif Nat.blt m 84 then (bif Nat.beq m 83 then 3 else 99) else (bif Nat.beq m 84 then 2 else 99))) else (bif Nat.blt m 86 then (bif Nat.beq m 85 then 0 else 99) else (bif Nat.blt m 87 then (bif Nat.beq m 86 then 2 else 99) else (bif Nat.beq m 87 then 3 else 99)))))))) else (bif Nat.blt m 132 then (bif Nat.blt m 110 then (bif Nat.blt m 99 then (bif Nat.blt m 93 then (bif Nat.blt m 90 then (bif Nat.blt m 89 then (bif Nat.beq m 88 then 1 else 99) else (bif Nat.beq m 89 then 1 else 99)) else (bif Nat.blt m 91 then (bif Nat.beq m 90 then 5 else 99) else (bif Nat.blt m 92 then (bif Nat.beq m 91 then 4 else 99) else (bif Nat.beq m 92 then 5 else 99)))) else (bif Nat.blt m 96 then (bif Nat.blt m 94 then (bif Nat.beq m 93 then 4 else 99) else (bif Nat.blt m 95 then (bif Nat.beq m 94 then 4 else 99) else (bif Nat.beq m 95 then 3 else 99))) else (bif Nat.blt m 97 then (bif Nat.beq m 96 then 2 else 99) else (bif Nat.blt m 98 then (bif Nat.beq m 97 then 4 else 99) else (bif Nat.beq m 98 then 3 else 99))))) else (bif Nat.blt m 104 then (bif Nat.blt m 101 then (bif Nat.blt m 100 then (bif Nat.beq m 99 then 2 else 99) else (bif Nat.beq m 100 then 1 else 99)) else (bif Nat.blt m 102 then (bif Nat.beq m 101 then 1 else 99) else (bif Nat.blt m 103 then (bif Nat.beq m 102 then 0 else 99) else (bif Nat.beq m 103 then 0 else 99)))) else (bif Nat.blt m 107 then (bif Nat.blt m 105 then (bif Nat.beq m 104 then 0 else 99) else (bif Nat.blt m 106 then (bif Nat.beq m 105 then 0 else 99) else (bif Nat.beq m 106 then 0 else 99))) else (bif Nat.blt m 108 then (bif Nat.beq m 107 then 0 else 99) else (bif Nat.blt m 109 then (bif Nat.beq m 108 then 3 else 99) else (bif Nat.beq m 109 then 2 else 99)))))) else (bif Nat.blt m 121 then (bif Nat.blt m 115 then (bif Nat.blt m 112 then (bif Nat.blt m 111 then (bif Nat.beq m 110 then 2 else 99) else (bif Nat.beq m 111 then 1 else 99)) else (bif Nat.blt m 113 then (bif Nat.beq m 112 then 0 else 99) else (bif Nat.blt m 114 then (bif Nat.beq m 113 then 0 else 99) else (bif Nat.beq m 114 then 0 else 99)))) else (bif Nat.blt m 118 then (bif Nat.blt m 116 then (bif Nat.beq m 115 then 5 else 99) else (bif Nat.blt m 117 then (bif Nat.beq m 116 then 3 else 99) else (bif Nat.beq m 117 then 1 else 99))) else (bif Nat.blt m 119 then (bif Nat.beq m 118 then 2 else 99) else (bif Nat.blt m 120 then (bif Nat.beq m 119 then 1 else 99) else (bif Nat.beq m 120 then 0 else 99))))) else (bif Nat.blt m 126 then (bif Nat.blt m 123 then (bif Nat.blt m 122 then (bif Nat.beq m 121 then 0 else 99) else (bif Nat.beq m 122 then 5 else 99)) else (bif Nat.blt m 124 then (bif Nat.beq m 123 then 2 else 99) else (bif Nat.blt m 125 then (bif Nat.beq m 124 then 4 else 99) else (bif Nat.beq m 125 then 3 else 99)))) else (bif Nat.blt m 129 then (bif Nat.blt m 127 then (bif Nat.beq m 126 then 1 else 99) else (bif Nat.blt m 128 then (bif Nat.beq m 127 then 1 else 99) else (bif Nat.beq m 128 then 2 else 99))) else (bif Nat.blt m 130 then (bif Nat.beq m 129 then 1 else 99) else (bif Nat.blt m 131 then (bif Nat.beq m 130 then 1 else 99) else (bif Nat.beq m 131 then 0 else 99))))))) else (bif Nat.blt m 154 then (bif Nat.blt m 143 then (bif Nat.blt m 137 then (bif Nat.blt m 134 then (bif Nat.blt m 133 then (bif Nat.beq m 132 then 4 else 99) else (bif Nat.beq m 133 then 0 else 99)) else (bif Nat.blt m 135 then (bif Nat.beq m 134 then 1 else 99) else (bif Nat.blt m 136 then (bif Nat.beq m 135 then 2 else 99) else (bif Nat.beq m 136 then 1 else 99)))) else (bif Nat.blt m 140 then (bif Nat.blt m 138 then (bif Nat.beq m 137 then 3 else 99) else (bif Nat.blt m 139 then (bif Nat.beq m 138 then 2 else 99) else (bif Nat.beq m 139 then 4 else 99))) else (bif Nat.blt m 141 then (bif Nat.beq m 140 then 0 else 99) else (bif Nat.blt m 142 then (bif Nat.beq m 141 then 0 else 99) else (bif Nat.beq m 142 then 0 else 99))))) else (bif Nat.blt m 148 then (bif Nat.blt m 145 then (bif Nat.blt m 144 then (bif Nat.beq m 143 then 1 else 99) else (bif Nat.beq m 144 then 1 else 99)) else (bif Nat.blt m 146 then (bif Nat.beq m 145 then 3 else 99) else (bif Nat.blt m 147 then (bif Nat.beq m 146 then 0 else 99) else (bif Nat.beq m 147 then 1 else 99)))) else (bif Nat.blt m 151 then (bif Nat.blt m 149 then (bif Nat.beq m 148 then 0 else 99) else (bif Nat.blt m 150 then (bif Nat.beq m 149 then 2 else 99) else (bif Nat.beq m 150 then 1 else 99))) else (bif Nat.blt m 152 then (bif Nat.beq m 151 then 0 else 99) else (bif Nat.blt m 153 then (bif Nat.beq m 152 then 0 else 99) else (bif Nat.beq m 153 then 2 else 99)))))) else (bif Nat.blt m 165 then (bif Nat.blt m 159 then (bif Nat.blt m 156 then (bif Nat.blt m 155 then (bif Nat.beq m 154 then 0 else 99) else (bif Nat.beq m 155 then 1 else 99)) else (bif Nat.blt m 157 then (bif Nat.beq m 156 then 0 else 99) else (bif Nat.blt m 158 then (bif Nat.beq m 157 then 0 else 99) else (bif Nat.beq m 158 then 0 else 99)))) else (bif Nat.blt m 162 then (bif Nat.blt m 160 then (bif Nat.beq m 159 then 1 else 99) else (bif Nat.blt m 161 then (bif Nat.beq m 160 then 7 else 99) else (bif Nat.beq m 161 then 8 else 99))) else (bif Nat.blt m 163 then (bif Nat.beq m 162 then 8 else 99) else (bif Nat.blt m 164 then (bif Nat.beq m 163 then 8 else 99) else (bif Nat.beq m 164 then 8 else 99))))) else (bif Nat.blt m 170 then (bif Nat.blt m 167 then (bif Nat.blt m 166 then (bif Nat.beq m 165 then 8 else 99) else (bif Nat.beq m 166 then 8 else 99)) else (bif Nat.blt m 168 then (bif Nat.beq m 167 then 8 else 99) else (bif Nat.blt m 169 then (bif Nat.beq m 168 then 8 else 99) else (bif Nat.beq m 169 then 8 else 99)))) else (bif Nat.blt m 173 then (bif Nat.blt m 171 then (bif Nat.beq m 170 then 8 else 99) else (bif Nat.blt m 172 then (bif Nat.beq m 171 then 7 else 99) else (bif Nat.beq m 172 then 7 else 99))) else (bif Nat.blt m 174 then (bif Nat.beq m 173 then 8 else 99) else (bif Nat.blt m 175 then (bif Nat.beq m 174 then 8 else 99) else (bif Nat.beq m 175 then 9 else 99))))))))
def q_rw (m : Nat) : Nat := bif Nat.blt m 88 then (bif Nat.blt m 44 then (bif Nat.blt m 22 then (bif Nat.blt m 11 then (bif Nat.blt m 5 then (bif Nat.blt m 2 then (bif Nat.blt m 1 then (bif Nat.beq m 0 then 71 else 9999) else (bif Nat.beq m 1 then 21 else 9999)) else (bif Nat.blt m 3 then (bif Nat.beq m 2 then 133 else 9999) else (bif Nat.blt m 4 then (bif Nat.beq m 3 then 0 else 9999) else (bif Nat.beq m 4 then 90 else 9999)))) else (bif Nat.blt m 8 then (bif Nat.blt m 6 then (bif Nat.beq m 5 then 135 else 9999) else (bif Nat.blt m 7 then (bif Nat.beq m 6 then 111 else 9999) else (bif Nat.beq m 7 then 110 else 9999))) else (bif Nat.blt m 9 then (bif Nat.beq m 8 then 111 else 9999) else (bif Nat.blt m 10 then (bif Nat.beq m 9 then 111 else 9999) else (bif Nat.beq m 10 then 111 else 9999))))) else (bif Nat.blt m 16 then (bif Nat.blt m 13 then (bif Nat.blt m 12 then (bif Nat.beq m 11 then 115 else 9999) else (bif Nat.beq m 12 then 117 else 9999)) else (bif Nat.blt m 14 then (bif Nat.beq m 13 then 110 else 9999) else (bif Nat.blt m 15 then (bif Nat.beq m 14 then 155 else 9999) else (bif Nat.beq m 15 then 0 else 9999)))) else (bif Nat.blt m 19 then (bif Nat.blt m 17 then (bif Nat.beq m 16 then 90 else 9999) else (bif Nat.blt m 18 then (bif Nat.beq m 17 then 138 else 9999) else (bif Nat.beq m 18 then 111 else 9999))) else (bif Nat.blt m 20 then (bif Nat.beq m 19 then 111 else 9999) else (bif Nat.blt m 21 then (bif Nat.beq m 20 then 90 else 9999) else (bif Nat.beq m 21 then 90 else 9999)))))) else (bif Nat.blt m 33 then (bif Nat.blt m 27 then (bif Nat.blt m 24 then (bif Nat.blt m 23 then (bif Nat.beq m 22 then 90 else 9999) else (bif Nat.beq m 23 then 90 else 9999)) else (bif Nat.blt m 25 then (bif Nat.beq m 24 then 90 else 9999) else (bif Nat.blt m 26 then (bif Nat.beq m 25 then 0 else 9999) else (bif Nat.beq m 26 then 0 else 9999)))) else (bif Nat.blt m 30 then (bif Nat.blt m 28 then (bif Nat.beq m 27 then 0 else 9999) else (bif Nat.blt m 29 then (bif Nat.beq m 28 then 0 else 9999) else (bif Nat.beq m 29 then 0 else 9999))) else (bif Nat.blt m 31 then (bif Nat.beq m 30 then 0 else 9999) else (bif Nat.blt m 32 then (bif Nat.beq m 31 then 0 else 9999) else (bif Nat.beq m 32 then 0 else 9999))))) else (bif Nat.blt m 38 then (bif Nat.blt m 35 then (bif Nat.blt m 34 then (bif Nat.beq m 33 then 0 else 9999) else (bif Nat.beq m 34 then 0 else 9999)) else (bif Nat.blt m 36 then (bif Nat.beq m 35 then 22 else 9999) else (bif Nat.blt m 37 then (bif Nat.beq m 36 then 0 else 9999) else (bif Nat.beq m 37 then 0 else 9999)))) else (bif Nat.blt m 41 then (bif Nat.blt m 39 then (bif Nat.beq m 38 then 0 else 9999) else (bif Nat.blt m 40 then (bif Nat.beq m 39 then 24 else 9999) else (bif Nat.beq m 40 then 80 else 9999))) else (bif Nat.blt m 42 then (bif Nat.beq m 41 then 0 else 9999) else (bif Nat.blt m 43 then (bif Nat.beq m 42 then 0 else 9999) else (bif Nat.beq m 43 then 25 else 9999))))))) else (bif Nat.blt m 66 then (bif Nat.blt m 55 then (bif Nat.blt m 49 then (bif Nat.blt m 46 then (bif Nat.blt m 45 then (bif Nat.beq m 44 then 0 else 9999) else (bif Nat.beq m 45 then 48 else 9999)) else (bif Nat.blt m 47 then (bif Nat.beq m 46 then 0 else 9999) else (bif Nat.blt m 48 then (bif Nat.beq m 47 then 0 else 9999) else (bif Nat.beq m 48 then 26 else 9999)))) else (bif Nat.blt m 52 then (bif Nat.blt m 50 then (bif Nat.beq m 49 then 0 else 9999) else (bif Nat.blt m 51 then (bif Nat.beq m 50 then 26 else 9999) else (bif Nat.beq m 51 then 56 else 9999))) else (bif Nat.blt m 53 then (bif Nat.beq m 52 then 0 else 9999) else (bif Nat.blt m 54 then (bif Nat.beq m 53 then 23 else 9999) else (bif Nat.beq m 54 then 0 else 9999))))) else (bif Nat.blt m 60 then (bif Nat.blt m 57 then (bif Nat.blt m 56 then (bif Nat.beq m 55 then 23 else 9999) else (bif Nat.beq m 56 then 0 else 9999)) else (bif Nat.blt m 58 then (bif Nat.beq m 57 then 47 else 9999) else (bif Nat.blt m 59 then (bif Nat.beq m 58 then 48 else 9999) else (bif Nat.beq m 59 then 48 else 9999)))) else (bif Nat.blt m 63 then (bif Nat.blt m 61 then (bif Nat.beq m 60 then 71 else 9999) else (bif Nat.blt m 62 then (bif Nat.beq m 61 then 0 else 9999) else (bif Nat.beq m 62 then 94 else 9999))) else (bif Nat.blt m 64 then (bif Nat.beq m 63 then 0 else 9999) else (bif Nat.blt m 65 then (bif Nat.beq m 64 then 0 else 9999) else (bif Nat.beq m 65 then 21 else 9999)))))) else (bif Nat.blt m 77 then (bif Nat.blt m 71 then (bif Nat.blt m 68 then (bif Nat.blt m 67 then (bif Nat.beq m 66 then 0 else 9999) else (bif Nat.beq m 67 then 21 else 9999)) else (bif Nat.blt m 69 then (bif Nat.beq m 68 then 21 else 9999) else (bif Nat.blt m 70 then (bif Nat.beq m 69 then 23 else 9999) else (bif Nat.beq m 70 then 73 else 9999)))) else (bif Nat.blt m 74 then (bif Nat.blt m 72 then (bif Nat.beq m 71 then 94 else 9999) else (bif Nat.blt m 73 then (bif Nat.beq m 72 then 0 else 9999) else (bif Nat.beq m 73 then 20 else 9999))) else (bif Nat.blt m 75 then (bif Nat.beq m 74 then 45 else 9999) else (bif Nat.blt m 76 then (bif Nat.beq m 75 then 73 else 9999) else (bif Nat.beq m 76 then 0 else 9999))))) else (bif Nat.blt m 82 then (bif Nat.blt m 79 then (bif Nat.blt m 78 then (bif Nat.beq m 77 then 0 else 9999) else (bif Nat.beq m 78 then 73 else 9999)) else (bif Nat.blt m 80 then (bif Nat.beq m 79 then 0 else 9999) else (bif Nat.blt m 81 then (bif Nat.beq m 80 then 0 else 9999) else (bif Nat.beq m 81 then 98 else 9999)))) else (bif Nat.blt m 85 then (bif Nat.blt m 83 then (bif Nat.beq m 82 then 0 else 9999) else (bif Nat.blt m 84 then (bif Nat.beq m 83 then 75 else 9999) else (bif Nat.beq m 84 then 47 else 9999))) else (bif Nat.blt m 86 then (bif Nat.beq m 85 then 0 else 9999) else (bif Nat.blt m 87 then (bif Nat.beq m 86 then 45 else 9999) else (bif Nat.beq m 87 then 67 else 9999)))))))) else (bif Nat.blt m 132 then (bif Nat.blt m 110 then (bif Nat.blt m 99 then (bif Nat.blt m 93 then (bif Nat.blt m 90 then (bif Nat.blt m 89 then (bif Nat.beq m 88 then 22 else 9999) else (bif Nat.beq m 89 then 23 else 9999)) else (bif Nat.blt m 91 then (bif Nat.beq m 90 then 114 else 9999) else (bif Nat.blt m 92 then (bif Nat.beq m 91 then 90 else 9999) else (bif Nat.beq m 92 then 115 else 9999)))) else (bif Nat.blt m 96 then (bif Nat.blt m 94 then (bif Nat.beq m 93 then 93 else 9999) else (bif Nat.blt m 95 then (bif Nat.beq m 94 then 93 else 9999) else (bif Nat.beq m 95 then 70 else 9999))) else (bif Nat.blt m 97 then (bif Nat.beq m 96 then 46 else 9999) else (bif Nat.blt m 98 then (bif Nat.beq m 97 then 92 else 9999) else (bif Nat.beq m 98 then 67 else 9999))))) else (bif Nat.blt m 104 then (bif Nat.blt m 101 then (bif Nat.blt m 100 then (bif Nat.beq m 99 then 44 else 9999) else (bif Nat.beq m 100 then 22 else 9999)) else (bif Nat.blt m 102 then (bif Nat.beq m 101 then 60 else 9999) else (bif Nat.blt m 103 then (bif Nat.beq m 102 then 0 else 9999) else (bif Nat.beq m 103 then 0 else 9999)))) else (bif Nat.blt m 107 then (bif Nat.blt m 105 then (bif Nat.beq m 104 then 0 else 9999) else (bif Nat.blt m 106 then (bif Nat.beq m 105 then 0 else 9999) else (bif Nat.beq m 106 then 0 else 9999))) else (bif Nat.blt m 108 then (bif Nat.beq m 107 then 0 else 9999) else (bif Nat.blt m 109 then (bif Nat.beq m 108 then 67 else 9999) else (bif Nat.beq m 109 then 45 else 9999)))))) else (bif Nat.blt m 121 then (bif Nat.blt m 115 then (bif Nat.blt m 112 then (bif Nat.blt m 111 then (bif Nat.beq m 110 then 45 else 9999) else (bif Nat.beq m 111 then 22 else 9999)) else (bif Nat.blt m 113 then (bif Nat.beq m 112 then 0 else 9999) else (bif Nat.blt m 114 then (bif Nat.beq m 113 then 0 else 9999) else (bif Nat.beq m 114 then 0 else 9999)))) else (bif Nat.blt m 118 then (bif Nat.blt m 116 then (bif Nat.beq m 115 then 132 else 9999) else (bif Nat.blt m 117 then (bif Nat.beq m 116 then 110 else 9999) else (bif Nat.beq m 117 then 23 else 9999))) else (bif Nat.blt m 119 then (bif Nat.beq m 118 then 86 else 9999) else (bif Nat.blt m 120 then (bif Nat.beq m 119 then 22 else 9999) else (bif Nat.beq m 120 then 0 else 9999))))) else (bif Nat.blt m 126 then (bif Nat.blt m 123 then (bif Nat.blt m 122 then (bif Nat.beq m 121 then 0 else 9999) else (bif Nat.beq m 122 then 112 else 9999)) else (bif Nat.blt m 124 then (bif Nat.beq m 123 then 80 else 9999) else (bif Nat.blt m 125 then (bif Nat.beq m 124 then 89 else 9999) else (bif Nat.beq m 125 then 67 else 9999)))) else (bif Nat.blt m 129 then (bif Nat.blt m 127 then (bif Nat.beq m 126 then 21 else 9999) else (bif Nat.blt m 128 then (bif Nat.beq m 127 then 21 else 9999) else (bif Nat.beq m 128 then 44 else 9999))) else (bif Nat.blt m 130 then (bif Nat.beq m 129 then 22 else 9999) else (bif Nat.blt m 131 then (bif Nat.beq m 130 then 21 else 9999) else (bif Nat.beq m 131 then 0 else 9999))))))) else (bif Nat.blt m 154 then (bif Nat.blt m 143 then (bif Nat.blt m 137 then (bif Nat.blt m 134 then (bif Nat.blt m 133 then (bif Nat.beq m 132 then 95 else 9999) else (bif Nat.beq m 133 then 0 else 9999)) else (bif Nat.blt m 135 then (bif Nat.beq m 134 then 22 else 9999) else (bif Nat.blt m 136 then (bif Nat.beq m 135 then 60 else 9999) else (bif Nat.beq m 136 then 22 else 9999)))) else (bif Nat.blt m 140 then (bif Nat.blt m 138 then (bif Nat.beq m 137 then 72 else 9999) else (bif Nat.blt m 139 then (bif Nat.beq m 138 then 47 else 9999) else (bif Nat.beq m 139 then 104 else 9999))) else (bif Nat.blt m 141 then (bif Nat.beq m 140 then 0 else 9999) else (bif Nat.blt m 142 then (bif Nat.beq m 141 then 0 else 9999) else (bif Nat.beq m 142 then 0 else 9999))))) else (bif Nat.blt m 148 then (bif Nat.blt m 145 then (bif Nat.blt m 144 then (bif Nat.beq m 143 then 23 else 9999) else (bif Nat.beq m 144 then 60 else 9999)) else (bif Nat.blt m 146 then (bif Nat.beq m 145 then 81 else 9999) else (bif Nat.blt m 147 then (bif Nat.beq m 146 then 0 else 9999) else (bif Nat.beq m 147 then 22 else 9999)))) else (bif Nat.blt m 151 then (bif Nat.blt m 149 then (bif Nat.beq m 148 then 0 else 9999) else (bif Nat.blt m 150 then (bif Nat.beq m 149 then 60 else 9999) else (bif Nat.beq m 150 then 23 else 9999))) else (bif Nat.blt m 152 then (bif Nat.beq m 151 then 0 else 9999) else (bif Nat.blt m 153 then (bif Nat.beq m 152 then 0 else 9999) else (bif Nat.beq m 153 then 47 else 9999)))))) else (bif Nat.blt m 165 then (bif Nat.blt m 159 then (bif Nat.blt m 156 then (bif Nat.blt m 155 then (bif Nat.beq m 154 then 0 else 9999) else (bif Nat.beq m 155 then 22 else 9999)) else (bif Nat.blt m 157 then (bif Nat.beq m 156 then 0 else 9999) else (bif Nat.blt m 158 then (bif Nat.beq m 157 then 0 else 9999) else (bif Nat.beq m 158 then 0 else 9999)))) else (bif Nat.blt m 162 then (bif Nat.blt m 160 then (bif Nat.beq m 159 then 60 else 9999) else (bif Nat.blt m 161 then (bif Nat.beq m 160 then 114 else 9999) else (bif Nat.beq m 161 then 156 else 9999))) else (bif Nat.blt m 163 then (bif Nat.beq m 162 then 133 else 9999) else (bif Nat.blt m 164 then (bif Nat.beq m 163 then 133 else 9999) else (bif Nat.beq m 164 then 133 else 9999))))) else (bif Nat.blt m 170 then (bif Nat.blt m 167 then (bif Nat.blt m 166 then (bif Nat.beq m 165 then 134 else 9999) else (bif Nat.beq m 166 then 134 else 9999)) else (bif Nat.blt m 168 then (bif Nat.beq m 167 then 137 else 9999) else (bif Nat.blt m 169 then (bif Nat.beq m 168 then 138 else 9999) else (bif Nat.beq m 169 then 132 else 9999)))) else (bif Nat.blt m 173 then (bif Nat.blt m 171 then (bif Nat.beq m 170 then 176 else 9999) else (bif Nat.blt m 172 then (bif Nat.beq m 171 then 111 else 9999) else (bif Nat.beq m 172 then 158 else 9999))) else (bif Nat.blt m 174 then (bif Nat.beq m 173 then 133 else 9999) else (bif Nat.blt m 175 then (bif Nat.beq m 174 then 133 else 9999) else (bif Nat.beq m 175 then 199 else 9999))))))))
end
section
/-! A small pure reading of bytecode. Values: an int, a long, the number of a cell, nothing known. A state: cell, place -> value. -/
abbrev q_J : Type := Int ⊕ (Nat ⊕ Unit)
abbrev q_V : Type := q_J ⊕ Int
abbrev q_S : Type := Nat → Int → Int
abbrev vJ (j : q_J) : q_V := .inl j
abbrev vI (a : Int) : q_V := .inl (.inl a)
abbrev vL (a : Int) : q_V := .inr a
abbrev vR (k : Nat) : q_V := .inl (.inr (.inl k))
abbrev vU : q_V := .inl (.inr (.inr ()))
abbrev q_K : Type := Nat → List q_V → List q_V → q_S → Prop
abbrev q_Q : Type := Int → q_S → Prop
abbrev q_Z : Type := Nat → q_S → Prop
abbrev q_G : Type := Nat → List q_V → q_S → q_Q → q_Z → Prop
def q_rg (x : Int) : Prop := -2147483648 ≤ x ∧ x ≤ 2147483647
def q_bo (x : Int) : Prop := 0 ≤ x ∧ x ≤ 1
def q_ch (x : Int) : Prop := 0 ≤ x ∧ x ≤ 65535
def q_up (S : q_S) (k : Nat) (i v : Int) : q_S := fun a => bif Nat.beq a k then (fun b => if b = i then v else S k b) else S a
def q_fil (S : q_S) (k : Nat) (v : Int) : q_S := fun a => bif Nat.beq a k then (fun _ => v) else S a
def q_cpy (S : q_S) (ks : Nat) (sp : Int) (kd : Nat) (dp n : Int) : q_S := fun a => bif Nat.beq a kd then (fun b => if dp ≤ b ∧ b < dp + n then S ks (sp + (b - dp)) else S kd b) else S a
def q_and (a b : Int) : Int := (Int32.ofInt a &&& Int32.ofInt b).toInt
def q_or (a b : Int) : Int := (Int32.ofInt a ||| Int32.ofInt b).toInt
def q_xor (a b : Int) : Int := (Int32.ofInt a ^^^ Int32.ofInt b).toInt
def q_shl (a b : Int) : Int := (Int32.ofInt a <<< (Int32.ofInt b &&& 31)).toInt
def q_shr (a b : Int) : Int := (Int32.ofInt a >>> (Int32.ofInt b &&& 31)).toInt
def q_wand (a b : Int) : Int := (Int64.ofInt a &&& Int64.ofInt b).toInt
def q_wor (a b : Int) : Int := (Int64.ofInt a ||| Int64.ofInt b).toInt
def q_wxor (a b : Int) : Int := (Int64.ofInt a ^^^ Int64.ofInt b).toInt
def q_wsub (a b : Int) : Int := (Int64.ofInt a - Int64.ofInt b).toInt
def q_wshl (a b : Int) : Int := (Int64.ofInt a <<< ((Int32.ofInt b).toInt64 &&& 63)).toInt
def q_wshr (a b : Int) : Int := (Int64.ofInt a >>> ((Int32.ofInt b).toInt64 &&& 63)).toInt
def q_wush (a b : Int) : Int := ((Int64.ofInt a).toUInt64 >>> ((Int32.ofInt b).toInt64.toUInt64 &&& Int64.toUInt64 63)).toInt64.toInt
def q_wint (a : Int) : Int := (Int64.ofInt a).toInt32.toInt
def q_wcmp (a b : Int) : Int := if a < b then -1 else if a = b then 0 else 1
-- readers of operand stack and locals
def q_gI (v : Option q_V) (f : Int → Prop) : Prop := match v with | some (.inl (.inl a)) => f a | _ => False
def q_gL (v : Option q_V) (f : Int → Prop) : Prop := match v with | some (.inr a) => f a | _ => False
def q_gR (v : Option q_V) (f : Nat → Prop) : Prop := match v with | some (.inl (.inr (.inl k))) => f k | _ => False
def q_i1 (st : List q_V) (f : Int → List q_V → Prop) : Prop := match st with | .inl (.inl a) :: r => f a r | _ => False
def q_i2 (st : List q_V) (f : Int → Int → List q_V → Prop) : Prop := match st with | .inl (.inl b) :: .inl (.inl a) :: r => f a b r | _ => False
def q_l1 (st : List q_V) (f : Int → List q_V → Prop) : Prop := match st with | .inr a :: r => f a r | _ => False
def q_l2 (st : List q_V) (f : Int → Int → List q_V → Prop) : Prop := match st with | .inr b :: .inr a :: r => f a b r | _ => False
def q_li (st : List q_V) (f : Int → Int → List q_V → Prop) : Prop := match st with | .inl (.inl b) :: .inr a :: r => f a b r | _ => False
def q_r1 (st : List q_V) (f : Nat → List q_V → Prop) : Prop := match st with | .inl (.inr (.inl k)) :: r => f k r | _ => False
def q_ri (st : List q_V) (f : Nat → Int → List q_V → Prop) : Prop := match st with | .inl (.inl i) :: .inl (.inr (.inl k)) :: r => f k i r | _ => False
def q_rii (st : List q_V) (f : Nat → Int → Int → List q_V → Prop) : Prop := match st with | .inl (.inl v) :: .inl (.inl i) :: .inl (.inr (.inl k)) :: r => f k i v r | _ => False
def q_ril (st : List q_V) (f : Nat → Int → Int → List q_V → Prop) : Prop := match st with | .inr v :: .inl (.inl i) :: .inl (.inr (.inl k)) :: r => f k i v r | _ => False
def q_cmp (c : Jvm.ClassFile.Cond) (a b : Int) : Prop := match c with | .eq => a = b | .ne => a ≠ b | .lt => a < b | .ge => a ≥ b | .gt => a > b | .le => a ≤ b
def q_tg (pc : Nat) (off : Int) : Nat := ((pc : Int) + off).toNat
def q_sw (pc : Nat) (a : Int) (k : Nat → Prop) : Int → List Int → Prop
  | _, [] => True
  | lo, o :: os => (a = lo → k (q_tg pc o)) ∧ q_sw pc a k (lo + 1) os
def q_lw (pc : Nat) (a : Int) (k : Nat → Prop) (d : Int) : List (Int × Int) → Prop
  | [] => k (q_tg pc d)
  | (v, o) :: os => (a = v → k (q_tg pc o)) ∧ (¬ a = v → q_lw pc a k d os)
-- the tables, as functions
def q_fl (m x : Nat) : Option (Nat × Nat × Int) := q_fls (q_mc m) x
def q_iv (m x : Nat) : Option (Nat × Nat) := q_ivs (q_mc m) x
def q_ki (m x : Nat) : Option Int := q_kis (q_mc m) x
def q_kl (m x : Nat) : Option Int := q_kls (q_mc m) x
def q_nw (m x : Nat) : Option Nat := q_nws (q_mc m) x
/-- may a value be stored at local i: no long reaches into it -/
def q_st0 (L : List q_V) (i : Nat) : Bool := match i with
  | 0 => true
  | i + 1 => match L[i]? with | some (.inr _) => false | _ => true
/-- the four instructions of 'throw new E()' -/
def q_pat (m pc x : Nat) : Option Nat := match q_cd m (pc + 3), q_cd m (pc + 4), q_cd m (pc + 7) with
  | some (.dup, 1), some (.invokespecial y, 3), some (.athrow, 1) => (match q_iv m y, q_nw m x with | some (c, 1), some e => (bif Nat.beq c (2000 + e) then some e else none) | _, _ => none)
  | _, _, _ => none
def q_gv (S : q_S) (k : Nat) (j : Int) (f : q_V → Prop) (t : Nat) : Prop := match t with | 0 => f (vI (S k j)) | 1 => f (vI (S k j)) | 2 => f (vL (S k j)) | t + 3 => f (vR t)
def q_gf (m x k : Nat) (S : q_S) (f : q_V → Prop) : Prop := match q_fl m x, q_ob k with
  | some (ci, j, jj), some (c, fs) => (bif Nat.beq ci c then (match fs[j]? with | some t => q_gv S k jj f t | none => False) else False)
  | _, _ => False
def q_pv (S : q_S) (k : Nat) (j : Int) (v : q_V) (f : q_S → Prop) (t : Nat) : Prop := match t, v with
  | 0, .inl (.inl a) => f (q_up S k j a)
  | 1, .inl (.inl a) => q_bo a ∧ f (q_up S k j a)
  | 2, .inr a => f (q_up S k j a)
  | _, _ => False
def q_pf (m x : Nat) (st : List q_V) (S : q_S) (f : List q_V → q_S → Prop) : Prop := match st with
  | v :: .inl (.inr (.inl k)) :: r => (match q_fl m x, q_ob k with
    | some (ci, j, jj), some (c, fs) => (bif Nat.beq ci c then (match fs[j]? with | some t => q_pv S k jj v (f r) t | none => False) else False)
    | _, _ => False)
  | _ => False
/-- an array's length; the script's (cell 63) stands in cell 64 -/
def q_ln (k : Nat) (S : q_S) (f : Int → Prop) : Prop := bif Nat.beq k 63 then f (S 64 0) else (match q_ar k with | some (_, n) => f n | none => False)
def q_al (ty k : Nat) (i : Int) (S : q_S) (f : Int → Prop) : Prop :=
  bif Nat.beq k 63 then (bif Nat.beq ty 0 then 0 ≤ i ∧ i < S 64 0 ∧ f (S 63 i) else False)
  else (match q_ar k with | some (t, n) => (bif Nat.beq t ty then 0 ≤ i ∧ i < n ∧ f (S k i) else False) | none => False)
def q_at (ty k : Nat) (i : Int) (f : Prop) : Prop := match q_ar k with | some (t, n) => (bif Nat.beq t ty then 0 ≤ i ∧ i < n ∧ f else False) | none => False
def q_ia (k : Nat) : Option Int := match q_ar k with | some (0, n) => some n | _ => none
/-- System.arraycopy of int arrays -/
def q_ac (st : List q_V) (S : q_S) (f : List q_V → q_S → Prop) : Prop := match st with
  | .inl (.inl n) :: .inl (.inl dp) :: .inl (.inr (.inl kd)) :: .inl (.inl sp) :: .inl (.inr (.inl ks)) :: r => (match q_ia ks, q_ia kd with
    | some a, some b => (0 ≤ sp ∧ 0 ≤ dp ∧ 0 ≤ n ∧ sp + n ≤ a ∧ dp + n ≤ b) ∧ f r (q_cpy S ks sp kd dp n)
    | _, _ => False)
  | _ => False
/-- Arrays.fill of an int array -/
def q_af (st : List q_V) (S : q_S) (f : List q_V → q_S → Prop) : Prop := match st with
  | .inl (.inl v) :: .inl (.inr (.inl k)) :: r => (match q_ia k with | some _ => f r (q_fil S k v) | none => False)
  | _ => False
/-- an exception at pc: the first handler that takes it -/
def q_hn (pc e : Nat) (k : Nat → Nat → Prop) (z : Prop) : List (Nat × Nat × Nat × Nat × Nat × Nat) → Prop
  | [] => z
  | (a, b, e', _, n, i) :: r => bif Nat.ble a pc && Nat.blt pc b then (bif Nat.beq e' e then k n i else q_hn pc e k z r) else q_hn pc e k z r
def q_rs (y : Nat) (a : Int) (r : List q_V) : List q_V := match q_rt y with | 0 => r | _ => vI a :: r
def q_cl (C : q_G) (m x pc n : Nat) (L st : List q_V) (S : q_S) (K : q_K) (Z : q_Z) : Prop := match q_iv m x with
  | some (y, c) => (bif Nat.beq y 1000 then q_ac st S (fun r S' => K n L r S')
    else bif Nat.beq y 1001 then q_af st S (fun r S' => K n L r S')
    else bif Nat.ble c st.length && Nat.blt y 1000 then C y (st.take c).reverse S (fun a S' => K n L (q_rs y a (st.drop c)) S') (fun e S' => q_hn pc e (fun h i => K h (L.set i vU) [] S') (Z e S') (q_hd m))
    else False)
  | none => False
def q_ret (m : Nat) (st : List q_V) (S : q_S) (Q : q_Q) : Prop := match st with
  | [.inl (.inl a)] => (match q_rt m with | 1 => Q a S | 2 => q_bo a ∧ Q a S | _ => False)
  | _ => False
def q_rev (m : Nat) (st : List q_V) (S : q_S) (Q : q_Q) : Prop := match st with
  | [] => (match q_rt m with | 0 => Q 0 S | _ => False)
  | _ => False
def q_is (L : List q_V) (st : List q_V) (j : Nat) (f : List q_V → List q_V → Prop) : Prop := q_i1 st (fun a r => (bif Nat.blt j L.length && q_st0 L j then f (L.set j (vI a)) r else False))
def q_dup (st : List q_V) (f : List q_V → Prop) : Prop := match st with | .inl (.inl a) :: r => f (vI a :: vI a :: r) | .inl (.inr (.inl k)) :: r => f (vR k :: vR k :: r) | _ => False
def q_du2 (st : List q_V) (f : List q_V → Prop) : Prop := match st with | .inl (.inl a) :: .inl (.inr (.inl k)) :: r => f (vI a :: vR k :: vI a :: vR k :: r) | _ => False
def q_pop (st : List q_V) (f : List q_V → Prop) : Prop := match st with | .inl (.inl _) :: r => f r | .inl (.inr (.inl _)) :: r => f r | _ => False
def q_ex (C : q_G) (m : Nat) (i : Instr) (pc n : Nat) (L st : List q_V) (S : q_S) (K : q_K) (Q : q_Q) (Z : q_Z) : Prop :=
  match i with
  | .iconst c => K n L (vI c :: st) S
  | .bipush c => K n L (vI c :: st) S
  | .sipush c => K n L (vI c :: st) S
  | .lconst c => K n L (vL (c.val : Int) :: st) S
  | .ldc x => (match q_ki m x with | some c => K n L (vI c :: st) S | none => False)
  | .ldc2_w x => (match q_kl m x with | some c => K n L (vL c :: st) S | none => False)
  | .iload j => q_gI L[j]? (fun a => K n L (vI a :: st) S)
  | .iload_n j => q_gI L[j.val]? (fun a => K n L (vI a :: st) S)
  | .lload j => q_gL L[j]? (fun a => K n L (vL a :: st) S)
  | .lload_n j => q_gL L[j.val]? (fun a => K n L (vL a :: st) S)
  | .aload j => q_gR L[j]? (fun k => K n L (vR k :: st) S)
  | .aload_n j => q_gR L[j.val]? (fun k => K n L (vR k :: st) S)
  | .istore j => q_is L st j (fun L' r => K n L' r S)
  | .istore_n j => q_is L st j.val (fun L' r => K n L' r S)
  | .iinc j c => q_gI L[j]? (fun a => q_rg (a + c) ∧ K n (L.set j (vI (a + c))) st S)
  | .iadd => q_i2 st (fun a b r => q_rg (a + b) ∧ K n L (vI (a + b) :: r) S)
  | .isub => q_i2 st (fun a b r => q_rg (a - b) ∧ K n L (vI (a - b) :: r) S)
  | .imul => q_i2 st (fun a b r => q_rg (a * b) ∧ K n L (vI (a * b) :: r) S)
  | .idiv => q_i2 st (fun a b r => 0 ≤ a ∧ 0 < b ∧ K n L (vI (a / b) :: r) S)
  | .irem => q_i2 st (fun a b r => 0 ≤ a ∧ 0 < b ∧ K n L (vI (a % b) :: r) S)
  | .iand => q_i2 st (fun a b r => K n L (vI (q_and a b) :: r) S)
  | .ior => q_i2 st (fun a b r => K n L (vI (q_or a b) :: r) S)
  | .ixor => q_i2 st (fun a b r => K n L (vI (q_xor a b) :: r) S)
  | .ishl => q_i2 st (fun a b r => K n L (vI (q_shl a b) :: r) S)
  | .ishr => q_i2 st (fun a b r => K n L (vI (q_shr a b) :: r) S)
  | .land => q_l2 st (fun a b r => K n L (vL (q_wand a b) :: r) S)
  | .lor => q_l2 st (fun a b r => K n L (vL (q_wor a b) :: r) S)
  | .lxor => q_l2 st (fun a b r => K n L (vL (q_wxor a b) :: r) S)
  | .lsub => q_l2 st (fun a b r => K n L (vL (q_wsub a b) :: r) S)
  | .lshl => q_li st (fun a b r => K n L (vL (q_wshl a b) :: r) S)
  | .lshr => q_li st (fun a b r => K n L (vL (q_wshr a b) :: r) S)
  | .lushr => q_li st (fun a b r => K n L (vL (q_wush a b) :: r) S)
  | .lcmp => q_l2 st (fun a b r => K n L (vI (q_wcmp a b) :: r) S)
  | .i2l => q_i1 st (fun a r => K n L (vL a :: r) S)
  | .l2i => q_l1 st (fun a r => K n L (vI (q_wint a) :: r) S)
  | .i2c => q_i1 st (fun a r => K n L (vI (a % 65536) :: r) S)
  | .dup => q_dup st (fun r => K n L r S)
  | .dup2 => q_du2 st (fun r => K n L r S)
  | .pop => q_pop st (fun r => K n L r S)
  | .goto o => K (q_tg pc o) L st S
  | .ifCond c o => q_i1 st (fun a r => (q_cmp c a 0 → K (q_tg pc o) L r S) ∧ (¬ q_cmp c a 0 → K n L r S))
  | .if_icmp c o => q_i2 st (fun a b r => (q_cmp c a b → K (q_tg pc o) L r S) ∧ (¬ q_cmp c a b → K n L r S))
  | .tableswitch d lo hi os => q_i1 st (fun a r => q_sw pc a (fun t => K t L r S) lo os.toList ∧ ((a < lo ∨ hi < a) → K (q_tg pc d) L r S))
  | .lookupswitch d ps => q_i1 st (fun a r => q_lw pc a (fun t => K t L r S) d ps.toList)
  | .getfield x => q_r1 st (fun k r => q_gf m x k S (fun v => K n L (v :: r) S))
  | .putfield x => q_pf m x st S (fun r S' => K n L r S')
  | .iaload => q_ri st (fun k i r => q_al 0 k i S (fun a => K n L (vI a :: r) S))
  | .baload => q_ri st (fun k i r => q_al 1 k i S (fun a => K n L (vI a :: r) S))
  | .caload => q_ri st (fun k i r => q_al 2 k i S (fun a => K n L (vI a :: r) S))
  | .laload => q_ri st (fun k i r => q_al 3 k i S (fun a => K n L (vL a :: r) S))
  | .iastore => q_rii st (fun k i v r => q_at 0 k i (K n L r (q_up S k i v)))
  | .bastore => q_rii st (fun k i v r => q_at 1 k i (q_bo v ∧ K n L r (q_up S k i v)))
  | .castore => q_rii st (fun k i v r => q_at 2 k i (q_ch v ∧ K n L r (q_up S k i v)))
  | .lastore => q_ril st (fun k i v r => q_at 3 k i (K n L r (q_up S k i v)))
  | .arraylength => q_r1 st (fun k r => q_ln k S (fun a => K n L (vI a :: r) S))
  | .invokevirtual x => q_cl C m x pc n L st S K Z
  | .invokestatic x => q_cl C m x pc n L st S K Z
  | .new x => (match q_pat m pc x with | some e => Z e S | none => False)
  | .ireturn => q_ret m st S Q
  | .return_ => q_rev m st S Q
  | _ => False
def q_st (C : q_G) (m pc : Nat) (L st : List q_V) (S : q_S) (K : q_K) (Q : q_Q) (Z : q_Z) : Prop :=
  match q_cd m pc with | some (i, len) => q_ex C m i pc (pc + len) L st S K Q Z | none => False
/-- arguments as locals: a long takes two -/
def q_exp : List q_V → List q_V
  | [] => []
  | .inr a :: r => vL a :: vU :: q_exp r
  | .inl u :: r => .inl u :: q_exp r
def q_padn : Nat → List q_V → List q_V
  | 0, _ => []
  | n + 1, [] => vU :: q_padn n []
  | n + 1, v :: r => v :: q_padn n r
def q_pad (y : Nat) (as : List q_V) : List q_V := q_padn (q_ml y) (q_exp as)
abbrev q_KK : Type := Nat → Nat → List q_V → List q_V → q_S → q_Q → q_Z → Prop
def q_Cof (F : q_KK) : q_G := fun y as S Q Z => F y 0 (q_pad y as) [] S Q Z
def q_closed (F : q_KK) : Prop := ∀ m pc L st S Q Z, q_st (q_Cof F) m pc L st S (fun pc L st S => F m pc L st S Q Z) Q Z → F m pc L st S Q Z
/-- the run from a place in a method comes to an end with Q (a return) or Z (a throw): the least predicate closed backwards -/
def q_r : q_KK := fun m pc L st S Q Z => ∀ F, q_closed F → F m pc L st S Q Z
def q_c : q_G := q_Cof q_r
section Mono
theorem q_gI_m {v : Option q_V} {f g : Int → Prop} (k : ∀ a, f a → g a) (h : q_gI v f) : q_gI v g := by
  unfold q_gI at *; split at h <;> first | exact k _ h | exact h.elim
theorem q_gL_m {v : Option q_V} {f g : Int → Prop} (k : ∀ a, f a → g a) (h : q_gL v f) : q_gL v g := by
  unfold q_gL at *; split at h <;> first | exact k _ h | exact h.elim
theorem q_gR_m {v : Option q_V} {f g : Nat → Prop} (k : ∀ a, f a → g a) (h : q_gR v f) : q_gR v g := by
  unfold q_gR at *; split at h <;> first | exact k _ h | exact h.elim
theorem q_i1_m {st : List q_V} {f g : Int → List q_V → Prop} (k : ∀ a r, f a r → g a r) (h : q_i1 st f) : q_i1 st g := by
  unfold q_i1 at *; split at h <;> first | exact k _ _ h | exact h.elim
theorem q_i2_m {st : List q_V} {f g : Int → Int → List q_V → Prop} (k : ∀ a b r, f a b r → g a b r) (h : q_i2 st f) : q_i2 st g := by
  unfold q_i2 at *; split at h <;> first | exact k _ _ _ h | exact h.elim
theorem q_l1_m {st : List q_V} {f g : Int → List q_V → Prop} (k : ∀ a r, f a r → g a r) (h : q_l1 st f) : q_l1 st g := by
  unfold q_l1 at *; split at h <;> first | exact k _ _ h | exact h.elim
theorem q_l2_m {st : List q_V} {f g : Int → Int → List q_V → Prop} (k : ∀ a b r, f a b r → g a b r) (h : q_l2 st f) : q_l2 st g := by
  unfold q_l2 at *; split at h <;> first | exact k _ _ _ h | exact h.elim
theorem q_li_m {st : List q_V} {f g : Int → Int → List q_V → Prop} (k : ∀ a b r, f a b r → g a b r) (h : q_li st f) : q_li st g := by
  unfold q_li at *; split at h <;> first | exact k _ _ _ h | exact h.elim
theorem q_r1_m {st : List q_V} {f g : Nat → List q_V → Prop} (k : ∀ a r, f a r → g a r) (h : q_r1 st f) : q_r1 st g := by
  unfold q_r1 at *; split at h <;> first | exact k _ _ h | exact h.elim
theorem q_ri_m {st : List q_V} {f g : Nat → Int → List q_V → Prop} (k : ∀ a b r, f a b r → g a b r) (h : q_ri st f) : q_ri st g := by
  unfold q_ri at *; split at h <;> first | exact k _ _ _ h | exact h.elim
theorem q_rii_m {st : List q_V} {f g : Nat → Int → Int → List q_V → Prop} (k : ∀ a b c r, f a b c r → g a b c r) (h : q_rii st f) : q_rii st g := by
  unfold q_rii at *; split at h <;> first | exact k _ _ _ _ h | exact h.elim
theorem q_ril_m {st : List q_V} {f g : Nat → Int → Int → List q_V → Prop} (k : ∀ a b c r, f a b c r → g a b c r) (h : q_ril st f) : q_ril st g := by
  unfold q_ril at *; split at h <;> first | exact k _ _ _ _ h | exact h.elim
theorem q_sw_m {pc : Nat} {a : Int} {f g : Nat → Prop} (k : ∀ t, f t → g t) : ∀ {lo : Int} {os : List Int}, q_sw pc a f lo os → q_sw pc a g lo os
  | _, [], _ => trivial
  | _, _ :: _, h => ⟨fun e => k _ (h.1 e), q_sw_m k h.2⟩
theorem q_lw_m {pc : Nat} {a : Int} {f g : Nat → Prop} (k : ∀ t, f t → g t) {d : Int} : ∀ {os : List (Int × Int)}, q_lw pc a f d os → q_lw pc a g d os
  | [], h => k _ h
  | _ :: _, h => ⟨fun e => k _ (h.1 e), fun e => q_lw_m k (h.2 e)⟩
theorem q_gv_m {S : q_S} {c : Nat} {j : Int} {f g : q_V → Prop} (k : ∀ v, f v → g v) {t : Nat} (h : q_gv S c j f t) : q_gv S c j g t := by
  unfold q_gv at *; split at h <;> exact k _ h
theorem q_gf_m {m x c : Nat} {S : q_S} {f g : q_V → Prop} (k : ∀ v, f v → g v) (h : q_gf m x c S f) : q_gf m x c S g := by
  unfold q_gf at *
  split at h
  · rename_i ci j jj c fs _ _
    cases hb : Nat.beq ci c <;> rw [hb] at h
    · exact h.elim
    · simp only [cond_true] at h ⊢
      split at h
      · exact q_gv_m k h
      · exact h.elim
  · exact h.elim
theorem q_pv_m {S : q_S} {c : Nat} {j : Int} {v : q_V} {f g : q_S → Prop} (k : ∀ v, f v → g v) {t : Nat} (h : q_pv S c j v f t) : q_pv S c j v g t := by
  unfold q_pv at *
  split at h
  · exact k _ h
  · exact ⟨h.1, k _ h.2⟩
  · exact k _ h
  · exact h.elim
theorem q_pf_m {m x : Nat} {st : List q_V} {S : q_S} {f g : List q_V → q_S → Prop} (k : ∀ r v, f r v → g r v) (h : q_pf m x st S f) : q_pf m x st S g := by
  unfold q_pf at *
  split at h
  · split at h
    · rename_i ci j jj c fs _ _
      cases hb : Nat.beq ci c <;> rw [hb] at h
      · exact h.elim
      · simp only [cond_true] at h ⊢
        split at h
        · exact q_pv_m (k _) h
        · exact h.elim
    · exact h.elim
  · exact h.elim
theorem q_ln_m {c : Nat} {S : q_S} {f g : Int → Prop} (k : ∀ a, f a → g a) (h : q_ln c S f) : q_ln c S g := by
  unfold q_ln at *
  cases hb : Nat.beq c 63 <;> rw [hb] at h
  · simp only [cond_false] at h ⊢
    split at h
    · exact k _ h
    · exact h.elim
  · exact k _ h
theorem q_al_m {ty c : Nat} {i : Int} {S : q_S} {f g : Int → Prop} (k : ∀ a, f a → g a) (h : q_al ty c i S f) : q_al ty c i S g := by
  unfold q_al at *
  cases hb : Nat.beq c 63 <;> rw [hb] at h
  · simp only [cond_false] at h ⊢
    split at h
    · rename_i t n _
      cases ht : Nat.beq t ty <;> rw [ht] at h
      · exact h.elim
      · exact ⟨h.1, h.2.1, k _ h.2.2⟩
    · exact h.elim
  · simp only [cond_true] at h ⊢
    cases ht : Nat.beq ty 0 <;> rw [ht] at h
    · exact h.elim
    · exact ⟨h.1, h.2.1, k _ h.2.2⟩
theorem q_at_m {ty c : Nat} {i : Int} {f g : Prop} (k : f → g) (h : q_at ty c i f) : q_at ty c i g := by
  unfold q_at at *
  split at h
  · rename_i t n _
    cases ht : Nat.beq t ty <;> rw [ht] at h
    · exact h.elim
    · exact ⟨h.1, h.2.1, k h.2.2⟩
  · exact h.elim
theorem q_ac_m {st : List q_V} {S : q_S} {f g : List q_V → q_S → Prop} (k : ∀ r v, f r v → g r v) (h : q_ac st S f) : q_ac st S g := by
  unfold q_ac at *
  split at h
  · split at h
    · exact ⟨h.1, k _ _ h.2⟩
    · exact h.elim
  · exact h.elim
theorem q_af_m {st : List q_V} {S : q_S} {f g : List q_V → q_S → Prop} (k : ∀ r v, f r v → g r v) (h : q_af st S f) : q_af st S g := by
  unfold q_af at *
  split at h
  · split at h
    · exact k _ _ h
    · exact h.elim
  · exact h.elim
theorem q_hn_m {pc e : Nat} {f g : Nat → Nat → Prop} {z z' : Prop} (k : ∀ n i, f n i → g n i) (kz : z → z') : ∀ {rs : List (Nat × Nat × Nat × Nat × Nat × Nat)}, q_hn pc e f z rs → q_hn pc e g z' rs
  | [], h => kz h
  | (a, b, e', _, n, i) :: r, h => by
    unfold q_hn at *
    cases h1 : (Nat.ble a pc && Nat.blt pc b) <;> rw [h1] at h
    · exact q_hn_m k kz h
    · simp only [cond_true] at h ⊢
      cases h2 : Nat.beq e' e <;> rw [h2] at h
      · exact q_hn_m k kz h
      · exact k _ _ h
def q_Cle (C C' : q_G) : Prop := ∀ y as S (Q Q' : q_Q) (Z Z' : q_Z), (∀ a S', Q a S' → Q' a S') → (∀ e S', Z e S' → Z' e S') → C y as S Q Z → C' y as S Q' Z'
theorem q_cl_m {C C' : q_G} {m x pc n : Nat} {L st : List q_V} {S : q_S} {K K' : q_K} {Z Z' : q_Z} (kC : q_Cle C C') (kK : ∀ pc L st S, K pc L st S → K' pc L st S) (kZ : ∀ e S, Z e S → Z' e S) (h : q_cl C m x pc n L st S K Z) : q_cl C' m x pc n L st S K' Z' := by
  unfold q_cl at *
  split at h
  · rename_i y c _
    cases h1 : Nat.beq y 1000 <;> rw [h1] at h <;> simp only [cond_true, cond_false] at h ⊢
    · cases h2 : Nat.beq y 1001 <;> rw [h2] at h <;> simp only [cond_true, cond_false] at h ⊢
      · cases h3 : (Nat.ble c st.length && Nat.blt y 1000) <;> rw [h3] at h <;> simp only [cond_true, cond_false] at h ⊢
        exact kC _ _ _ _ _ _ _ (fun a S' => kK _ _ _ _) (fun e S' => q_hn_m (fun _ _ => kK _ _ _ _) (kZ _ _)) h
      · exact q_af_m (fun _ _ => kK _ _ _ _) h
    · exact q_ac_m (fun _ _ => kK _ _ _ _) h
  · exact h.elim
theorem q_ret_m {m : Nat} {st : List q_V} {S : q_S} {Q Q' : q_Q} (k : ∀ a S, Q a S → Q' a S) (h : q_ret m st S Q) : q_ret m st S Q' := by
  unfold q_ret at *
  split at h
  · split at h
    · exact k _ _ h
    · exact ⟨h.1, k _ _ h.2⟩
    · exact h.elim
  · exact h.elim
theorem q_rev_m {m : Nat} {st : List q_V} {S : q_S} {Q Q' : q_Q} (k : ∀ a S, Q a S → Q' a S) (h : q_rev m st S Q) : q_rev m st S Q' := by
  unfold q_rev at *
  split at h
  · split at h
    · exact k _ _ h
    · exact h.elim
  · exact h.elim
theorem q_is_m {L st : List q_V} {j : Nat} {f g : List q_V → List q_V → Prop} (k : ∀ l r, f l r → g l r) (h : q_is L st j f) : q_is L st j g := by
  refine q_i1_m ?_ h
  intro a r h
  cases h1 : (Nat.blt j L.length && q_st0 L j) <;> rw [h1] at h
  · exact h.elim
  · exact k _ _ h
theorem q_dup_m {st : List q_V} {f g : List q_V → Prop} (k : ∀ r, f r → g r) (h : q_dup st f) : q_dup st g := by
  unfold q_dup at *; split at h <;> first | exact k _ h | exact h.elim
theorem q_du2_m {st : List q_V} {f g : List q_V → Prop} (k : ∀ r, f r → g r) (h : q_du2 st f) : q_du2 st g := by
  unfold q_du2 at *; split at h <;> first | exact k _ h | exact h.elim
theorem q_pop_m {st : List q_V} {f g : List q_V → Prop} (k : ∀ r, f r → g r) (h : q_pop st f) : q_pop st g := by
  unfold q_pop at *; split at h <;> first | exact k _ h | exact h.elim
theorem q_ex_m {C C' : q_G} {m : Nat} {i : Instr} {pc n : Nat} {L st : List q_V} {S : q_S} {K K' : q_K} {Q Q' : q_Q} {Z Z' : q_Z} (kC : q_Cle C C') (kK : ∀ pc L st S, K pc L st S → K' pc L st S) (kQ : ∀ a S, Q a S → Q' a S) (kZ : ∀ e S, Z e S → Z' e S)
    (h : q_ex C m i pc n L st S K Q Z) : q_ex C' m i pc n L st S K' Q' Z' := by
  unfold q_ex at *
  split at h
  all_goals first
    | exact h.elim
    | exact kK _ _ _ _ h
    | exact q_gI_m (fun a => kK _ _ _ _) h
    | exact q_gL_m (fun a => kK _ _ _ _) h
    | exact q_gR_m (fun a => kK _ _ _ _) h
    | exact q_is_m (fun _ _ => kK _ _ _ _) h
    | exact q_gI_m (fun a h => ⟨h.1, kK _ _ _ _ h.2⟩) h
    | exact q_i2_m (fun a b r h => ⟨h.1, kK _ _ _ _ h.2⟩) h
    | exact q_i2_m (fun a b r h => ⟨h.1, h.2.1, kK _ _ _ _ h.2.2⟩) h
    | exact q_i2_m (fun a b r => kK _ _ _ _) h
    | exact q_l2_m (fun a b r => kK _ _ _ _) h
    | exact q_li_m (fun a b r => kK _ _ _ _) h
    | exact q_i1_m (fun a r => kK _ _ _ _) h
    | exact q_l1_m (fun a r => kK _ _ _ _) h
    | exact q_dup_m (fun r => kK _ _ _ _) h
    | exact q_du2_m (fun r => kK _ _ _ _) h
    | exact q_pop_m (fun r => kK _ _ _ _) h
    | exact q_i1_m (fun a r h => ⟨fun e => kK _ _ _ _ (h.1 e), fun e => kK _ _ _ _ (h.2 e)⟩) h
    | exact q_i2_m (fun a b r h => ⟨fun e => kK _ _ _ _ (h.1 e), fun e => kK _ _ _ _ (h.2 e)⟩) h
    | exact q_i1_m (fun a r h => ⟨q_sw_m (fun t => kK _ _ _ _) h.1, fun e => kK _ _ _ _ (h.2 e)⟩) h
    | exact q_i1_m (fun a r h => q_lw_m (fun t => kK _ _ _ _) h) h
    | exact q_r1_m (fun k r h => q_gf_m (fun v => kK _ _ _ _) h) h
    | exact q_pf_m (fun r v => kK _ _ _ _) h
    | exact q_ri_m (fun k i r h => q_al_m (fun a => kK _ _ _ _) h) h
    | exact q_rii_m (fun k i v r h => q_at_m (kK _ _ _ _) h) h
    | exact q_rii_m (fun k i v r h => q_at_m (fun h => ⟨h.1, kK _ _ _ _ h.2⟩) h) h
    | exact q_ril_m (fun k i v r h => q_at_m (kK _ _ _ _) h) h
    | exact q_r1_m (fun k r h => q_ln_m (fun a => kK _ _ _ _) h) h
    | exact q_cl_m kC kK kZ h
    | exact q_ret_m kQ h
    | exact q_rev_m kQ h
    | (split at h <;> first | exact h.elim | exact kK _ _ _ _ h | exact kZ _ _ h)
theorem q_st_m {C C' : q_G} {m pc : Nat} {L st : List q_V} {S : q_S} {K K' : q_K} {Q Q' : q_Q} {Z Z' : q_Z} (kC : q_Cle C C') (kK : ∀ pc L st S, K pc L st S → K' pc L st S) (kQ : ∀ a S, Q a S → Q' a S) (kZ : ∀ e S, Z e S → Z' e S)
    (h : q_st C m pc L st S K Q Z) : q_st C' m pc L st S K' Q' Z' := by
  unfold q_st at *
  split at h
  · exact q_ex_m kC kK kQ kZ h
  · exact h.elim
theorem q_r_m {m pc : Nat} {L st : List q_V} {S : q_S} {Q Q' : q_Q} {Z Z' : q_Z} (kQ : ∀ a S, Q a S → Q' a S) (kZ : ∀ e S, Z e S → Z' e S) (h : q_r m pc L st S Q Z) : q_r m pc L st S Q' Z' := by
  intro F hF
  refine h (fun m pc L st S Q Z => ∀ (Q' : q_Q) (Z' : q_Z), (∀ a S, Q a S → Q' a S) → (∀ e S, Z e S → Z' e S) → F m pc L st S Q' Z') ?_ Q' Z' kQ kZ
  intro m pc L st S Q Z h Q' Z' kQ kZ
  exact hF _ _ _ _ _ _ _ (q_st_m (fun y as S Q1 Q1' Z1 Z1' hq hz h => h _ _ hq hz) (fun pc L st S h => h _ _ kQ kZ) kQ kZ h)
theorem q_c_m {y : Nat} {as : List q_V} {S : q_S} {Q Q' : q_Q} {Z Z' : q_Z} (kQ : ∀ a S, Q a S → Q' a S) (kZ : ∀ e S, Z e S → Z' e S) (h : q_c y as S Q Z) : q_c y as S Q' Z' := q_r_m kQ kZ h
theorem q_c_le : q_Cle q_c q_c := fun _ _ _ _ _ _ _ kQ kZ h => q_c_m kQ kZ h
theorem q_r_step {m pc : Nat} {L st : List q_V} {S : q_S} {Q : q_Q} {Z : q_Z} (h : q_st q_c m pc L st S (fun pc L st S => q_r m pc L st S Q Z) Q Z) : q_r m pc L st S Q Z := by
  intro F hF
  exact hF _ _ _ _ _ _ _ (q_st_m (fun y as S Q1 Q1' Z1 Z1' hq hz h => q_r_m hq hz h F hF) (fun pc L st S h => h F hF) (fun _ _ h => h) (fun _ _ h => h) h)
def q_rn : Nat → q_KK
  | 0 => q_r
  | n + 1 => fun m pc L st S Q Z => q_st q_c m pc L st S (fun pc' L' st' S' => bif q_hh m pc' then q_r m pc' L' st' S' Q Z else q_rn n m pc' L' st' S' Q Z) Q Z
theorem q_rn_r : ∀ (n : Nat) {m pc : Nat} {L st : List q_V} {S : q_S} {Q : q_Q} {Z : q_Z}, q_rn n m pc L st S Q Z → q_r m pc L st S Q Z
  | 0, _, _, _, _, _, _, _, h => h
  | n + 1, m, pc, L, st, S, Q, Z, h => by
    refine q_r_step (q_st_m q_c_le ?_ (fun _ _ h => h) (fun _ _ h => h) h)
    intro pc' L' st' S' h
    cases hb : q_hh m pc' <;> rw [hb] at h
    · exact q_rn_r n h
    · exact h
theorem q_blk (n : Nat) {m pc : Nat} {L st : List q_V} {S : q_S} {Q : q_Q} {Z : q_Z} (h : q_rn n m pc L st S Q Z) : q_r m pc L st S Q Z := q_rn_r n h
end Mono
end
section
-- LM.write
theorem b_0_0 {Q : q_Q} {Z : q_Z} {a1 : Int} {S : q_S} (h : q_c 153 [vR 1, vL a1] S (fun r2 S1 =>
    Q r2 S1) Z) : q_c 0 [vR 0, vL a1] S Q Z := q_blk 5 h
-- LM.wipe
theorem b_1_0 {Q : q_Q} {Z : q_Z} {S : q_S} (h : q_c 154 [vR 1] S (fun r2 S1 =>
    Q r2 S1) Z) : q_c 1 [vR 0] S Q Z := q_blk 4 h
-- LM.read
set_option maxRecDepth 20000 in
theorem b_2_0 {Q : q_Q} {Z : q_Z} {S : q_S} (h : q_c 112 [vR 27] S (fun _ S1 =>
    q_c 122 [vR 9] S1 (fun r4 S3 =>
      (r4 ≠ 0 →
        (r4 ≠ 0 →
          q_bo 0 ∧
          ((0 : Int) = 0 →
            Q r4 (q_up S3 0 9 0)) ∧
          (¬ (0 : Int) = 0 →
            q_c 132 [vR 12] (q_up S3 0 9 0) (fun _ S5 =>
              q_c 81 [vR 21] S5 (fun _ S7 =>
                Q r4 S7) Z) Z)) ∧
        (¬ r4 ≠ 0 →
          q_bo 1 ∧
          ((1 : Int) = 0 →
            Q r4 (q_up S3 0 9 1)) ∧
          (¬ (1 : Int) = 0 →
            q_c 132 [vR 12] (q_up S3 0 9 1) (fun _ S9 =>
              q_c 81 [vR 21] S9 (fun _ S11 =>
                Q r4 S11) Z) Z))) ∧
      (¬ r4 ≠ 0 →
        q_c 139 [vR 16] S3 (fun r14 S13 =>
          (r14 ≠ 0 →
            (r4 ≠ 0 →
              q_bo 0 ∧
              ((0 : Int) = 0 →
                Q r4 (q_up S13 0 9 0)) ∧
              (¬ (0 : Int) = 0 →
                q_c 132 [vR 12] (q_up S13 0 9 0) (fun _ S15 =>
                  q_c 81 [vR 21] S15 (fun _ S17 =>
                    Q r4 S17) Z) Z)) ∧
            (¬ r4 ≠ 0 →
              q_bo 1 ∧
              ((1 : Int) = 0 →
                Q r4 (q_up S13 0 9 1)) ∧
              (¬ (1 : Int) = 0 →
                q_c 132 [vR 12] (q_up S13 0 9 1) (fun _ S19 =>
                  q_c 81 [vR 21] S19 (fun _ S21 =>
                    Q r4 S21) Z) Z))) ∧
          (¬ r14 ≠ 0 →
            ((8 : Int) ≠ 0 →
              q_bo 0 ∧
              ((0 : Int) = 0 →
                Q 8 (q_up S13 0 9 0)) ∧
              (¬ (0 : Int) = 0 →
                q_c 132 [vR 12] (q_up S13 0 9 0) (fun _ S23 =>
                  q_c 81 [vR 21] S23 (fun _ S25 =>
                    Q 8 S25) Z) Z)) ∧
            (¬ (8 : Int) ≠ 0 →
              q_bo 1 ∧
              ((1 : Int) = 0 →
                Q 8 (q_up S13 0 9 1)) ∧
              (¬ (1 : Int) = 0 →
                q_c 132 [vR 12] (q_up S13 0 9 1) (fun _ S27 =>
                  q_c 81 [vR 21] S27 (fun _ S29 =>
                    Q 8 S29) Z) Z)))) Z)) Z) Z) : q_c 2 [vR 0] S Q Z := q_blk 117 h
-- LM.place
theorem b_3_0 {Q : q_Q} {Z : q_Z} {S : q_S} (h : Q (S 9 0) S) : q_c 3 [vR 0] S Q Z := q_blk 4 h
-- LM.bind
set_option maxRecDepth 20000 in
theorem b_4_0 {Q : q_Q} {Z : q_Z} {a1 a2 a3 : Int} {S : q_S} (h : q_c 26 [vI a1] S (fun r2 S1 =>
    (r2 = (-1) →
      Z 0 S1) ∧
    (¬ r2 = (-1) →
      (r2 = 8 →
        Z 0 S1) ∧
      (¬ r2 = 8 →
        (a2 < 0 →
          Z 0 S1) ∧
        (¬ a2 < 0 →
          (a2 > 9 →
            Z 0 S1) ∧
          (¬ a2 > 9 →
            (a3 < 0 →
              Z 0 S1) ∧
            (¬ a3 < 0 →
              (a3 < 3 →
                0 ≤ r2 ∧ r2 < 9 ∧
                0 ≤ r2 ∧ r2 < 9 ∧
                q_c 112 [vR 27] (q_up (q_up S1 24 r2 a2) 25 r2 a3) (fun _ S3 =>
                  Q 0 S3) Z) ∧
              (¬ a3 < 3 →
                Z 0 S1))))))) Z) : q_c 4 [vR 0, vI a1, vI a2, vI a3] S Q Z := q_blk 41 h
-- LM.number
theorem b_5_0 {Q : q_Q} {Z : q_Z} {a1 : Int} {S : q_S} (h : q_c 20 [vR 0] S (fun _ S1 =>
    ((a1 = 0 →
      Q (S1 3 4) S1) ∧
    ((a1 = 1 →
      Q (S1 16 0) S1) ∧
    ((a1 = 2 →
      q_c 90 [vR 26] S1 (fun r4 S3 =>
        Q r4 S3) Z) ∧
    ((a1 = 3 →
      q_c 93 [vR 26] S1 (fun r6 S5 =>
        Q r6 S5) Z) ∧
    True)))) ∧
    ((a1 < 0 ∨ 3 < a1) →
      Z 0 S1)) Z) : q_c 5 [vR 0, vI a1] S Q Z := q_blk 21 h
-- LM.symbol
theorem b_6_0 {Q : q_Q} {Z : q_Z} {a1 a2 : Int} {S : q_S} (h : q_c 20 [vR 0] S (fun _ S1 =>
    q_c 22 [vR 0, vI a1] S1 (fun _ S3 =>
      (a2 < (-1) →
        Z 2 S3) ∧
      (¬ a2 < (-1) →
        0 ≤ a1 ∧ a1 < 16 ∧
        (a2 < (S3 5 a1) →
          (a2 < 0 →
            (a1 ≠ 0 →
              0 ≤ a1 ∧ a1 < 16 ∧
              q_c 27 [vI (S3 4 a1)] S3 (fun r6 S5 =>
                Q r6 S5) Z) ∧
            (¬ a1 ≠ 0 →
              Q 0 S3)) ∧
          (¬ a2 < 0 →
            q_c 105 [vR 3, vI a1, vI a2] S3 (fun r8 S7 =>
              q_c 27 [vI r8] S7 (fun r10 S9 =>
                Q r10 S9) Z) Z)) ∧
        (¬ a2 < (S3 5 a1) →
          Z 2 S3))) Z) Z) : q_c 6 [vR 0, vI a1, vI a2] S Q Z := q_blk 38 h
-- LM.set
set_option maxRecDepth 20000 in
theorem b_7_0 {Q : q_Q} {Z : q_Z} {a1 a2 : Int} {S : q_S} (h : q_c 20 [vR 0] S (fun _ S1 =>
    q_c 25 [vI a1] S1 (fun r4 S3 =>
      (r4 = (-1) →
        Z 0 S3) ∧
      (¬ r4 = (-1) →
        (r4 ≥ 8 →
          Z 0 S3) ∧
        (¬ r4 ≥ 8 →
          q_c 106 [vR 3, vI r4] S3 (fun r6 S5 =>
            (r6 ≠ 0 →
              ((a2 = 0 →
                q_c 133 [vR 12, vI r4] S5 (fun r8 S7 =>
                  (r8 = 0 →
                    Q 0 S7) ∧
                  (¬ r8 = 0 →
                    Q 1 S7)) Z) ∧
              ((a2 = 1 →
                0 ≤ r4 ∧ r4 < 8 ∧
                Q (S5 13 r4) S5) ∧
              ((a2 = 2 →
                0 ≤ r4 ∧ r4 < 8 ∧
                Q (S5 14 r4) S5) ∧
              True))) ∧
              ((a2 < 0 ∨ 2 < a2) →
                Z 0 S5)) ∧
            (¬ r6 ≠ 0 →
              Z 0 S5)) Z))) Z) Z) : q_c 7 [vR 0, vI a1, vI a2] S Q Z := q_blk 44 h
-- LM.item
theorem b_8_0 {Q : q_Q} {Z : q_Z} {a1 a2 : Int} {S : q_S} (h : q_c 20 [vR 0] S (fun _ S1 =>
    q_c 21 [vR 0, vI a1] S1 (fun _ S3 =>
      q_c 143 [vR 16, vI a1, vI a2] S3 (fun r6 S5 =>
        Q r6 S5) Z) Z) Z) : q_c 8 [vR 0, vI a1, vI a2] S Q Z := q_blk 11 h
-- LM.go
theorem b_9_0 {Q : q_Q} {Z : q_Z} {a1 a2 : Int} {S : q_S} (h : q_c 20 [vR 0] S (fun _ S1 =>
    q_c 21 [vR 0, vI a1] S1 (fun _ S3 =>
      q_c 25 [vI a2] S3 (fun r6 S5 =>
        (r6 ≠ (-1) →
          q_c 142 [vR 16, vI a1, vI r6] S5 (fun r8 S7 =>
            Q r8 S7) Z) ∧
        (¬ r6 ≠ (-1) →
          Z 0 S5)) Z) Z) Z) : q_c 9 [vR 0, vI a1, vI a2] S Q Z := q_blk 18 h
-- LM.behind
theorem b_10_0 {Q : q_Q} {Z : q_Z} {a1 a2 a3 : Int} {S : q_S} (h : q_c 20 [vR 0] S (fun _ S1 =>
    q_c 21 [vR 0, vI a1] S1 (fun _ S3 =>
      q_c 22 [vR 0, vI a2] S3 (fun _ S5 =>
        (a3 < 0 →
          Z 0 S5) ∧
        (¬ a3 < 0 →
          (a3 < 3 →
            q_c 89 [vR 26, vI a1, vI a2, vI a3] S5 (fun r8 S7 =>
              Q r8 S7) Z) ∧
          (¬ a3 < 3 →
            Z 0 S5))) Z) Z) Z) : q_c 10 [vR 0, vI a1, vI a2, vI a3] S Q Z := q_blk 22 h
-- LM.action
theorem b_11_0 {Q : q_Q} {Z : q_Z} {a1 a2 : Int} {S : q_S} (h : q_c 20 [vR 0] S (fun _ S1 =>
    q_c 21 [vR 0, vI a1] S1 (fun _ S3 =>
      q_c 24 [vI a2] S3 (fun r6 S5 =>
        q_c 91 [vR 26, vI a1, vI r6] S5 (fun r8 S7 =>
          Q r8 S7) Z) Z) Z) Z) : q_c 11 [vR 0, vI a1, vI a2] S Q Z := q_blk 12 h
-- LM.unsettled
theorem b_12_0 {Q : q_Q} {Z : q_Z} {a1 : Int} {S : q_S} (h : q_c 20 [vR 0] S (fun _ S1 =>
    q_c 94 [vR 26, vI a1] S1 (fun r4 S3 =>
      Q r4 S3) Z) Z) : q_c 12 [vR 0, vI a1] S Q Z := q_blk 7 h
-- LM.opn
theorem b_13_0 {Q : q_Q} {Z : q_Z} {a1 a2 : Int} {S : q_S} (h : q_c 20 [vR 0] S (fun _ S1 =>
    (a1 < 1 →
      Z 0 S1) ∧
    (¬ a1 < 1 →
      (a1 > 24 →
        Z 0 S1) ∧
      (¬ a1 > 24 →
        (a2 < 0 →
          Z 0 S1) ∧
        (¬ a2 < 0 →
          (a2 ≤ 60 →
            q_c 113 [vR 27, vI a1, vI a2] S1 (fun _ S3 =>
              Q 0 S3) Z) ∧
          (¬ a2 ≤ 60 →
            Z 0 S1))))) Z) : q_c 13 [vR 0, vI a1, vI a2] S Q Z := q_blk 23 h
-- LM.token
theorem b_14_0 {Q : q_Q} {Z : q_Z} {a1 : Int} {S : q_S} (h : ((S 27 0) = 0 →
    Z 1 S) ∧
  (¬ (S 27 0) = 0 →
    ((S 27 1) = 0 →
      q_c 24 [vI a1] S (fun r2 S1 =>
        q_c 115 [vR 27, vI r2] S1 (fun r4 S3 =>
          Q r4 S3) Z) Z) ∧
    (¬ (S 27 1) = 0 →
      Z 1 S))) : q_c 14 [vR 0, vI a1] S Q Z := q_blk 16 h
-- LM.parser
theorem b_15_0 {Q : q_Q} {Z : q_Z} {a1 : Int} {S : q_S} (h : ((S 27 0) ≠ 0 →
    ((a1 = 0 →
      Q (S 27 1) S) ∧
    ((a1 = 1 →
      Q (S 27 2) S) ∧
    ((a1 = 2 →
      Q (S 27 3) S) ∧
    ((a1 = 3 →
      Q (S 30 5) S) ∧
    True)))) ∧
    ((a1 < 0 ∨ 3 < a1) →
      Q (-1) S)) ∧
  (¬ (S 27 0) ≠ 0 →
    Q (-1) S)) : q_c 15 [vR 0, vI a1] S Q Z := q_blk 27 h
-- LM.stack
theorem b_16_0 {Q : q_Q} {Z : q_Z} {a1 : Int} {S : q_S} (h : ((S 27 0) = 0 →
    Z 2 S) ∧
  (¬ (S 27 0) = 0 →
    (a1 < 0 →
      Z 2 S) ∧
    (¬ a1 < 0 →
      (a1 < (S 27 2) →
        0 ≤ a1 ∧ a1 < 24 ∧
        Q (S 28 a1) S) ∧
      (¬ a1 < (S 27 2) →
        Z 2 S)))) : q_c 16 [vR 0, vI a1] S Q Z := q_blk 20 h
-- LM.expected
theorem b_17_0 {Q : q_Q} {Z : q_Z} {S : q_S} (h : ((S 27 0) ≠ 0 →
    q_c 114 [vR 27] S (fun r2 S1 =>
      q_c 92 [vR 26, vI r2] S1 (fun r4 S3 =>
        Q r4 S3) Z) Z) ∧
  (¬ (S 27 0) ≠ 0 →
    Z 1 S)) : q_c 17 [vR 0] S Q Z := q_blk 12 h
-- LM.node
set_option maxRecDepth 20000 in
theorem b_18_0 {Q : q_Q} {Z : q_Z} {a1 a2 : Int} {S : q_S} (h : q_c 23 [vR 0, vI a1] S (fun _ S1 =>
    ((a2 = 0 →
      0 ≤ a1 ∧ a1 < 60 ∧
      q_c 27 [vI (S1 31 a1)] S1 (fun r4 S3 =>
        Q r4 S3) Z) ∧
    ((a2 = 1 →
      0 ≤ a1 ∧ a1 < 60 ∧
      Q (S1 32 a1) S1) ∧
    ((a2 = 2 →
      q_c 157 [vR 30, vI a1] S1 (fun r6 S5 =>
        Q r6 S5) Z) ∧
    ((a2 = 3 →
      0 ≤ a1 ∧ a1 < 60 ∧
      Q (S1 33 a1) S1) ∧
    ((a2 = 4 →
      0 ≤ a1 ∧ a1 < 60 ∧
      Q (S1 34 a1) S1) ∧
    True))))) ∧
    ((a2 < 0 ∨ 4 < a2) →
      Z 0 S1)) Z) : q_c 18 [vR 0, vI a1, vI a2] S Q Z := q_blk 41 h
-- LM.child
theorem b_19_0 {Q : q_Q} {Z : q_Z} {a1 a2 : Int} {S : q_S} (h : q_c 23 [vR 0, vI a1] S (fun _ S1 =>
    (a2 < 0 →
      Z 2 S1) ∧
    (¬ a2 < 0 →
      q_c 157 [vR 30, vI a1] S1 (fun r4 S3 =>
        (a2 < r4 →
          q_rg (a1 * 4) ∧
          q_rg ((a1 * 4) + a2) ∧
          0 ≤ ((a1 * 4) + a2) ∧ ((a1 * 4) + a2) < 240 ∧
          Q (S3 35 ((a1 * 4) + a2)) S3) ∧
        (¬ a2 < r4 →
          Z 2 S3)) Z)) Z) : q_c 19 [vR 0, vI a1, vI a2] S Q Z := q_blk 25 h
-- LM.needGrammar
theorem b_20_0 {Q : q_Q} {Z : q_Z} {S : q_S} (h : ((S 0 9) ≠ 0 →
    Q 0 S) ∧
  (¬ (S 0 9) ≠ 0 →
    Z 1 S)) : q_c 20 [vR 0] S Q Z := q_blk 5 h
-- LM.needState
theorem b_21_0 {Q : q_Q} {Z : q_Z} {a1 : Int} {S : q_S} (h : (a1 < 0 →
    Z 2 S) ∧
  (¬ a1 < 0 →
    (a1 < (S 16 0) →
      Q 0 S) ∧
    (¬ a1 < (S 16 0) →
      Z 2 S))) : q_c 21 [vR 0, vI a1] S Q Z := q_blk 10 h
-- LM.needProduction
theorem b_22_0 {Q : q_Q} {Z : q_Z} {a1 : Int} {S : q_S} (h : (a1 < 0 →
    Z 2 S) ∧
  (¬ a1 < 0 →
    (a1 ≤ (S 3 4) →
      Q 0 S) ∧
    (¬ a1 ≤ (S 3 4) →
      Z 2 S))) : q_c 22 [vR 0, vI a1] S Q Z := q_blk 10 h
-- LM.needNode
theorem b_23_0 {Q : q_Q} {Z : q_Z} {a1 : Int} {S : q_S} (h : ((S 27 0) = 0 →
    Z 2 S) ∧
  (¬ (S 27 0) = 0 →
    (a1 < 0 →
      Z 2 S) ∧
    (¬ a1 < 0 →
      (a1 < (S 30 5) →
        Q 0 S) ∧
      (¬ a1 < (S 30 5) →
        Z 2 S)))) : q_c 23 [vR 0, vI a1] S Q Z := q_blk 16 h
-- LM.needToken
theorem b_24_0 {Q : q_Q} {Z : q_Z} {a0 : Int} {S : q_S} (h : q_c 26 [vI a0] S (fun r2 S1 =>
    (r2 ≠ (-1) →
      Q r2 S1) ∧
    (¬ r2 ≠ (-1) →
      Z 0 S1)) Z) : q_c 24 [vI a0] S Q Z := q_blk 9 h
-- LM.symbolOf
set_option maxRecDepth 20000 in
theorem b_25_0 {Q : q_Q} {Z : q_Z} {a0 : Int} {S : q_S} (h : (a0 < 65 →
    (a0 < 97 →
      Q (-1) S) ∧
    (¬ a0 < 97 →
      (a0 > 104 →
        Q (-1) S) ∧
      (¬ a0 > 104 →
        q_rg (8 + a0) ∧
        q_rg ((8 + a0) - 97) ∧
        Q ((8 + a0) - 97) S))) ∧
  (¬ a0 < 65 →
    (a0 > 72 →
      (a0 < 97 →
        Q (-1) S) ∧
      (¬ a0 < 97 →
        (a0 > 104 →
          Q (-1) S) ∧
        (¬ a0 > 104 →
          q_rg (8 + a0) ∧
          q_rg ((8 + a0) - 97) ∧
          Q ((8 + a0) - 97) S))) ∧
    (¬ a0 > 72 →
      q_rg (a0 - 65) ∧
      Q (a0 - 65) S))) : q_c 25 [vI a0] S Q Z := q_blk 42 h
-- LM.tokenOf
theorem b_26_0 {Q : q_Q} {Z : q_Z} {a0 : Int} {S : q_S} (h : (a0 ≠ 46 →
    (a0 < 97 →
      Q (-1) S) ∧
    (¬ a0 < 97 →
      (a0 > 104 →
        Q (-1) S) ∧
      (¬ a0 > 104 →
        q_rg (a0 - 97) ∧
        Q (a0 - 97) S))) ∧
  (¬ a0 ≠ 46 →
    Q 8 S)) : q_c 26 [vI a0] S Q Z := q_blk 20 h
-- LM.codeOf
theorem b_27_0 {Q : q_Q} {Z : q_Z} {a0 : Int} {S : q_S} (h : (a0 ≥ 8 →
    q_rg (97 + a0) ∧
    q_rg ((97 + a0) - 8) ∧
    Q ((97 + a0) - 8) S) ∧
  (¬ a0 ≥ 8 →
    q_rg (65 + a0) ∧
    Q (65 + a0) S)) : q_c 27 [vI a0] S Q Z := q_blk 14 h
-- LMModel.thrown
theorem b_28_0 {Q : q_Q} {Z : q_Z} {S : q_S} (h : Q (S 36 0) S) : q_c 28 [vR 36] S Q Z := q_blk 3 h
-- LMModel.symbolOf
set_option maxRecDepth 20000 in
theorem b_29_0 {Q : q_Q} {Z : q_Z} {a0 : Int} {S : q_S} (h : (a0 < 65 →
    (a0 < 97 →
      Q (-1) S) ∧
    (¬ a0 < 97 →
      (a0 > 104 →
        Q (-1) S) ∧
      (¬ a0 > 104 →
        q_rg (a0 - 97) ∧
        q_rg ((a0 - 97) + 8) ∧
        Q ((a0 - 97) + 8) S))) ∧
  (¬ a0 < 65 →
    (a0 > 72 →
      (a0 < 97 →
        Q (-1) S) ∧
      (¬ a0 < 97 →
        (a0 > 104 →
          Q (-1) S) ∧
        (¬ a0 > 104 →
          q_rg (a0 - 97) ∧
          q_rg ((a0 - 97) + 8) ∧
          Q ((a0 - 97) + 8) S))) ∧
    (¬ a0 > 72 →
      q_rg (a0 - 65) ∧
      Q (a0 - 65) S))) : q_c 29 [vI a0] S Q Z := q_blk 45 h
-- LMModel.codeOf
theorem b_30_0 {Q : q_Q} {Z : q_Z} {a0 : Int} {S : q_S} (h : (a0 ≥ 8 →
    q_rg (97 + a0) ∧
    q_rg ((97 + a0) - 8) ∧
    Q ((97 + a0) - 8) S) ∧
  (¬ a0 ≥ 8 →
    q_rg (65 + a0) ∧
    Q (65 + a0) S)) : q_c 30 [vI a0] S Q Z := q_blk 14 h
-- LMModel.tokenOf
theorem b_31_0 {Q : q_Q} {Z : q_Z} {a0 : Int} {S : q_S} (h : (a0 ≠ 46 →
    (a0 < 97 →
      Q (-1) S) ∧
    (¬ a0 < 97 →
      (a0 > 104 →
        Q (-1) S) ∧
      (¬ a0 > 104 →
        q_rg (a0 - 97) ∧
        Q (a0 - 97) S))) ∧
  (¬ a0 ≠ 46 →
    Q 8 S)) : q_c 31 [vI a0] S Q Z := q_blk 21 h
-- LMModel.write
theorem b_32_0 {Q : q_Q} {Z : q_Z} {a1 : Int} {S : q_S} (h : q_r 32 13 [vR 36, vL a1, vU, vI 0, vI 1, vI 0, vU] [] (q_up S 36 0 0) Q Z) : q_c 32 [vR 36, vL a1] S Q Z := q_blk 9 h
-- LMModel.write
set_option maxRecDepth 20000 in
theorem b_32_13 {Q : q_Q} {Z : q_Z} {a1 a3 a4 a5 : Int} {j2 j6 : q_J} {S : q_S} (h : (a5 ≥ 8 →
    (a4 = 0 →
      Q (-1) S) ∧
    (¬ a4 = 0 →
      q_rg ((S 36 2) + a3) ∧
      (((S 36 2) + a3) ≤ 200 →
        q_r 32 106 [vR 36, vL a1, vJ j2, vI a3, vI a4, vI 0, vJ j6] [] S Q Z) ∧
      (¬ ((S 36 2) + a3) ≤ 200 →
        Q (-1) S))) ∧
  (¬ a5 ≥ 8 →
    q_rg (8 * a5) ∧
    (a4 = 0 →
      ((q_wint (q_wand (q_wshr a1 (8 * a5)) 255)) ≠ 0 →
        q_rg (a3 + 1) ∧
        q_rg (a5 + 1) ∧
        q_r 32 13 [vR 36, vL a1, vJ j2, vI (a3 + 1), vI 0, vI (a5 + 1), vI (q_wint (q_wand (q_wshr a1 (8 * a5)) 255))] [] S Q Z) ∧
      (¬ (q_wint (q_wand (q_wshr a1 (8 * a5)) 255)) ≠ 0 →
        q_rg (a5 + 1) ∧
        q_r 32 13 [vR 36, vL a1, vJ j2, vI a3, vI 0, vI (a5 + 1), vI (q_wint (q_wand (q_wshr a1 (8 * a5)) 255))] [] S Q Z)) ∧
    (¬ a4 = 0 →
      ((q_wint (q_wand (q_wshr a1 (8 * a5)) 255)) = 0 →
        ((q_wint (q_wand (q_wshr a1 (8 * a5)) 255)) ≠ 0 →
          q_rg (a3 + 1) ∧
          q_rg (a5 + 1) ∧
          q_r 32 13 [vR 36, vL a1, vJ j2, vI (a3 + 1), vI 1, vI (a5 + 1), vI (q_wint (q_wand (q_wshr a1 (8 * a5)) 255))] [] S Q Z) ∧
        (¬ (q_wint (q_wand (q_wshr a1 (8 * a5)) 255)) ≠ 0 →
          q_rg (a5 + 1) ∧
          q_r 32 13 [vR 36, vL a1, vJ j2, vI a3, vI 1, vI (a5 + 1), vI (q_wint (q_wand (q_wshr a1 (8 * a5)) 255))] [] S Q Z)) ∧
      (¬ (q_wint (q_wand (q_wshr a1 (8 * a5)) 255)) = 0 →
        ((q_wint (q_wand (q_wshr a1 (8 * a5)) 255)) < 32 →
          ((q_wint (q_wand (q_wshr a1 (8 * a5)) 255)) ≠ 0 →
            q_rg (a3 + 1) ∧
            q_rg (a5 + 1) ∧
            q_r 32 13 [vR 36, vL a1, vJ j2, vI (a3 + 1), vI 0, vI (a5 + 1), vI (q_wint (q_wand (q_wshr a1 (8 * a5)) 255))] [] S Q Z) ∧
          (¬ (q_wint (q_wand (q_wshr a1 (8 * a5)) 255)) ≠ 0 →
            q_rg (a5 + 1) ∧
            q_r 32 13 [vR 36, vL a1, vJ j2, vI a3, vI 0, vI (a5 + 1), vI (q_wint (q_wand (q_wshr a1 (8 * a5)) 255))] [] S Q Z)) ∧
        (¬ (q_wint (q_wand (q_wshr a1 (8 * a5)) 255)) < 32 →
          ((q_wint (q_wand (q_wshr a1 (8 * a5)) 255)) > 126 →
            ((q_wint (q_wand (q_wshr a1 (8 * a5)) 255)) ≠ 0 →
              q_rg (a3 + 1) ∧
              q_rg (a5 + 1) ∧
              q_r 32 13 [vR 36, vL a1, vJ j2, vI (a3 + 1), vI 0, vI (a5 + 1), vI (q_wint (q_wand (q_wshr a1 (8 * a5)) 255))] [] S Q Z) ∧
            (¬ (q_wint (q_wand (q_wshr a1 (8 * a5)) 255)) ≠ 0 →
              q_rg (a5 + 1) ∧
              q_r 32 13 [vR 36, vL a1, vJ j2, vI a3, vI 0, vI (a5 + 1), vI (q_wint (q_wand (q_wshr a1 (8 * a5)) 255))] [] S Q Z)) ∧
          (¬ (q_wint (q_wand (q_wshr a1 (8 * a5)) 255)) > 126 →
            ((q_wint (q_wand (q_wshr a1 (8 * a5)) 255)) ≠ 0 →
              q_rg (a3 + 1) ∧
              q_rg (a5 + 1) ∧
              q_r 32 13 [vR 36, vL a1, vJ j2, vI (a3 + 1), vI 1, vI (a5 + 1), vI (q_wint (q_wand (q_wshr a1 (8 * a5)) 255))] [] S Q Z) ∧
            (¬ (q_wint (q_wand (q_wshr a1 (8 * a5)) 255)) ≠ 0 →
              q_rg (a5 + 1) ∧
              q_r 32 13 [vR 36, vL a1, vJ j2, vI a3, vI 1, vI (a5 + 1), vI (q_wint (q_wand (q_wshr a1 (8 * a5)) 255))] [] S Q Z))))))) : q_r 32 13 [vR 36, vL a1, vJ j2, vI a3, vI a4, vI a5, vJ j6] [] S Q Z := q_blk 113 h
-- LMModel.write
theorem b_32_106 {Q : q_Q} {Z : q_Z} {a1 a5 : Int} {j2 j3 j4 j6 : q_J} {S : q_S} (h : (a5 ≥ 8 →
    Q (S 36 2) S) ∧
  (¬ a5 ≥ 8 →
    q_rg (8 * a5) ∧
    ((q_wint (q_wand (q_wshr a1 (8 * a5)) 255)) = 0 →
      q_rg (a5 + 1) ∧
      q_r 32 106 [vR 36, vL a1, vJ j2, vJ j3, vJ j4, vI (a5 + 1), vI (q_wint (q_wand (q_wshr a1 (8 * a5)) 255))] [] S Q Z) ∧
    (¬ (q_wint (q_wand (q_wshr a1 (8 * a5)) 255)) = 0 →
      0 ≤ (S 36 2) ∧ (S 36 2) < 200 ∧
      q_rg ((S 36 2) + 1) ∧
      q_rg (a5 + 1) ∧
      q_r 32 106 [vR 36, vL a1, vJ j2, vJ j3, vJ j4, vI (a5 + 1), vI (q_wint (q_wand (q_wshr a1 (8 * a5)) 255))] [] (q_up (q_up S 37 (S 36 2) (q_wint (q_wand (q_wshr a1 (8 * a5)) 255))) 36 2 ((S 36 2) + 1)) Q Z))) : q_r 32 106 [vR 36, vL a1, vJ j2, vJ j3, vJ j4, vI a5, vJ j6] [] S Q Z := q_blk 33 h
-- LMModel.wipe
theorem b_33_0 {Q : q_Q} {Z : q_Z} {S : q_S} (h : Q (S 36 2) (q_up (q_up S 36 0 0) 36 2 0)) : q_c 33 [vR 36] S Q Z := q_blk 11 h
-- LMModel.fault
theorem b_34_0 {Q : q_Q} {Z : q_Z} {a1 a2 : Int} {S : q_S} (h : Q a1 (q_up S 36 3 a2)) : q_c 34 [vR 36, vI a1, vI a2] S Q Z := q_blk 5 h
-- LMModel.readText
theorem b_35_0 {Q : q_Q} {Z : q_Z} {S : q_S} (h : q_r 35 12 [vR 36, vI 0, vU, vU, vU, vU, vU] [] (q_up (q_up S 36 5 0) 36 10 0) Q Z) : q_c 35 [vR 36] S Q Z := q_blk 8 h
-- LMModel.readText
theorem b_35_12 {Q : q_Q} {Z : q_Z} {a1 : Int} {j2 j3 j4 j5 j6 : q_J} {S : q_S} (h : (a1 ≥ 8 →
    q_r 35 37 [vR 36, vI 0, vI 0, vI 0, vJ j4, vJ j5, vJ j6] [] S Q Z) ∧
  (¬ a1 ≥ 8 →
    0 ≤ a1 ∧ a1 < 8 ∧
    q_rg (a1 + 1) ∧
    q_r 35 12 [vR 36, vI (a1 + 1), vJ j2, vJ j3, vJ j4, vJ j5, vJ j6] [] (q_up S 43 a1 (-1)) Q Z)) : q_r 35 12 [vR 36, vI a1, vJ j2, vJ j3, vJ j4, vJ j5, vJ j6] [] S Q Z := q_blk 16 h
-- LMModel.readText
set_option maxRecDepth 20000 in
theorem b_35_37 {Q : q_Q} {Z : q_Z} {a1 a2 a3 : Int} {j4 j5 j6 : q_J} {S : q_S} (h : (a3 ≥ (S 36 2) →
    (a1 ≠ 0 →
      q_c 34 [vR 36, vI 1, vI (S 36 2)] S (fun r2 S1 =>
        Q r2 S1) Z) ∧
    (¬ a1 ≠ 0 →
      ((S 36 10) ≤ 0 →
        q_c 34 [vR 36, vI 1, vI (S 36 2)] S (fun r4 S3 =>
          Q r4 S3) Z) ∧
      (¬ (S 36 10) ≤ 0 →
        Q 0 S))) ∧
  (¬ a3 ≥ (S 36 2) →
    0 ≤ a3 ∧ a3 < 200 ∧
    q_c 29 [vI (S 37 a3)] S (fun r6 S5 =>
      ((S 37 a3) ≠ 32 →
        (a1 ≠ 0 →
          (a1 = 1 →
            (a1 ≠ 1 →
              ((S5 36 5) ≠ 15 →
                q_rg ((S5 36 5) + 1) ∧
                0 ≤ ((S5 36 5) + 1) ∧ ((S5 36 5) + 1) < 16 ∧
                0 ≤ ((S5 36 5) + 1) ∧ ((S5 36 5) + 1) < 16 ∧
                q_rg (a3 + 1) ∧
                q_r 35 37 [vR 36, vI 2, vI a2, vI (a3 + 1), vI (S 37 a3), vI r6, vJ j6] [] (q_up (q_up (q_up S5 36 5 ((S5 36 5) + 1)) 38 ((S5 36 5) + 1) a2) 39 ((S5 36 5) + 1) 0) Q Z) ∧
              (¬ (S5 36 5) ≠ 15 →
                (a1 ≠ 1 →
                  q_c 34 [vR 36, vI 4, vI a3] S5 (fun r8 S7 =>
                    Q r8 S7) Z) ∧
                (¬ a1 ≠ 1 →
                  ((S 37 a3) = 58 →
                    q_c 34 [vR 36, vI 4, vI a3] S5 (fun r10 S9 =>
                      Q r10 S9) Z) ∧
                  (¬ (S 37 a3) = 58 →
                    q_c 34 [vR 36, vI 1, vI a3] S5 (fun r12 S11 =>
                      Q r12 S11) Z)))) ∧
            (¬ a1 ≠ 1 →
              ((S 37 a3) ≠ 58 →
                (a1 ≠ 1 →
                  q_c 34 [vR 36, vI 4, vI a3] S5 (fun r14 S13 =>
                    Q r14 S13) Z) ∧
                (¬ a1 ≠ 1 →
                  ((S 37 a3) = 58 →
                    q_c 34 [vR 36, vI 4, vI a3] S5 (fun r16 S15 =>
                      Q r16 S15) Z) ∧
                  (¬ (S 37 a3) = 58 →
                    q_c 34 [vR 36, vI 1, vI a3] S5 (fun r18 S17 =>
                      Q r18 S17) Z))) ∧
              (¬ (S 37 a3) ≠ 58 →
                ((S5 36 5) ≠ 15 →
                  q_rg ((S5 36 5) + 1) ∧
                  0 ≤ ((S5 36 5) + 1) ∧ ((S5 36 5) + 1) < 16 ∧
                  0 ≤ ((S5 36 5) + 1) ∧ ((S5 36 5) + 1) < 16 ∧
                  q_rg (a3 + 1) ∧
                  q_r 35 37 [vR 36, vI 2, vI a2, vI (a3 + 1), vI (S 37 a3), vI r6, vJ j6] [] (q_up (q_up (q_up S5 36 5 ((S5 36 5) + 1)) 38 ((S5 36 5) + 1) a2) 39 ((S5 36 5) + 1) 0) Q Z) ∧
                (¬ (S5 36 5) ≠ 15 →
                  (a1 ≠ 1 →
                    q_c 34 [vR 36, vI 4, vI a3] S5 (fun r20 S19 =>
                      Q r20 S19) Z) ∧
                  (¬ a1 ≠ 1 →
                    ((S 37 a3) = 58 →
                      q_c 34 [vR 36, vI 4, vI a3] S5 (fun r22 S21 =>
                        Q r22 S21) Z) ∧
                    (¬ (S 37 a3) = 58 →
                      q_c 34 [vR 36, vI 1, vI a3] S5 (fun r24 S23 =>
                        Q r24 S23) Z)))))) ∧
          (¬ a1 = 1 →
            ((S 37 a3) ≠ 124 →
              ((S 37 a3) ≠ 59 →
                0 ≤ (S5 36 5) ∧ (S5 36 5) < 16 ∧
                (r6 < 0 →
                  (r6 ≥ 0 →
                    q_c 34 [vR 36, vI 3, vI a3] S5 (fun r26 S25 =>
                      Q r26 S25) Z) ∧
                  (¬ r6 ≥ 0 →
                    q_c 34 [vR 36, vI 1, vI a3] S5 (fun r28 S27 =>
                      Q r28 S27) Z)) ∧
                (¬ r6 < 0 →
                  ((S5 39 (S5 36 5)) ≠ 4 →
                    q_rg (4 * (S5 36 5)) ∧
                    q_rg ((4 * (S5 36 5)) + (S5 39 (S5 36 5))) ∧
                    0 ≤ ((4 * (S5 36 5)) + (S5 39 (S5 36 5))) ∧ ((4 * (S5 36 5)) + (S5 39 (S5 36 5))) < 64 ∧
                    q_rg (4 * (S5 36 5)) ∧
                    q_rg ((4 * (S5 36 5)) + (S5 39 (S5 36 5))) ∧
                    0 ≤ ((4 * (S5 36 5)) + (S5 39 (S5 36 5))) ∧ ((4 * (S5 36 5)) + (S5 39 (S5 36 5))) < 64 ∧
                    q_rg ((S5 39 (S5 36 5)) + 1) ∧
                    0 ≤ (S5 36 5) ∧ (S5 36 5) < 16 ∧
                    q_rg (a3 + 1) ∧
                    q_r 35 37 [vR 36, vI a1, vI a2, vI (a3 + 1), vI (S 37 a3), vI r6, vI (S5 39 (S5 36 5))] [] (q_up (q_up (q_up S5 40 ((4 * (S5 36 5)) + (S5 39 (S5 36 5))) r6) 41 ((4 * (S5 36 5)) + (S5 39 (S5 36 5))) a3) 39 (S5 36 5) ((S5 39 (S5 36 5)) + 1)) Q Z) ∧
                  (¬ (S5 39 (S5 36 5)) ≠ 4 →
                    (r6 ≥ 0 →
                      q_c 34 [vR 36, vI 3, vI a3] S5 (fun r30 S29 =>
                        Q r30 S29) Z) ∧
                    (¬ r6 ≥ 0 →
                      q_c 34 [vR 36, vI 1, vI a3] S5 (fun r32 S31 =>
                        Q r32 S31) Z)))) ∧
              (¬ (S 37 a3) ≠ 59 →
                q_rg (a3 + 1) ∧
                q_r 35 37 [vR 36, vI 0, vI a2, vI (a3 + 1), vI (S 37 a3), vI r6, vJ j6] [] S5 Q Z)) ∧
            (¬ (S 37 a3) ≠ 124 →
              (a1 ≠ 1 →
                ((S5 36 5) ≠ 15 →
                  q_rg ((S5 36 5) + 1) ∧
                  0 ≤ ((S5 36 5) + 1) ∧ ((S5 36 5) + 1) < 16 ∧
                  0 ≤ ((S5 36 5) + 1) ∧ ((S5 36 5) + 1) < 16 ∧
                  q_rg (a3 + 1) ∧
                  q_r 35 37 [vR 36, vI 2, vI a2, vI (a3 + 1), vI (S 37 a3), vI r6, vJ j6] [] (q_up (q_up (q_up S5 36 5 ((S5 36 5) + 1)) 38 ((S5 36 5) + 1) a2) 39 ((S5 36 5) + 1) 0) Q Z) ∧
                (¬ (S5 36 5) ≠ 15 →
                  (a1 ≠ 1 →
                    q_c 34 [vR 36, vI 4, vI a3] S5 (fun r34 S33 =>
                      Q r34 S33) Z) ∧
                  (¬ a1 ≠ 1 →
                    ((S 37 a3) = 58 →
                      q_c 34 [vR 36, vI 4, vI a3] S5 (fun r36 S35 =>
                        Q r36 S35) Z) ∧
                    (¬ (S 37 a3) = 58 →
                      q_c 34 [vR 36, vI 1, vI a3] S5 (fun r38 S37 =>
                        Q r38 S37) Z)))) ∧
              (¬ a1 ≠ 1 →
                ((S 37 a3) ≠ 58 →
                  (a1 ≠ 1 →
                    q_c 34 [vR 36, vI 4, vI a3] S5 (fun r40 S39 =>
                      Q r40 S39) Z) ∧
                  (¬ a1 ≠ 1 →
                    ((S 37 a3) = 58 →
                      q_c 34 [vR 36, vI 4, vI a3] S5 (fun r42 S41 =>
                        Q r42 S41) Z) ∧
                    (¬ (S 37 a3) = 58 →
                      q_c 34 [vR 36, vI 1, vI a3] S5 (fun r44 S43 =>
                        Q r44 S43) Z))) ∧
                (¬ (S 37 a3) ≠ 58 →
                  ((S5 36 5) ≠ 15 →
                    q_rg ((S5 36 5) + 1) ∧
                    0 ≤ ((S5 36 5) + 1) ∧ ((S5 36 5) + 1) < 16 ∧
                    0 ≤ ((S5 36 5) + 1) ∧ ((S5 36 5) + 1) < 16 ∧
                    q_rg (a3 + 1) ∧
                    q_r 35 37 [vR 36, vI 2, vI a2, vI (a3 + 1), vI (S 37 a3), vI r6, vJ j6] [] (q_up (q_up (q_up S5 36 5 ((S5 36 5) + 1)) 38 ((S5 36 5) + 1) a2) 39 ((S5 36 5) + 1) 0) Q Z) ∧
                  (¬ (S5 36 5) ≠ 15 →
                    (a1 ≠ 1 →
                      q_c 34 [vR 36, vI 4, vI a3] S5 (fun r46 S45 =>
                        Q r46 S45) Z) ∧
                    (¬ a1 ≠ 1 →
                      ((S 37 a3) = 58 →
                        q_c 34 [vR 36, vI 4, vI a3] S5 (fun r48 S47 =>
                          Q r48 S47) Z) ∧
                      (¬ (S 37 a3) = 58 →
                        q_c 34 [vR 36, vI 1, vI a3] S5 (fun r50 S49 =>
                          Q r50 S49) Z)))))))) ∧
        (¬ a1 ≠ 0 →
          (r6 < 0 →
            (r6 < 0 →
              q_c 34 [vR 36, vI 1, vI a3] S5 (fun r52 S51 =>
                Q r52 S51) Z) ∧
            (¬ r6 < 0 →
              (r6 ≤ 7 →
                q_c 34 [vR 36, vI 2, vI a3] S5 (fun r54 S53 =>
                  Q r54 S53) Z) ∧
              (¬ r6 ≤ 7 →
                q_c 34 [vR 36, vI 1, vI a3] S5 (fun r56 S55 =>
                  Q r56 S55) Z))) ∧
          (¬ r6 < 0 →
            (r6 > 7 →
              (r6 < 0 →
                q_c 34 [vR 36, vI 1, vI a3] S5 (fun r58 S57 =>
                  Q r58 S57) Z) ∧
              (¬ r6 < 0 →
                (r6 ≤ 7 →
                  q_c 34 [vR 36, vI 2, vI a3] S5 (fun r60 S59 =>
                    Q r60 S59) Z) ∧
                (¬ r6 ≤ 7 →
                  q_c 34 [vR 36, vI 1, vI a3] S5 (fun r62 S61 =>
                    Q r62 S61) Z))) ∧
            (¬ r6 > 7 →
              0 ≤ r6 ∧ r6 < 8 ∧
              ((S5 43 r6) < 0 →
                0 ≤ r6 ∧ r6 < 8 ∧
                0 ≤ (S5 36 10) ∧ (S5 36 10) < 8 ∧
                q_rg ((S5 36 10) + 1) ∧
                q_rg (a3 + 1) ∧
                q_r 35 37 [vR 36, vI 1, vI r6, vI (a3 + 1), vI (S 37 a3), vI r6, vJ j6] [] (q_up (q_up (q_up S5 43 r6 a3) 42 (S5 36 10) r6) 36 10 ((S5 36 10) + 1)) Q Z) ∧
              (¬ (S5 43 r6) < 0 →
                (r6 < 0 →
                  q_c 34 [vR 36, vI 1, vI a3] S5 (fun r64 S63 =>
                    Q r64 S63) Z) ∧
                (¬ r6 < 0 →
                  (r6 ≤ 7 →
                    q_c 34 [vR 36, vI 2, vI a3] S5 (fun r66 S65 =>
                      Q r66 S65) Z) ∧
                  (¬ r6 ≤ 7 →
                    q_c 34 [vR 36, vI 1, vI a3] S5 (fun r68 S67 =>
                      Q r68 S67) Z))))))) ∧
      (¬ (S 37 a3) ≠ 32 →
        q_rg (a3 + 1) ∧
        q_r 35 37 [vR 36, vI a1, vI a2, vI (a3 + 1), vI (S 37 a3), vI r6, vJ j6] [] S5 Q Z)) Z)) : q_r 35 37 [vR 36, vI a1, vI a2, vI a3, vJ j4, vJ j5, vJ j6] [] S Q Z := q_blk 453 h
-- LMModel.markMaking
theorem b_36_0 {Q : q_Q} {Z : q_Z} {S : q_S} (h : q_r 36 2 [vR 36, vI 0, vU, vU, vU] [] S Q Z) : q_c 36 [vR 36] S Q Z := q_blk 2 h
-- LMModel.markMaking
theorem b_36_2 {Q : q_Q} {Z : q_Z} {a1 : Int} {j2 j3 j4 : q_J} {S : q_S} (h : (a1 ≥ 8 →
    q_r 36 23 [vR 36, vI 0, vJ j2, vJ j3, vJ j4] [] S Q Z) ∧
  (¬ a1 ≥ 8 →
    0 ≤ a1 ∧ a1 < 8 ∧
    q_bo 0 ∧
    q_rg (a1 + 1) ∧
    q_r 36 2 [vR 36, vI (a1 + 1), vJ j2, vJ j3, vJ j4] [] (q_up S 44 a1 0) Q Z)) : q_r 36 2 [vR 36, vI a1, vJ j2, vJ j3, vJ j4] [] S Q Z := q_blk 12 h
-- LMModel.markMaking
theorem b_36_23 {Q : q_Q} {Z : q_Z} {a1 : Int} {j2 j3 j4 : q_J} {S : q_S} (h : (a1 ≥ 8 →
    Q 0 S) ∧
  (¬ a1 ≥ 8 →
    q_r 36 31 [vR 36, vI a1, vI 1, vJ j3, vJ j4] [] S Q Z)) : q_r 36 23 [vR 36, vI a1, vJ j2, vJ j3, vJ j4] [] S Q Z := q_blk 6 h
-- LMModel.markMaking
theorem b_36_31 {Q : q_Q} {Z : q_Z} {a1 a2 : Int} {j3 j4 : q_J} {S : q_S} (h : (a2 > (S 36 5) →
    q_rg (a1 + 1) ∧
    q_r 36 23 [vR 36, vI (a1 + 1), vI a2, vJ j3, vJ j4] [] S Q Z) ∧
  (¬ a2 > (S 36 5) →
    q_r 36 44 [vR 36, vI a1, vI a2, vI 1, vI 0] [] S Q Z)) : q_r 36 31 [vR 36, vI a1, vI a2, vJ j3, vJ j4] [] S Q Z := q_blk 10 h
-- LMModel.markMaking
set_option maxRecDepth 20000 in
theorem b_36_44 {Q : q_Q} {Z : q_Z} {a1 a2 a3 a4 : Int} {S : q_S} (h : 0 ≤ a2 ∧ a2 < 16 ∧
  (a4 ≥ (S 39 a2) →
    0 ≤ a2 ∧ a2 < 16 ∧
    0 ≤ a2 ∧ a2 < 16 ∧
    0 ≤ (S 38 a2) ∧ (S 38 a2) < 8 ∧
    ((S 44 (S 38 a2)) ≠ 0 →
      0 ≤ (S 38 a2) ∧ (S 38 a2) < 8 ∧
      q_bo 1 ∧
      q_rg (a2 + 1) ∧
      q_r 36 31 [vR 36, vI a1, vI (a2 + 1), vI a3, vI a4] [] (q_up S 44 (S 38 a2) 1) Q Z) ∧
    (¬ (S 44 (S 38 a2)) ≠ 0 →
      (a3 = 0 →
        0 ≤ (S 38 a2) ∧ (S 38 a2) < 8 ∧
        q_bo 0 ∧
        q_rg (a2 + 1) ∧
        q_r 36 31 [vR 36, vI a1, vI (a2 + 1), vI a3, vI a4] [] (q_up S 44 (S 38 a2) 0) Q Z) ∧
      (¬ a3 = 0 →
        0 ≤ (S 38 a2) ∧ (S 38 a2) < 8 ∧
        q_bo 1 ∧
        q_rg (a2 + 1) ∧
        q_r 36 31 [vR 36, vI a1, vI (a2 + 1), vI a3, vI a4] [] (q_up S 44 (S 38 a2) 1) Q Z))) ∧
  (¬ a4 ≥ (S 39 a2) →
    (a3 = 0 →
      q_rg (a4 + 1) ∧
      q_r 36 44 [vR 36, vI a1, vI a2, vI 0, vI (a4 + 1)] [] S Q Z) ∧
    (¬ a3 = 0 →
      q_rg (4 * a2) ∧
      q_rg ((4 * a2) + a4) ∧
      0 ≤ ((4 * a2) + a4) ∧ ((4 * a2) + a4) < 64 ∧
      ((S 40 ((4 * a2) + a4)) > 7 →
        q_rg (a4 + 1) ∧
        q_r 36 44 [vR 36, vI a1, vI a2, vI 1, vI (a4 + 1)] [] S Q Z) ∧
      (¬ (S 40 ((4 * a2) + a4)) > 7 →
        q_rg (4 * a2) ∧
        q_rg ((4 * a2) + a4) ∧
        0 ≤ ((4 * a2) + a4) ∧ ((4 * a2) + a4) < 64 ∧
        0 ≤ (S 40 ((4 * a2) + a4)) ∧ (S 40 ((4 * a2) + a4)) < 8 ∧
        ((S 44 (S 40 ((4 * a2) + a4))) = 0 →
          q_rg (a4 + 1) ∧
          q_r 36 44 [vR 36, vI a1, vI a2, vI 0, vI (a4 + 1)] [] S Q Z) ∧
        (¬ (S 44 (S 40 ((4 * a2) + a4))) = 0 →
          q_rg (a4 + 1) ∧
          q_r 36 44 [vR 36, vI a1, vI a2, vI 1, vI (a4 + 1)] [] S Q Z))))) : q_r 36 44 [vR 36, vI a1, vI a2, vI a3, vI a4] [] S Q Z := q_blk 78 h
-- LMModel.markMet
theorem b_37_0 {Q : q_Q} {Z : q_Z} {S : q_S} (h : q_r 37 2 [vR 36, vI 0, vU, vU] [] S Q Z) : q_c 37 [vR 36] S Q Z := q_blk 2 h
-- LMModel.markMet
theorem b_37_2 {Q : q_Q} {Z : q_Z} {a1 : Int} {j2 j3 : q_J} {S : q_S} (h : (a1 ≥ 8 →
    q_r 37 37 [vR 36, vI 0, vJ j2, vJ j3] [] S Q Z) ∧
  (¬ a1 ≥ 8 →
    (0 : Int) ≤ 0 ∧ (0 : Int) < 8 ∧
    (a1 ≠ (S 42 0) →
      0 ≤ a1 ∧ a1 < 8 ∧
      q_bo 0 ∧
      q_rg (a1 + 1) ∧
      q_r 37 2 [vR 36, vI (a1 + 1), vJ j2, vJ j3] [] (q_up S 44 a1 0) Q Z) ∧
    (¬ a1 ≠ (S 42 0) →
      0 ≤ a1 ∧ a1 < 8 ∧
      q_bo 1 ∧
      q_rg (a1 + 1) ∧
      q_r 37 2 [vR 36, vI (a1 + 1), vJ j2, vJ j3] [] (q_up S 44 a1 1) Q Z))) : q_r 37 2 [vR 36, vI a1, vJ j2, vJ j3] [] S Q Z := q_blk 23 h
-- LMModel.markMet
theorem b_37_37 {Q : q_Q} {Z : q_Z} {a1 : Int} {j2 j3 : q_J} {S : q_S} (h : (a1 ≥ 8 →
    Q 0 S) ∧
  (¬ a1 ≥ 8 →
    q_r 37 45 [vR 36, vI a1, vI 1, vJ j3] [] S Q Z)) : q_r 37 37 [vR 36, vI a1, vJ j2, vJ j3] [] S Q Z := q_blk 6 h
-- LMModel.markMet
theorem b_37_45 {Q : q_Q} {Z : q_Z} {a1 a2 : Int} {j3 : q_J} {S : q_S} (h : (a2 > (S 36 5) →
    q_rg (a1 + 1) ∧
    q_r 37 37 [vR 36, vI (a1 + 1), vI a2, vJ j3] [] S Q Z) ∧
  (¬ a2 > (S 36 5) →
    q_r 37 55 [vR 36, vI a1, vI a2, vI 0] [] S Q Z)) : q_r 37 45 [vR 36, vI a1, vI a2, vJ j3] [] S Q Z := q_blk 8 h
-- LMModel.markMet
set_option maxRecDepth 20000 in
theorem b_37_55 {Q : q_Q} {Z : q_Z} {a1 a2 a3 : Int} {S : q_S} (h : 0 ≤ a2 ∧ a2 < 16 ∧
  (a3 ≥ (S 39 a2) →
    q_rg (a2 + 1) ∧
    q_r 37 45 [vR 36, vI a1, vI (a2 + 1), vI a3] [] S Q Z) ∧
  (¬ a3 ≥ (S 39 a2) →
    0 ≤ a2 ∧ a2 < 16 ∧
    0 ≤ (S 38 a2) ∧ (S 38 a2) < 8 ∧
    ((S 44 (S 38 a2)) = 0 →
      q_rg (a3 + 1) ∧
      q_r 37 55 [vR 36, vI a1, vI a2, vI (a3 + 1)] [] S Q Z) ∧
    (¬ (S 44 (S 38 a2)) = 0 →
      q_rg (4 * a2) ∧
      q_rg ((4 * a2) + a3) ∧
      0 ≤ ((4 * a2) + a3) ∧ ((4 * a2) + a3) < 64 ∧
      ((S 40 ((4 * a2) + a3)) ≥ 8 →
        q_rg (a3 + 1) ∧
        q_r 37 55 [vR 36, vI a1, vI a2, vI (a3 + 1)] [] S Q Z) ∧
      (¬ (S 40 ((4 * a2) + a3)) ≥ 8 →
        q_rg (4 * a2) ∧
        q_rg ((4 * a2) + a3) ∧
        0 ≤ ((4 * a2) + a3) ∧ ((4 * a2) + a3) < 64 ∧
        0 ≤ (S 40 ((4 * a2) + a3)) ∧ (S 40 ((4 * a2) + a3)) < 8 ∧
        q_bo 1 ∧
        q_rg (a3 + 1) ∧
        q_r 37 55 [vR 36, vI a1, vI a2, vI (a3 + 1)] [] (q_up S 44 (S 40 ((4 * a2) + a3)) 1) Q Z)))) : q_r 37 55 [vR 36, vI a1, vI a2, vI a3] [] S Q Z := q_blk 44 h
-- LMModel.unmarked
theorem b_38_0 {Q : q_Q} {Z : q_Z} {S : q_S} (h : q_r 38 2 [vR 36, vI 0] [] S Q Z) : q_c 38 [vR 36] S Q Z := q_blk 2 h
-- LMModel.unmarked
theorem b_38_2 {Q : q_Q} {Z : q_Z} {a1 : Int} {S : q_S} (h : (a1 ≥ (S 36 10) →
    Q (-1) S) ∧
  (¬ a1 ≥ (S 36 10) →
    0 ≤ a1 ∧ a1 < 8 ∧
    0 ≤ (S 42 a1) ∧ (S 42 a1) < 8 ∧
    ((S 44 (S 42 a1)) ≠ 0 →
      q_rg (a1 + 1) ∧
      q_r 38 2 [vR 36, vI (a1 + 1)] [] S Q Z) ∧
    (¬ (S 44 (S 42 a1)) ≠ 0 →
      0 ≤ a1 ∧ a1 < 8 ∧
      0 ≤ (S 42 a1) ∧ (S 42 a1) < 8 ∧
      Q (S 43 (S 42 a1)) S))) : q_r 38 2 [vR 36, vI a1] [] S Q Z := q_blk 24 h
-- LMModel.lookThrough
theorem b_39_0 {Q : q_Q} {Z : q_Z} {S : q_S} (h : q_r 39 2 [vR 36, vI 1, vU] [] S Q Z) : q_c 39 [vR 36] S Q Z := q_blk 2 h
-- LMModel.lookThrough
theorem b_39_2 {Q : q_Q} {Z : q_Z} {a1 : Int} {j2 : q_J} {S : q_S} (h : (a1 > (S 36 5) →
    q_c 36 [vR 36] S (fun _ S1 =>
      q_c 38 [vR 36] S1 (fun r4 S3 =>
        (r4 < 0 →
          q_c 37 [vR 36] S3 (fun _ S5 =>
            q_c 38 [vR 36] S5 (fun r8 S7 =>
              (r8 < 0 →
                Q 0 S7) ∧
              (¬ r8 < 0 →
                q_c 34 [vR 36, vI 7, vI r8] S7 (fun r10 S9 =>
                  Q r10 S9) Z)) Z) Z) ∧
        (¬ r4 < 0 →
          q_c 34 [vR 36, vI 6, vI r4] S3 (fun r12 S11 =>
            Q r12 S11) Z)) Z) Z) ∧
  (¬ a1 > (S 36 5) →
    q_r 39 12 [vR 36, vI a1, vI 0] [] S Q Z)) : q_r 39 2 [vR 36, vI a1, vJ j2] [] S Q Z := q_blk 33 h
-- LMModel.lookThrough
set_option maxRecDepth 20000 in
theorem b_39_12 {Q : q_Q} {Z : q_Z} {a1 a2 : Int} {S : q_S} (h : 0 ≤ a1 ∧ a1 < 16 ∧
  (a2 ≥ (S 39 a1) →
    q_rg (a1 + 1) ∧
    q_r 39 2 [vR 36, vI (a1 + 1), vI a2] [] S Q Z) ∧
  (¬ a2 ≥ (S 39 a1) →
    q_rg (4 * a1) ∧
    q_rg ((4 * a1) + a2) ∧
    0 ≤ ((4 * a1) + a2) ∧ ((4 * a1) + a2) < 64 ∧
    ((S 40 ((4 * a1) + a2)) ≥ 8 →
      q_rg (a2 + 1) ∧
      q_r 39 12 [vR 36, vI a1, vI (a2 + 1)] [] S Q Z) ∧
    (¬ (S 40 ((4 * a1) + a2)) ≥ 8 →
      q_rg (4 * a1) ∧
      q_rg ((4 * a1) + a2) ∧
      0 ≤ ((4 * a1) + a2) ∧ ((4 * a1) + a2) < 64 ∧
      0 ≤ (S 40 ((4 * a1) + a2)) ∧ (S 40 ((4 * a1) + a2)) < 8 ∧
      ((S 43 (S 40 ((4 * a1) + a2))) ≥ 0 →
        q_rg (a2 + 1) ∧
        q_r 39 12 [vR 36, vI a1, vI (a2 + 1)] [] S Q Z) ∧
      (¬ (S 43 (S 40 ((4 * a1) + a2))) ≥ 0 →
        q_rg (4 * a1) ∧
        q_rg ((4 * a1) + a2) ∧
        0 ≤ ((4 * a1) + a2) ∧ ((4 * a1) + a2) < 64 ∧
        q_c 34 [vR 36, vI 5, vI (S 41 ((4 * a1) + a2))] S (fun r2 S1 =>
          Q r2 S1) Z)))) : q_r 39 12 [vR 36, vI a1, vI a2] [] S Q Z := q_blk 46 h
-- LMModel.read
set_option maxRecDepth 20000 in
theorem b_40_0 {Q : q_Q} {Z : q_Z} {S : q_S} (h : q_bo 0 ∧
  q_bo 0 ∧
  q_c 35 [vR 36] (q_up (q_up (q_up (q_up S 36 0 0) 36 24 0) 36 4 0) 36 3 (-1)) (fun r2 S1 =>
    (r2 ≠ 0 →
      (r2 = 0 →
        (0 : Int) ≤ 0 ∧ (0 : Int) < 16 ∧
        (0 : Int) ≤ 0 ∧ (0 : Int) < 16 ∧
        (0 : Int) ≤ 0 ∧ (0 : Int) < 8 ∧
        (0 : Int) ≤ 0 ∧ (0 : Int) < 64 ∧
        q_c 45 [vR 36] (q_up (q_up (q_up S1 38 0 (-1)) 39 0 1) 40 0 (S1 42 0)) (fun r4 S3 =>
          (r4 ≠ 0 →
            q_c 48 [vR 36] S3 (fun _ S5 =>
              q_c 51 [vR 36] S5 (fun _ S7 =>
                q_bo 1 ∧
                Q 0 (q_up S7 36 4 1)) Z) Z) ∧
          (¬ r4 ≠ 0 →
            Q 8 S3)) Z) ∧
      (¬ r2 = 0 →
        Q r2 S1)) ∧
    (¬ r2 ≠ 0 →
      q_c 39 [vR 36] S1 (fun r10 S9 =>
        (r10 = 0 →
          (0 : Int) ≤ 0 ∧ (0 : Int) < 16 ∧
          (0 : Int) ≤ 0 ∧ (0 : Int) < 16 ∧
          (0 : Int) ≤ 0 ∧ (0 : Int) < 8 ∧
          (0 : Int) ≤ 0 ∧ (0 : Int) < 64 ∧
          q_c 45 [vR 36] (q_up (q_up (q_up S9 38 0 (-1)) 39 0 1) 40 0 (S9 42 0)) (fun r12 S11 =>
            (r12 ≠ 0 →
              q_c 48 [vR 36] S11 (fun _ S13 =>
                q_c 51 [vR 36] S13 (fun _ S15 =>
                  q_bo 1 ∧
                  Q 0 (q_up S15 36 4 1)) Z) Z) ∧
            (¬ r12 ≠ 0 →
              Q 8 S11)) Z) ∧
        (¬ r10 = 0 →
          Q r10 S9)) Z)) Z) : q_c 40 [vR 36] S Q Z := q_blk 95 h
-- LMModel.place
theorem b_41_0 {Q : q_Q} {Z : q_Z} {S : q_S} (h : Q (S 36 3) (q_up S 36 0 0)) : q_c 41 [vR 36] S Q Z := q_blk 6 h
-- LMModel.close
theorem b_42_0 {Q : q_Q} {Z : q_Z} {S : q_S} (h : q_r 42 2 [vR 36, vI 1, vU, vU, vU, vU] [] S Q Z) : q_c 42 [vR 36] S Q Z := q_blk 2 h
-- LMModel.close
theorem b_42_2 {Q : q_Q} {Z : q_Z} {a1 : Int} {j2 j3 j4 j5 : q_J} {S : q_S} (h : (a1 = 0 →
    Q 0 S) ∧
  (¬ a1 = 0 →
    q_r 42 10 [vR 36, vI 0, vI 0, vJ j3, vJ j4, vJ j5] [] S Q Z)) : q_r 42 2 [vR 36, vI a1, vJ j2, vJ j3, vJ j4, vJ j5] [] S Q Z := q_blk 7 h
-- LMModel.close
set_option maxRecDepth 20000 in
theorem b_42_10 {Q : q_Q} {Z : q_Z} {a1 a2 : Int} {j3 j4 j5 : q_J} {S : q_S} (h : (a2 ≥ 128 →
    q_r 42 2 [vR 36, vI a1, vI a2, vJ j3, vJ j4, vJ j5] [] S Q Z) ∧
  (¬ a2 ≥ 128 →
    0 ≤ a2 ∧ (0 : Int) < 8 ∧
    0 ≤ a2 ∧ a2 < 128 ∧
    ((S 51 a2) = 0 →
      q_r 42 67 [vR 36, vI a1, vI a2, vI (a2 / 8), vI 8, vI 1] [] S Q Z) ∧
    (¬ (S 51 a2) = 0 →
      0 ≤ a2 ∧ (0 : Int) < 8 ∧
      0 ≤ (a2 / 8) ∧ (a2 / 8) < 16 ∧
      ((a2 % 8) ≥ (S 39 (a2 / 8)) →
        q_r 42 67 [vR 36, vI a1, vI a2, vI (a2 / 8), vI 8, vI 1] [] S Q Z) ∧
      (¬ (a2 % 8) ≥ (S 39 (a2 / 8)) →
        q_rg (4 * (a2 / 8)) ∧
        0 ≤ a2 ∧ (0 : Int) < 8 ∧
        q_rg ((4 * (a2 / 8)) + (a2 % 8)) ∧
        0 ≤ ((4 * (a2 / 8)) + (a2 % 8)) ∧ ((4 * (a2 / 8)) + (a2 % 8)) < 64 ∧
        q_r 42 67 [vR 36, vI a1, vI a2, vI (a2 / 8), vI (S 40 ((4 * (a2 / 8)) + (a2 % 8))), vI 1] [] S Q Z)))) : q_r 42 10 [vR 36, vI a1, vI a2, vJ j3, vJ j4, vJ j5] [] S Q Z := q_blk 43 h
-- LMModel.close
theorem b_42_67 {Q : q_Q} {Z : q_Z} {a1 a2 a4 a5 : Int} {j3 : q_J} {S : q_S} (h : (a5 > (S 36 5) →
    q_rg (a2 + 1) ∧
    q_r 42 10 [vR 36, vI a1, vI (a2 + 1), vJ j3, vI a4, vI a5] [] S Q Z) ∧
  (¬ a5 > (S 36 5) →
    (a4 ≥ 8 →
      q_rg (a2 + 1) ∧
      q_r 42 10 [vR 36, vI a1, vI (a2 + 1), vJ j3, vI a4, vI a5] [] S Q Z) ∧
    (¬ a4 ≥ 8 →
      0 ≤ a5 ∧ a5 < 16 ∧
      ((S 38 a5) ≠ a4 →
        q_rg (a5 + 1) ∧
        q_r 42 67 [vR 36, vI a1, vI a2, vJ j3, vI a4, vI (a5 + 1)] [] S Q Z) ∧
      (¬ (S 38 a5) ≠ a4 →
        q_rg (8 * a5) ∧
        0 ≤ (8 * a5) ∧ (8 * a5) < 128 ∧
        ((S 51 (8 * a5)) ≠ 0 →
          q_rg (a5 + 1) ∧
          q_r 42 67 [vR 36, vI a1, vI a2, vJ j3, vI a4, vI (a5 + 1)] [] S Q Z) ∧
        (¬ (S 51 (8 * a5)) ≠ 0 →
          q_rg (8 * a5) ∧
          0 ≤ (8 * a5) ∧ (8 * a5) < 128 ∧
          q_bo 1 ∧
          q_rg (a5 + 1) ∧
          q_r 42 67 [vR 36, vI 1, vI a2, vJ j3, vI a4, vI (a5 + 1)] [] (q_up S 51 (8 * a5) 1) Q Z))))) : q_r 42 67 [vR 36, vI a1, vI a2, vJ j3, vI a4, vI a5] [] S Q Z := q_blk 39 h
-- LMModel.numbered
theorem b_43_0 {Q : q_Q} {Z : q_Z} {S : q_S} (h : q_c 42 [vR 36] S (fun _ S1 =>
    q_r 43 6 [vR 36, vI 0, vU, vU] [] S1 Q Z) Z) : q_c 43 [vR 36] S Q Z := q_blk 4 h
-- LMModel.numbered
theorem b_43_6 {Q : q_Q} {Z : q_Z} {a1 : Int} {j2 j3 : q_J} {S : q_S} (h : (a1 ≥ (S 36 17) →
    ((S 36 17) ≠ 40 →
      q_r 43 87 [vR 36, vI 0, vJ j2, vJ j3] [] S Q Z) ∧
    (¬ (S 36 17) ≠ 40 →
      Q (-1) S)) ∧
  (¬ a1 ≥ (S 36 17) →
    q_r 43 18 [vR 36, vI a1, vI 1, vI 0] [] S Q Z)) : q_r 43 6 [vR 36, vI a1, vJ j2, vJ j3] [] S Q Z := q_blk 16 h
-- LMModel.numbered
theorem b_43_18 {Q : q_Q} {Z : q_Z} {a1 a2 a3 : Int} {S : q_S} (h : (a3 ≥ 128 →
    (a2 = 0 →
      q_rg (a1 + 1) ∧
      q_r 43 6 [vR 36, vI (a1 + 1), vI a2, vI a3] [] S Q Z) ∧
    (¬ a2 = 0 →
      Q a1 S)) ∧
  (¬ a3 ≥ 128 →
    (a2 = 0 →
      q_rg (a3 + 1) ∧
      q_r 43 18 [vR 36, vI a1, vI 0, vI (a3 + 1)] [] S Q Z) ∧
    (¬ a2 = 0 →
      q_rg (128 * a1) ∧
      q_rg ((128 * a1) + a3) ∧
      0 ≤ ((128 * a1) + a3) ∧ ((128 * a1) + a3) < 5120 ∧
      0 ≤ a3 ∧ a3 < 128 ∧
      ((S 48 ((128 * a1) + a3)) ≠ (S 51 a3) →
        q_rg (a3 + 1) ∧
        q_r 43 18 [vR 36, vI a1, vI 0, vI (a3 + 1)] [] S Q Z) ∧
      (¬ (S 48 ((128 * a1) + a3)) ≠ (S 51 a3) →
        q_rg (a3 + 1) ∧
        q_r 43 18 [vR 36, vI a1, vI 1, vI (a3 + 1)] [] S Q Z)))) : q_r 43 18 [vR 36, vI a1, vI a2, vI a3] [] S Q Z := q_blk 37 h
-- LMModel.numbered
theorem b_43_87 {Q : q_Q} {Z : q_Z} {a1 : Int} {j2 j3 : q_J} {S : q_S} (h : (a1 ≥ 128 →
    q_rg ((S 36 17) + 1) ∧
    q_rg (((S 36 17) + 1) - 1) ∧
    Q (((S 36 17) + 1) - 1) (q_up S 36 17 ((S 36 17) + 1))) ∧
  (¬ a1 ≥ 128 →
    q_rg (128 * (S 36 17)) ∧
    q_rg ((128 * (S 36 17)) + a1) ∧
    0 ≤ a1 ∧ a1 < 128 ∧
    0 ≤ ((128 * (S 36 17)) + a1) ∧ ((128 * (S 36 17)) + a1) < 5120 ∧
    q_bo (S 51 a1) ∧
    q_rg (a1 + 1) ∧
    q_r 43 87 [vR 36, vI (a1 + 1), vJ j2, vJ j3] [] (q_up S 48 ((128 * (S 36 17)) + a1) (S 51 a1)) Q Z)) : q_r 43 87 [vR 36, vI a1, vJ j2, vJ j3] [] S Q Z := q_blk 29 h
-- LMModel.move
theorem b_44_0 {Q : q_Q} {Z : q_Z} {a1 a2 : Int} {S : q_S} (h : q_r 44 5 [vR 36, vI a1, vI a2, vI 0, vI 0, vU] [] S Q Z) : q_c 44 [vR 36, vI a1, vI a2] S Q Z := q_blk 4 h
-- LMModel.move
theorem b_44_5 {Q : q_Q} {Z : q_Z} {a1 a2 a3 a4 : Int} {j5 : q_J} {S : q_S} (h : (a4 ≥ 128 →
    q_r 44 30 [vR 36, vI a1, vI a2, vI a3, vI 0, vJ j5] [] S Q Z) ∧
  (¬ a4 ≥ 128 →
    0 ≤ a4 ∧ a4 < 128 ∧
    q_bo 0 ∧
    q_rg (a4 + 1) ∧
    q_r 44 5 [vR 36, vI a1, vI a2, vI a3, vI (a4 + 1), vJ j5] [] (q_up S 51 a4 0) Q Z)) : q_r 44 5 [vR 36, vI a1, vI a2, vI a3, vI a4, vJ j5] [] S Q Z := q_blk 12 h
-- LMModel.move
set_option maxRecDepth 20000 in
theorem b_44_30 {Q : q_Q} {Z : q_Z} {a1 a2 a3 a4 : Int} {j5 : q_J} {S : q_S} (h : (a4 ≥ 128 →
    q_bo a3 ∧ Q a3 S) ∧
  (¬ a4 ≥ 128 →
    0 ≤ a4 ∧ (0 : Int) < 8 ∧
    q_rg (128 * a1) ∧
    q_rg ((128 * a1) + a4) ∧
    0 ≤ ((128 * a1) + a4) ∧ ((128 * a1) + a4) < 5120 ∧
    ((S 48 ((128 * a1) + a4)) = 0 →
      q_rg (a4 + 1) ∧
      q_r 44 30 [vR 36, vI a1, vI a2, vI a3, vI (a4 + 1), vI (a4 / 8)] [] S Q Z) ∧
    (¬ (S 48 ((128 * a1) + a4)) = 0 →
      0 ≤ a4 ∧ (0 : Int) < 8 ∧
      0 ≤ (a4 / 8) ∧ (a4 / 8) < 16 ∧
      ((a4 % 8) ≥ (S 39 (a4 / 8)) →
        q_rg (a4 + 1) ∧
        q_r 44 30 [vR 36, vI a1, vI a2, vI a3, vI (a4 + 1), vI (a4 / 8)] [] S Q Z) ∧
      (¬ (a4 % 8) ≥ (S 39 (a4 / 8)) →
        q_rg (4 * (a4 / 8)) ∧
        0 ≤ a4 ∧ (0 : Int) < 8 ∧
        q_rg ((4 * (a4 / 8)) + (a4 % 8)) ∧
        0 ≤ ((4 * (a4 / 8)) + (a4 % 8)) ∧ ((4 * (a4 / 8)) + (a4 % 8)) < 64 ∧
        ((S 40 ((4 * (a4 / 8)) + (a4 % 8))) ≠ a2 →
          q_rg (a4 + 1) ∧
          q_r 44 30 [vR 36, vI a1, vI a2, vI a3, vI (a4 + 1), vI (a4 / 8)] [] S Q Z) ∧
        (¬ (S 40 ((4 * (a4 / 8)) + (a4 % 8))) ≠ a2 →
          q_rg (a4 + 1) ∧
          0 ≤ (a4 + 1) ∧ (a4 + 1) < 128 ∧
          q_bo 1 ∧
          q_rg (a4 + 1) ∧
          q_r 44 30 [vR 36, vI a1, vI a2, vI 1, vI (a4 + 1), vI (a4 / 8)] [] (q_up S 51 (a4 + 1) 1) Q Z))))) : q_r 44 30 [vR 36, vI a1, vI a2, vI a3, vI a4, vJ j5] [] S Q Z := q_blk 55 h
-- LMModel.findStates
theorem b_45_0 {Q : q_Q} {Z : q_Z} {S : q_S} (h : q_r 45 2 [vR 36, vI 0, vU, vU, vU] [] S Q Z) : q_c 45 [vR 36] S Q Z := q_blk 2 h
-- LMModel.findStates
theorem b_45_2 {Q : q_Q} {Z : q_Z} {a1 : Int} {j2 j3 j4 : q_J} {S : q_S} (h : (a1 ≥ 128 →
    q_c 43 [vR 36] (q_up S 36 17 0) (fun r2 S1 =>
      q_r 45 42 [vR 36, vI r2, vI 0, vJ j3, vJ j4] [] S1 Q Z) Z) ∧
  (¬ a1 ≥ 128 →
    (a1 ≠ 0 →
      0 ≤ a1 ∧ a1 < 128 ∧
      q_bo 0 ∧
      q_rg (a1 + 1) ∧
      q_r 45 2 [vR 36, vI (a1 + 1), vJ j2, vJ j3, vJ j4] [] (q_up S 51 a1 0) Q Z) ∧
    (¬ a1 ≠ 0 →
      0 ≤ a1 ∧ a1 < 128 ∧
      q_bo 1 ∧
      q_rg (a1 + 1) ∧
      q_r 45 2 [vR 36, vI (a1 + 1), vJ j2, vJ j3, vJ j4] [] (q_up S 51 a1 1) Q Z))) : q_r 45 2 [vR 36, vI a1, vJ j2, vJ j3, vJ j4] [] S Q Z := q_blk 25 h
-- LMModel.findStates
theorem b_45_42 {Q : q_Q} {Z : q_Z} {a2 : Int} {j1 j3 j4 : q_J} {S : q_S} (h : (a2 ≥ (S 36 17) →
    q_bo 1 ∧ Q 1 S) ∧
  (¬ a2 ≥ (S 36 17) →
    q_r 45 52 [vR 36, vJ j1, vI a2, vI 0, vJ j4] [] S Q Z)) : q_r 45 42 [vR 36, vJ j1, vI a2, vJ j3, vJ j4] [] S Q Z := q_blk 8 h
-- LMModel.findStates
set_option maxRecDepth 20000 in
theorem b_45_52 {Q : q_Q} {Z : q_Z} {a2 a3 : Int} {j1 j4 : q_J} {S : q_S} (h : (a3 ≥ 16 →
    q_rg (a2 + 1) ∧
    q_r 45 42 [vR 36, vJ j1, vI (a2 + 1), vI a3, vJ j4] [] S Q Z) ∧
  (¬ a3 ≥ 16 →
    q_c 44 [vR 36, vI a2, vI a3] S (fun r2 S1 =>
      (r2 = 0 →
        q_rg (16 * a2) ∧
        q_rg ((16 * a2) + a3) ∧
        0 ≤ ((16 * a2) + a3) ∧ ((16 * a2) + a3) < 640 ∧
        q_rg (a3 + 1) ∧
        q_r 45 52 [vR 36, vJ j1, vI a2, vI (a3 + 1), vI (-1)] [] (q_up S1 50 ((16 * a2) + a3) (-1)) Q Z) ∧
      (¬ r2 = 0 →
        q_c 43 [vR 36] S1 (fun r4 S3 =>
          (r4 ≥ 0 →
            q_rg (16 * a2) ∧
            q_rg ((16 * a2) + a3) ∧
            0 ≤ ((16 * a2) + a3) ∧ ((16 * a2) + a3) < 640 ∧
            q_rg (a3 + 1) ∧
            q_r 45 52 [vR 36, vJ j1, vI a2, vI (a3 + 1), vI r4] [] (q_up S3 50 ((16 * a2) + a3) r4) Q Z) ∧
          (¬ r4 ≥ 0 →
            q_bo 0 ∧ Q 0 S3)) Z)) Z)) : q_r 45 52 [vR 36, vJ j1, vI a2, vI a3, vJ j4] [] S Q Z := q_blk 41 h
-- LMModel.isNullable
theorem b_46_0 {Q : q_Q} {Z : q_Z} {a1 a2 : Int} {S : q_S} (h : q_r 46 5 [vR 36, vI a1, vI a2, vI 1, vI a2] [] S Q Z) : q_c 46 [vR 36, vI a1, vI a2] S Q Z := q_blk 4 h
-- LMModel.isNullable
set_option maxRecDepth 20000 in
theorem b_46_5 {Q : q_Q} {Z : q_Z} {a1 a3 a4 : Int} {j2 : q_J} {S : q_S} (h : 0 ≤ a1 ∧ a1 < 16 ∧
  (a4 ≥ (S 39 a1) →
    q_bo a3 ∧ Q a3 S) ∧
  (¬ a4 ≥ (S 39 a1) →
    (a3 = 0 →
      q_rg (a4 + 1) ∧
      q_r 46 5 [vR 36, vI a1, vJ j2, vI 0, vI (a4 + 1)] [] S Q Z) ∧
    (¬ a3 = 0 →
      q_rg (4 * a1) ∧
      q_rg ((4 * a1) + a4) ∧
      0 ≤ ((4 * a1) + a4) ∧ ((4 * a1) + a4) < 64 ∧
      ((S 40 ((4 * a1) + a4)) ≥ 8 →
        q_rg (a4 + 1) ∧
        q_r 46 5 [vR 36, vI a1, vJ j2, vI 0, vI (a4 + 1)] [] S Q Z) ∧
      (¬ (S 40 ((4 * a1) + a4)) ≥ 8 →
        q_rg (4 * a1) ∧
        q_rg ((4 * a1) + a4) ∧
        0 ≤ ((4 * a1) + a4) ∧ ((4 * a1) + a4) < 64 ∧
        0 ≤ (S 40 ((4 * a1) + a4)) ∧ (S 40 ((4 * a1) + a4)) < 8 ∧
        ((S 45 (S 40 ((4 * a1) + a4))) = 0 →
          q_rg (a4 + 1) ∧
          q_r 46 5 [vR 36, vI a1, vJ j2, vI 0, vI (a4 + 1)] [] S Q Z) ∧
        (¬ (S 45 (S 40 ((4 * a1) + a4))) = 0 →
          q_rg (a4 + 1) ∧
          q_r 46 5 [vR 36, vI a1, vJ j2, vI 1, vI (a4 + 1)] [] S Q Z))))) : q_r 46 5 [vR 36, vI a1, vJ j2, vI a3, vI a4] [] S Q Z := q_blk 49 h
-- LMModel.firstOf
theorem b_47_0 {Q : q_Q} {Z : q_Z} {a1 a2 : Int} {S : q_S} (h : q_r 47 8 [vR 36, vI a1, vI a2, vI 0, vI 1, vI a2, vU] [] S Q Z) : q_c 47 [vR 36, vI a1, vI a2] S Q Z := q_blk 6 h
-- LMModel.firstOf
set_option maxRecDepth 20000 in
theorem b_47_8 {Q : q_Q} {Z : q_Z} {a1 a3 a4 a5 : Int} {j2 j6 : q_J} {S : q_S} (h : 0 ≤ a1 ∧ a1 < 16 ∧
  (a5 ≥ (S 39 a1) →
    Q a3 S) ∧
  (¬ a5 ≥ (S 39 a1) →
    q_rg (4 * a1) ∧
    q_rg ((4 * a1) + a5) ∧
    0 ≤ ((4 * a1) + a5) ∧ ((4 * a1) + a5) < 64 ∧
    (a4 ≠ 0 →
      ((S 40 ((4 * a1) + a5)) ≥ 8 →
        q_rg ((S 40 ((4 * a1) + a5)) - 8) ∧
        (a4 = 0 →
          q_rg (a5 + 1) ∧
          q_r 47 8 [vR 36, vI a1, vJ j2, vI (q_or a3 (q_shl 1 ((S 40 ((4 * a1) + a5)) - 8))), vI 0, vI (a5 + 1), vI (S 40 ((4 * a1) + a5))] [] S Q Z) ∧
        (¬ a4 = 0 →
          ((S 40 ((4 * a1) + a5)) ≥ 8 →
            q_rg (a5 + 1) ∧
            q_r 47 8 [vR 36, vI a1, vJ j2, vI (q_or a3 (q_shl 1 ((S 40 ((4 * a1) + a5)) - 8))), vI 0, vI (a5 + 1), vI (S 40 ((4 * a1) + a5))] [] S Q Z) ∧
          (¬ (S 40 ((4 * a1) + a5)) ≥ 8 →
            0 ≤ (S 40 ((4 * a1) + a5)) ∧ (S 40 ((4 * a1) + a5)) < 8 ∧
            ((S 45 (S 40 ((4 * a1) + a5))) = 0 →
              q_rg (a5 + 1) ∧
              q_r 47 8 [vR 36, vI a1, vJ j2, vI (q_or a3 (q_shl 1 ((S 40 ((4 * a1) + a5)) - 8))), vI 0, vI (a5 + 1), vI (S 40 ((4 * a1) + a5))] [] S Q Z) ∧
            (¬ (S 45 (S 40 ((4 * a1) + a5))) = 0 →
              q_rg (a5 + 1) ∧
              q_r 47 8 [vR 36, vI a1, vJ j2, vI (q_or a3 (q_shl 1 ((S 40 ((4 * a1) + a5)) - 8))), vI 1, vI (a5 + 1), vI (S 40 ((4 * a1) + a5))] [] S Q Z)))) ∧
      (¬ (S 40 ((4 * a1) + a5)) ≥ 8 →
        0 ≤ (S 40 ((4 * a1) + a5)) ∧ (S 40 ((4 * a1) + a5)) < 8 ∧
        (a4 = 0 →
          q_rg (a5 + 1) ∧
          q_r 47 8 [vR 36, vI a1, vJ j2, vI (q_or a3 (S 46 (S 40 ((4 * a1) + a5)))), vI 0, vI (a5 + 1), vI (S 40 ((4 * a1) + a5))] [] S Q Z) ∧
        (¬ a4 = 0 →
          ((S 40 ((4 * a1) + a5)) ≥ 8 →
            q_rg (a5 + 1) ∧
            q_r 47 8 [vR 36, vI a1, vJ j2, vI (q_or a3 (S 46 (S 40 ((4 * a1) + a5)))), vI 0, vI (a5 + 1), vI (S 40 ((4 * a1) + a5))] [] S Q Z) ∧
          (¬ (S 40 ((4 * a1) + a5)) ≥ 8 →
            0 ≤ (S 40 ((4 * a1) + a5)) ∧ (S 40 ((4 * a1) + a5)) < 8 ∧
            ((S 45 (S 40 ((4 * a1) + a5))) = 0 →
              q_rg (a5 + 1) ∧
              q_r 47 8 [vR 36, vI a1, vJ j2, vI (q_or a3 (S 46 (S 40 ((4 * a1) + a5)))), vI 0, vI (a5 + 1), vI (S 40 ((4 * a1) + a5))] [] S Q Z) ∧
            (¬ (S 45 (S 40 ((4 * a1) + a5))) = 0 →
              q_rg (a5 + 1) ∧
              q_r 47 8 [vR 36, vI a1, vJ j2, vI (q_or a3 (S 46 (S 40 ((4 * a1) + a5)))), vI 1, vI (a5 + 1), vI (S 40 ((4 * a1) + a5))] [] S Q Z))))) ∧
    (¬ a4 ≠ 0 →
      (a4 = 0 →
        q_rg (a5 + 1) ∧
        q_r 47 8 [vR 36, vI a1, vJ j2, vI a3, vI 0, vI (a5 + 1), vI (S 40 ((4 * a1) + a5))] [] S Q Z) ∧
      (¬ a4 = 0 →
        ((S 40 ((4 * a1) + a5)) ≥ 8 →
          q_rg (a5 + 1) ∧
          q_r 47 8 [vR 36, vI a1, vJ j2, vI a3, vI 0, vI (a5 + 1), vI (S 40 ((4 * a1) + a5))] [] S Q Z) ∧
        (¬ (S 40 ((4 * a1) + a5)) ≥ 8 →
          0 ≤ (S 40 ((4 * a1) + a5)) ∧ (S 40 ((4 * a1) + a5)) < 8 ∧
          ((S 45 (S 40 ((4 * a1) + a5))) = 0 →
            q_rg (a5 + 1) ∧
            q_r 47 8 [vR 36, vI a1, vJ j2, vI a3, vI 0, vI (a5 + 1), vI (S 40 ((4 * a1) + a5))] [] S Q Z) ∧
          (¬ (S 45 (S 40 ((4 * a1) + a5))) = 0 →
            q_rg (a5 + 1) ∧
            q_r 47 8 [vR 36, vI a1, vJ j2, vI a3, vI 1, vI (a5 + 1), vI (S 40 ((4 * a1) + a5))] [] S Q Z)))))) : q_r 47 8 [vR 36, vI a1, vJ j2, vI a3, vI a4, vI a5, vJ j6] [] S Q Z := q_blk 122 h
-- LMModel.findSets
theorem b_48_0 {Q : q_Q} {Z : q_Z} {S : q_S} (h : q_r 48 2 [vR 36, vI 0, vU, vU, vU] [] S Q Z) : q_c 48 [vR 36] S Q Z := q_blk 2 h
-- LMModel.findSets
theorem b_48_2 {Q : q_Q} {Z : q_Z} {a1 : Int} {j2 j3 j4 : q_J} {S : q_S} (h : (a1 ≥ 8 →
    q_r 48 53 [vR 36, vI 0, vJ j2, vJ j3, vJ j4] [] S Q Z) ∧
  (¬ a1 ≥ 8 →
    0 ≤ a1 ∧ a1 < 8 ∧
    q_bo 0 ∧
    0 ≤ a1 ∧ a1 < 8 ∧
    (0 : Int) ≤ 0 ∧ (0 : Int) < 8 ∧
    (a1 ≠ (S 42 0) →
      0 ≤ a1 ∧ a1 < 8 ∧
      q_rg (a1 + 1) ∧
      q_r 48 2 [vR 36, vI (a1 + 1), vJ j2, vJ j3, vJ j4] [] (q_up (q_up (q_up S 45 a1 0) 46 a1 0) 47 a1 0) Q Z) ∧
    (¬ a1 ≠ (S 42 0) →
      0 ≤ a1 ∧ a1 < 8 ∧
      q_rg (a1 + 1) ∧
      q_r 48 2 [vR 36, vI (a1 + 1), vJ j2, vJ j3, vJ j4] [] (q_up (q_up (q_up S 45 a1 0) 46 a1 0) 47 a1 256) Q Z))) : q_r 48 2 [vR 36, vI a1, vJ j2, vJ j3, vJ j4] [] S Q Z := q_blk 33 h
-- LMModel.findSets
theorem b_48_53 {Q : q_Q} {Z : q_Z} {a1 : Int} {j2 j3 j4 : q_J} {S : q_S} (h : (a1 ≥ 150 →
    q_r 48 123 [vR 36, vI 0, vJ j2, vJ j3, vJ j4] [] S Q Z) ∧
  (¬ a1 ≥ 150 →
    q_r 48 62 [vR 36, vI a1, vI 1, vJ j3, vJ j4] [] S Q Z)) : q_r 48 53 [vR 36, vI a1, vJ j2, vJ j3, vJ j4] [] S Q Z := q_blk 7 h
-- LMModel.findSets
theorem b_48_62 {Q : q_Q} {Z : q_Z} {a1 a2 : Int} {j3 j4 : q_J} {S : q_S} (h : (a2 > (S 36 5) →
    q_rg (a1 + 1) ∧
    q_r 48 53 [vR 36, vI (a1 + 1), vI a2, vJ j3, vJ j4] [] S Q Z) ∧
  (¬ a2 > (S 36 5) →
    0 ≤ a2 ∧ a2 < 16 ∧
    0 ≤ a2 ∧ a2 < 16 ∧
    0 ≤ (S 38 a2) ∧ (S 38 a2) < 8 ∧
    ((S 45 (S 38 a2)) ≠ 0 →
      0 ≤ (S 38 a2) ∧ (S 38 a2) < 8 ∧
      q_bo 1 ∧
      q_rg (a2 + 1) ∧
      q_r 48 62 [vR 36, vI a1, vI (a2 + 1), vJ j3, vJ j4] [] (q_up S 45 (S 38 a2) 1) Q Z) ∧
    (¬ (S 45 (S 38 a2)) ≠ 0 →
      q_c 46 [vR 36, vI a2, vI 0] S (fun r2 S1 =>
        (r2 = 0 →
          0 ≤ (S 38 a2) ∧ (S 38 a2) < 8 ∧
          q_bo 0 ∧
          q_rg (a2 + 1) ∧
          q_r 48 62 [vR 36, vI a1, vI (a2 + 1), vJ j3, vJ j4] [] (q_up S1 45 (S 38 a2) 0) Q Z) ∧
        (¬ r2 = 0 →
          0 ≤ (S 38 a2) ∧ (S 38 a2) < 8 ∧
          q_bo 1 ∧
          q_rg (a2 + 1) ∧
          q_r 48 62 [vR 36, vI a1, vI (a2 + 1), vJ j3, vJ j4] [] (q_up S1 45 (S 38 a2) 1) Q Z)) Z))) : q_r 48 62 [vR 36, vI a1, vI a2, vJ j3, vJ j4] [] S Q Z := q_blk 39 h
-- LMModel.findSets
theorem b_48_123 {Q : q_Q} {Z : q_Z} {a1 : Int} {j2 j3 j4 : q_J} {S : q_S} (h : (a1 ≥ 70 →
    q_r 48 182 [vR 36, vI 0, vJ j2, vJ j3, vJ j4] [] S Q Z) ∧
  (¬ a1 ≥ 70 →
    q_r 48 131 [vR 36, vI a1, vI 1, vJ j3, vJ j4] [] S Q Z)) : q_r 48 123 [vR 36, vI a1, vJ j2, vJ j3, vJ j4] [] S Q Z := q_blk 7 h
-- LMModel.findSets
theorem b_48_131 {Q : q_Q} {Z : q_Z} {a1 a2 : Int} {j3 j4 : q_J} {S : q_S} (h : (a2 > (S 36 5) →
    q_rg (a1 + 1) ∧
    q_r 48 123 [vR 36, vI (a1 + 1), vI a2, vJ j3, vJ j4] [] S Q Z) ∧
  (¬ a2 > (S 36 5) →
    0 ≤ a2 ∧ a2 < 16 ∧
    0 ≤ a2 ∧ a2 < 16 ∧
    0 ≤ (S 38 a2) ∧ (S 38 a2) < 8 ∧
    q_c 47 [vR 36, vI a2, vI 0] S (fun r2 S1 =>
      0 ≤ (S 38 a2) ∧ (S 38 a2) < 8 ∧
      q_rg (a2 + 1) ∧
      q_r 48 131 [vR 36, vI a1, vI (a2 + 1), vJ j3, vJ j4] [] (q_up S1 46 (S 38 a2) (q_or (S 46 (S 38 a2)) r2)) Q Z) Z)) : q_r 48 131 [vR 36, vI a1, vI a2, vJ j3, vJ j4] [] S Q Z := q_blk 27 h
-- LMModel.findSets
theorem b_48_182 {Q : q_Q} {Z : q_Z} {a1 : Int} {j2 j3 j4 : q_J} {S : q_S} (h : (a1 ≥ 80 →
    Q 0 S) ∧
  (¬ a1 ≥ 80 →
    q_r 48 190 [vR 36, vI a1, vI 1, vJ j3, vJ j4] [] S Q Z)) : q_r 48 182 [vR 36, vI a1, vJ j2, vJ j3, vJ j4] [] S Q Z := q_blk 6 h
-- LMModel.findSets
theorem b_48_190 {Q : q_Q} {Z : q_Z} {a1 a2 : Int} {j3 j4 : q_J} {S : q_S} (h : (a2 > (S 36 5) →
    q_rg (a1 + 1) ∧
    q_r 48 182 [vR 36, vI (a1 + 1), vI a2, vJ j3, vJ j4] [] S Q Z) ∧
  (¬ a2 > (S 36 5) →
    q_r 48 200 [vR 36, vI a1, vI a2, vI 0, vJ j4] [] S Q Z)) : q_r 48 190 [vR 36, vI a1, vI a2, vJ j3, vJ j4] [] S Q Z := q_blk 8 h
-- LMModel.findSets
set_option maxRecDepth 20000 in
theorem b_48_200 {Q : q_Q} {Z : q_Z} {a1 a2 a3 : Int} {j4 : q_J} {S : q_S} (h : 0 ≤ a2 ∧ a2 < 16 ∧
  (a3 ≥ (S 39 a2) →
    q_rg (a2 + 1) ∧
    q_r 48 190 [vR 36, vI a1, vI (a2 + 1), vI a3, vJ j4] [] S Q Z) ∧
  (¬ a3 ≥ (S 39 a2) →
    q_rg (4 * a2) ∧
    q_rg ((4 * a2) + a3) ∧
    0 ≤ ((4 * a2) + a3) ∧ ((4 * a2) + a3) < 64 ∧
    ((S 40 ((4 * a2) + a3)) ≥ 8 →
      q_rg (a3 + 1) ∧
      q_r 48 200 [vR 36, vI a1, vI a2, vI (a3 + 1), vI (S 40 ((4 * a2) + a3))] [] S Q Z) ∧
    (¬ (S 40 ((4 * a2) + a3)) ≥ 8 →
      0 ≤ (S 40 ((4 * a2) + a3)) ∧ (S 40 ((4 * a2) + a3)) < 8 ∧
      q_rg (a3 + 1) ∧
      q_c 47 [vR 36, vI a2, vI (a3 + 1)] S (fun r2 S1 =>
        q_rg (a3 + 1) ∧
        q_c 46 [vR 36, vI a2, vI (a3 + 1)] S1 (fun r4 S3 =>
          (r4 = 0 →
            0 ≤ (S 40 ((4 * a2) + a3)) ∧ (S 40 ((4 * a2) + a3)) < 8 ∧
            q_rg (a3 + 1) ∧
            q_r 48 200 [vR 36, vI a1, vI a2, vI (a3 + 1), vI (S 40 ((4 * a2) + a3))] [] (q_up S3 47 (S 40 ((4 * a2) + a3)) (q_or (q_or (S 47 (S 40 ((4 * a2) + a3))) r2) 0)) Q Z) ∧
          (¬ r4 = 0 →
            0 ≤ a2 ∧ a2 < 16 ∧
            0 ≤ (S3 38 a2) ∧ (S3 38 a2) < 8 ∧
            0 ≤ (S 40 ((4 * a2) + a3)) ∧ (S 40 ((4 * a2) + a3)) < 8 ∧
            q_rg (a3 + 1) ∧
            q_r 48 200 [vR 36, vI a1, vI a2, vI (a3 + 1), vI (S 40 ((4 * a2) + a3))] [] (q_up S3 47 (S 40 ((4 * a2) + a3)) (q_or (q_or (S 47 (S 40 ((4 * a2) + a3))) r2) (S3 47 (S3 38 a2)))) Q Z)) Z) Z))) : q_r 48 200 [vR 36, vI a1, vI a2, vI a3, vJ j4] [] S Q Z := q_blk 60 h
-- LMModel.widen
theorem b_49_0 {Q : q_Q} {Z : q_Z} {a1 a2 a3 : Int} {S : q_S} (h : q_rg (128 * a1) ∧
  q_rg ((128 * a1) + a2) ∧
  0 ≤ ((128 * a1) + a2) ∧ ((128 * a1) + a2) < 5120 ∧
  q_rg (128 * a1) ∧
  q_rg ((128 * a1) + a2) ∧
  0 ≤ ((128 * a1) + a2) ∧ ((128 * a1) + a2) < 5120 ∧
  ((q_and a3 (q_xor (S 49 ((128 * a1) + a2)) (-1))) = 0 →
    q_bo 0 ∧ Q 0 (q_up S 49 ((128 * a1) + a2) (q_or (S 49 ((128 * a1) + a2)) a3))) ∧
  (¬ (q_and a3 (q_xor (S 49 ((128 * a1) + a2)) (-1))) = 0 →
    q_bo 1 ∧ Q 1 (q_up S 49 ((128 * a1) + a2) (q_or (S 49 ((128 * a1) + a2)) a3)))) : q_c 49 [vR 36, vI a1, vI a2, vI a3] S Q Z := q_blk 31 h
-- LMModel.handOn
set_option maxRecDepth 20000 in
theorem b_50_0 {Q : q_Q} {Z : q_Z} {a1 a2 : Int} {S : q_S} (h : 0 ≤ a2 ∧ (0 : Int) < 8 ∧
  0 ≤ a2 ∧ (0 : Int) < 8 ∧
  q_rg (128 * a1) ∧
  q_rg ((128 * a1) + a2) ∧
  0 ≤ ((128 * a1) + a2) ∧ ((128 * a1) + a2) < 5120 ∧
  ((S 48 ((128 * a1) + a2)) = 0 →
    q_bo 0 ∧ Q 0 S) ∧
  (¬ (S 48 ((128 * a1) + a2)) = 0 →
    0 ≤ (a2 / 8) ∧ (a2 / 8) < 16 ∧
    ((a2 % 8) < (S 39 (a2 / 8)) →
      q_rg (128 * a1) ∧
      q_rg ((128 * a1) + a2) ∧
      0 ≤ ((128 * a1) + a2) ∧ ((128 * a1) + a2) < 5120 ∧
      q_rg (4 * (a2 / 8)) ∧
      q_rg ((4 * (a2 / 8)) + (a2 % 8)) ∧
      0 ≤ ((4 * (a2 / 8)) + (a2 % 8)) ∧ ((4 * (a2 / 8)) + (a2 % 8)) < 64 ∧
      q_rg (16 * a1) ∧
      q_rg ((16 * a1) + (S 40 ((4 * (a2 / 8)) + (a2 % 8)))) ∧
      0 ≤ ((16 * a1) + (S 40 ((4 * (a2 / 8)) + (a2 % 8)))) ∧ ((16 * a1) + (S 40 ((4 * (a2 / 8)) + (a2 % 8)))) < 640 ∧
      q_rg (a2 + 1) ∧
      q_c 49 [vR 36, vI (S 50 ((16 * a1) + (S 40 ((4 * (a2 / 8)) + (a2 % 8))))), vI (a2 + 1), vI (S 49 ((128 * a1) + a2))] S (fun r2 S1 =>
        ((S 40 ((4 * (a2 / 8)) + (a2 % 8))) ≥ 8 →
          q_r 50 133 [vR 36, vI a1, vI a2, vI (a2 / 8), vI (a2 % 8), vI (S 49 ((128 * a1) + a2)), vI (S 40 ((4 * (a2 / 8)) + (a2 % 8))), vI r2, vI 0, vI 1, vU] [] S1 Q Z) ∧
        (¬ (S 40 ((4 * (a2 / 8)) + (a2 % 8))) ≥ 8 →
          q_rg ((a2 % 8) + 1) ∧
          q_c 47 [vR 36, vI (a2 / 8), vI ((a2 % 8) + 1)] S1 (fun r4 S3 =>
            q_rg ((a2 % 8) + 1) ∧
            q_c 46 [vR 36, vI (a2 / 8), vI ((a2 % 8) + 1)] S3 (fun r6 S5 =>
              (r6 = 0 →
                q_r 50 133 [vR 36, vI a1, vI a2, vI (a2 / 8), vI (a2 % 8), vI (S 49 ((128 * a1) + a2)), vI (S 40 ((4 * (a2 / 8)) + (a2 % 8))), vI r2, vI (q_or r4 0), vI 1, vU] [] S5 Q Z) ∧
              (¬ r6 = 0 →
                q_r 50 133 [vR 36, vI a1, vI a2, vI (a2 / 8), vI (a2 % 8), vI (S 49 ((128 * a1) + a2)), vI (S 40 ((4 * (a2 / 8)) + (a2 % 8))), vI r2, vI (q_or r4 (S 49 ((128 * a1) + a2))), vI 1, vU] [] S5 Q Z)) Z) Z)) Z) ∧
    (¬ (a2 % 8) < (S 39 (a2 / 8)) →
      q_bo 0 ∧ Q 0 S))) : q_c 50 [vR 36, vI a1, vI a2] S Q Z := q_blk 93 h
-- LMModel.handOn
set_option maxRecDepth 20000 in
theorem b_50_133 {Q : q_Q} {Z : q_Z} {a1 a6 a7 a8 a9 : Int} {j2 j3 j4 j5 j10 : q_J} {S : q_S} (h : (a9 > (S 36 5) →
    q_bo a7 ∧ Q a7 S) ∧
  (¬ a9 > (S 36 5) →
    (a6 ≥ 8 →
      q_bo a7 ∧ Q a7 S) ∧
    (¬ a6 ≥ 8 →
      0 ≤ a9 ∧ a9 < 16 ∧
      ((S 38 a9) ≠ a6 →
        (a7 ≠ 0 →
          q_rg (a9 + 1) ∧
          q_r 50 133 [vR 36, vI a1, vJ j2, vJ j3, vJ j4, vJ j5, vI a6, vI 1, vI a8, vI (a9 + 1), vI 0] [] S Q Z) ∧
        (¬ a7 ≠ 0 →
          ((0 : Int) = 0 →
            q_rg (a9 + 1) ∧
            q_r 50 133 [vR 36, vI a1, vJ j2, vJ j3, vJ j4, vJ j5, vI a6, vI 0, vI a8, vI (a9 + 1), vI 0] [] S Q Z) ∧
          (¬ (0 : Int) = 0 →
            q_rg (a9 + 1) ∧
            q_r 50 133 [vR 36, vI a1, vJ j2, vJ j3, vJ j4, vJ j5, vI a6, vI 1, vI a8, vI (a9 + 1), vI 0] [] S Q Z))) ∧
      (¬ (S 38 a9) ≠ a6 →
        q_rg (8 * a9) ∧
        q_c 49 [vR 36, vI a1, vI (8 * a9), vI a8] S (fun r2 S1 =>
          (r2 = 0 →
            (a7 ≠ 0 →
              q_rg (a9 + 1) ∧
              q_r 50 133 [vR 36, vI a1, vJ j2, vJ j3, vJ j4, vJ j5, vI a6, vI 1, vI a8, vI (a9 + 1), vI 0] [] S1 Q Z) ∧
            (¬ a7 ≠ 0 →
              ((0 : Int) = 0 →
                q_rg (a9 + 1) ∧
                q_r 50 133 [vR 36, vI a1, vJ j2, vJ j3, vJ j4, vJ j5, vI a6, vI 0, vI a8, vI (a9 + 1), vI 0] [] S1 Q Z) ∧
              (¬ (0 : Int) = 0 →
                q_rg (a9 + 1) ∧
                q_r 50 133 [vR 36, vI a1, vJ j2, vJ j3, vJ j4, vJ j5, vI a6, vI 1, vI a8, vI (a9 + 1), vI 0] [] S1 Q Z))) ∧
          (¬ r2 = 0 →
            (a7 ≠ 0 →
              q_rg (a9 + 1) ∧
              q_r 50 133 [vR 36, vI a1, vJ j2, vJ j3, vJ j4, vJ j5, vI a6, vI 1, vI a8, vI (a9 + 1), vI 1] [] S1 Q Z) ∧
            (¬ a7 ≠ 0 →
              ((1 : Int) = 0 →
                q_rg (a9 + 1) ∧
                q_r 50 133 [vR 36, vI a1, vJ j2, vJ j3, vJ j4, vJ j5, vI a6, vI 0, vI a8, vI (a9 + 1), vI 1] [] S1 Q Z) ∧
              (¬ (1 : Int) = 0 →
                q_rg (a9 + 1) ∧
                q_r 50 133 [vR 36, vI a1, vJ j2, vJ j3, vJ j4, vJ j5, vI a6, vI 1, vI a8, vI (a9 + 1), vI 1] [] S1 Q Z)))) Z)))) : q_r 50 133 [vR 36, vI a1, vJ j2, vJ j3, vJ j4, vJ j5, vI a6, vI a7, vI a8, vI a9, vJ j10] [] S Q Z := q_blk 86 h
-- LMModel.findAhead
theorem b_51_0 {Q : q_Q} {Z : q_Z} {S : q_S} (h : q_r 51 2 [vR 36, vI 0, vU, vU, vU] [] S Q Z) : q_c 51 [vR 36] S Q Z := q_blk 2 h
-- LMModel.findAhead
theorem b_51_2 {Q : q_Q} {Z : q_Z} {a1 : Int} {j2 j3 j4 : q_J} {S : q_S} (h : (a1 ≥ 5120 →
    (0 : Int) ≤ 0 ∧ (0 : Int) < 5120 ∧
    q_r 51 33 [vR 36, vI 1, vJ j2, vJ j3, vJ j4] [] (q_up S 49 0 256) Q Z) ∧
  (¬ a1 ≥ 5120 →
    0 ≤ a1 ∧ a1 < 5120 ∧
    q_rg (a1 + 1) ∧
    q_r 51 2 [vR 36, vI (a1 + 1), vJ j2, vJ j3, vJ j4] [] (q_up S 49 a1 0) Q Z)) : q_r 51 2 [vR 36, vI a1, vJ j2, vJ j3, vJ j4] [] S Q Z := q_blk 17 h
-- LMModel.findAhead
theorem b_51_33 {Q : q_Q} {Z : q_Z} {a1 : Int} {j2 j3 j4 : q_J} {S : q_S} (h : (a1 = 0 →
    Q 0 S) ∧
  (¬ a1 = 0 →
    q_r 51 41 [vR 36, vI 0, vI 0, vJ j3, vJ j4] [] S Q Z)) : q_r 51 33 [vR 36, vI a1, vJ j2, vJ j3, vJ j4] [] S Q Z := q_blk 7 h
-- LMModel.findAhead
theorem b_51_41 {Q : q_Q} {Z : q_Z} {a1 a2 : Int} {j3 j4 : q_J} {S : q_S} (h : (a2 ≥ (S 36 17) →
    q_r 51 33 [vR 36, vI a1, vI a2, vJ j3, vJ j4] [] S Q Z) ∧
  (¬ a2 ≥ (S 36 17) →
    q_r 51 51 [vR 36, vI a1, vI a2, vI 0, vJ j4] [] S Q Z)) : q_r 51 41 [vR 36, vI a1, vI a2, vJ j3, vJ j4] [] S Q Z := q_blk 7 h
-- LMModel.findAhead
theorem b_51_51 {Q : q_Q} {Z : q_Z} {a1 a2 a3 : Int} {j4 : q_J} {S : q_S} (h : (a3 ≥ 128 →
    q_rg (a2 + 1) ∧
    q_r 51 41 [vR 36, vI a1, vI (a2 + 1), vI a3, vJ j4] [] S Q Z) ∧
  (¬ a3 ≥ 128 →
    q_c 50 [vR 36, vI a2, vI a3] S (fun r2 S1 =>
      (a1 ≠ 0 →
        q_rg (a3 + 1) ∧
        q_r 51 51 [vR 36, vI 1, vI a2, vI (a3 + 1), vI r2] [] S1 Q Z) ∧
      (¬ a1 ≠ 0 →
        (r2 = 0 →
          q_rg (a3 + 1) ∧
          q_r 51 51 [vR 36, vI 0, vI a2, vI (a3 + 1), vI r2] [] S1 Q Z) ∧
        (¬ r2 = 0 →
          q_rg (a3 + 1) ∧
          q_r 51 51 [vR 36, vI 1, vI a2, vI (a3 + 1), vI r2] [] S1 Q Z))) Z)) : q_r 51 51 [vR 36, vI a1, vI a2, vI a3, vJ j4] [] S Q Z := q_blk 28 h
-- LMModel.standsBehind
set_option maxRecDepth 20000 in
theorem b_52_0 {Q : q_Q} {Z : q_Z} {a1 a2 a3 : Int} {S : q_S} (h : q_rg (128 * a1) ∧
  q_rg (8 * a2) ∧
  q_rg ((128 * a1) + (8 * a2)) ∧
  0 ≤ a2 ∧ a2 < 16 ∧
  q_rg (((128 * a1) + (8 * a2)) + (S 39 a2)) ∧
  0 ≤ (((128 * a1) + (8 * a2)) + (S 39 a2)) ∧ (((128 * a1) + (8 * a2)) + (S 39 a2)) < 5120 ∧
  ((S 48 (((128 * a1) + (8 * a2)) + (S 39 a2))) ≠ 0 →
    (a2 ≠ 0 →
      (a3 ≠ 0 →
        (a3 ≠ 1 →
          q_rg (128 * a1) ∧
          q_rg (8 * a2) ∧
          q_rg ((128 * a1) + (8 * a2)) ∧
          0 ≤ a2 ∧ a2 < 16 ∧
          q_rg (((128 * a1) + (8 * a2)) + (S 39 a2)) ∧
          0 ≤ (((128 * a1) + (8 * a2)) + (S 39 a2)) ∧ (((128 * a1) + (8 * a2)) + (S 39 a2)) < 5120 ∧
          Q (S 49 (((128 * a1) + (8 * a2)) + (S 39 a2))) S) ∧
        (¬ a3 ≠ 1 →
          0 ≤ a2 ∧ a2 < 16 ∧
          0 ≤ (S 38 a2) ∧ (S 38 a2) < 8 ∧
          Q (S 47 (S 38 a2)) S)) ∧
      (¬ a3 ≠ 0 →
        Q 511 S)) ∧
    (¬ a2 ≠ 0 →
      Q 256 S)) ∧
  (¬ (S 48 (((128 * a1) + (8 * a2)) + (S 39 a2))) ≠ 0 →
    Q 0 S)) : q_c 52 [vR 36, vI a1, vI a2, vI a3] S Q Z := q_blk 56 h
-- LMModel.reduces
theorem b_53_0 {Q : q_Q} {Z : q_Z} {a1 a2 a3 : Int} {S : q_S} (h : q_r 53 6 [vR 36, vI a1, vI a2, vI a3, vI 0, vI 0] [] S Q Z) : q_c 53 [vR 36, vI a1, vI a2, vI a3] S Q Z := q_blk 4 h
-- LMModel.reduces
theorem b_53_6 {Q : q_Q} {Z : q_Z} {a1 a2 a3 a4 a5 : Int} {S : q_S} (h : (a5 > (S 36 5) →
    Q a4 S) ∧
  (¬ a5 > (S 36 5) →
    q_c 52 [vR 36, vI a1, vI a5, vI a3] S (fun r2 S1 =>
      q_rg (a4 + (q_and (q_shr r2 a2) 1)) ∧
      q_rg (a5 + 1) ∧
      q_r 53 6 [vR 36, vI a1, vI a2, vI a3, vI (a4 + (q_and (q_shr r2 a2) 1)), vI (a5 + 1)] [] S1 Q Z) Z)) : q_r 53 6 [vR 36, vI a1, vI a2, vI a3, vI a4, vI a5] [] S Q Z := q_blk 20 h
-- LMModel.shiftTo
theorem b_54_0 {Q : q_Q} {Z : q_Z} {a1 a2 : Int} {S : q_S} (h : (a2 ≠ 8 →
    q_rg (16 * a1) ∧
    q_rg ((16 * a1) + 8) ∧
    q_rg (((16 * a1) + 8) + a2) ∧
    0 ≤ (((16 * a1) + 8) + a2) ∧ (((16 * a1) + 8) + a2) < 640 ∧
    Q (S 50 (((16 * a1) + 8) + a2)) S) ∧
  (¬ a2 ≠ 8 →
    Q (-1) S)) : q_c 54 [vR 36, vI a1, vI a2] S Q Z := q_blk 17 h
-- LMModel.least
theorem b_55_0 {Q : q_Q} {Z : q_Z} {a1 a2 : Int} {S : q_S} (h : q_r 55 8 [vR 36, vI a1, vI a2, vI (-1), vI (S 36 5)] [] S Q Z) : q_c 55 [vR 36, vI a1, vI a2] S Q Z := q_blk 5 h
-- LMModel.least
theorem b_55_8 {Q : q_Q} {Z : q_Z} {a1 a2 a3 a4 : Int} {S : q_S} (h : (a4 < 0 →
    Q a3 S) ∧
  (¬ a4 < 0 →
    q_c 52 [vR 36, vI a1, vI a4, vI 2] S (fun r2 S1 =>
      ((q_and (q_shr r2 a2) 1) ≠ 1 →
        q_rg (a4 + (-1)) ∧
        q_r 55 8 [vR 36, vI a1, vI a2, vI a3, vI (a4 + (-1))] [] S1 Q Z) ∧
      (¬ (q_and (q_shr r2 a2) 1) ≠ 1 →
        q_rg (a4 + (-1)) ∧
        q_r 55 8 [vR 36, vI a1, vI a2, vI a4, vI (a4 + (-1))] [] S1 Q Z)) Z)) : q_r 55 8 [vR 36, vI a1, vI a2, vI a3, vI a4] [] S Q Z := q_blk 24 h
-- LMModel.levelOf
theorem b_56_0 {Q : q_Q} {Z : q_Z} {a1 : Int} {S : q_S} (h : q_r 56 4 [vR 36, vI a1, vI 0, vI 0] [] S Q Z) : q_c 56 [vR 36, vI a1] S Q Z := q_blk 4 h
-- LMModel.levelOf
theorem b_56_4 {Q : q_Q} {Z : q_Z} {a1 a2 a3 : Int} {S : q_S} (h : 0 ≤ a1 ∧ a1 < 16 ∧
  (a3 ≥ (S 39 a1) →
    Q a2 S) ∧
  (¬ a3 ≥ (S 39 a1) →
    q_rg (4 * a1) ∧
    q_rg ((4 * a1) + a3) ∧
    0 ≤ ((4 * a1) + a3) ∧ ((4 * a1) + a3) < 64 ∧
    ((S 40 ((4 * a1) + a3)) ≤ 7 →
      q_rg (a3 + 1) ∧
      q_r 56 4 [vR 36, vI a1, vI a2, vI (a3 + 1)] [] S Q Z) ∧
    (¬ (S 40 ((4 * a1) + a3)) ≤ 7 →
      q_rg (4 * a1) ∧
      q_rg ((4 * a1) + a3) ∧
      0 ≤ ((4 * a1) + a3) ∧ ((4 * a1) + a3) < 64 ∧
      q_rg ((S 40 ((4 * a1) + a3)) - 8) ∧
      0 ≤ ((S 40 ((4 * a1) + a3)) - 8) ∧ ((S 40 ((4 * a1) + a3)) - 8) < 8 ∧
      q_rg (a3 + 1) ∧
      q_r 56 4 [vR 36, vI a1, vI (S 52 ((S 40 ((4 * a1) + a3)) - 8)), vI (a3 + 1)] [] S Q Z))) : q_r 56 4 [vR 36, vI a1, vI a2, vI a3] [] S Q Z := q_blk 39 h
-- LMModel.actionOf
set_option maxRecDepth 20000 in
theorem b_57_0 {Q : q_Q} {Z : q_Z} {a1 a2 : Int} {S : q_S} (h : q_c 54 [vR 36, vI a1, vI a2] S (fun r2 S1 =>
    q_c 55 [vR 36, vI a1, vI a2] S1 (fun r4 S3 =>
      (r4 ≥ 0 →
        (r4 ≠ 0 →
          (r2 ≥ 0 →
            q_c 56 [vR 36, vI r4] S3 (fun r6 S5 =>
              (r6 = 0 →
                q_rg (20 + r2) ∧
                Q (20 + r2) S5) ∧
              (¬ r6 = 0 →
                0 ≤ a2 ∧ a2 < 8 ∧
                ((S5 52 a2) = 0 →
                  q_rg (20 + r2) ∧
                  Q (20 + r2) S5) ∧
                (¬ (S5 52 a2) = 0 →
                  0 ≤ a2 ∧ a2 < 8 ∧
                  (r6 ≥ (S5 52 a2) →
                    0 ≤ a2 ∧ a2 < 8 ∧
                    (r6 ≤ (S5 52 a2) →
                      0 ≤ a2 ∧ a2 < 8 ∧
                      ((S5 53 a2) ≠ 0 →
                        0 ≤ a2 ∧ a2 < 8 ∧
                        ((S5 53 a2) ≠ 1 →
                          Q 0 S5) ∧
                        (¬ (S5 53 a2) ≠ 1 →
                          q_rg (20 + r2) ∧
                          Q (20 + r2) S5)) ∧
                      (¬ (S5 53 a2) ≠ 0 →
                        Q r4 S5)) ∧
                    (¬ r6 ≤ (S5 52 a2) →
                      Q r4 S5)) ∧
                  (¬ r6 ≥ (S5 52 a2) →
                    q_rg (20 + r2) ∧
                    Q (20 + r2) S5)))) Z) ∧
          (¬ r2 ≥ 0 →
            Q r4 S3)) ∧
        (¬ r4 ≠ 0 →
          (r2 ≥ 0 →
            q_c 56 [vR 36, vI r4] S3 (fun r8 S7 =>
              (r8 = 0 →
                q_rg (20 + r2) ∧
                Q (20 + r2) S7) ∧
              (¬ r8 = 0 →
                0 ≤ a2 ∧ a2 < 8 ∧
                ((S7 52 a2) = 0 →
                  q_rg (20 + r2) ∧
                  Q (20 + r2) S7) ∧
                (¬ (S7 52 a2) = 0 →
                  0 ≤ a2 ∧ a2 < 8 ∧
                  (r8 ≥ (S7 52 a2) →
                    0 ≤ a2 ∧ a2 < 8 ∧
                    (r8 ≤ (S7 52 a2) →
                      0 ≤ a2 ∧ a2 < 8 ∧
                      ((S7 53 a2) ≠ 0 →
                        0 ≤ a2 ∧ a2 < 8 ∧
                        ((S7 53 a2) ≠ 1 →
                          Q 0 S7) ∧
                        (¬ (S7 53 a2) ≠ 1 →
                          q_rg (20 + r2) ∧
                          Q (20 + r2) S7)) ∧
                      (¬ (S7 53 a2) ≠ 0 →
                        Q 16 S7)) ∧
                    (¬ r8 ≤ (S7 52 a2) →
                      Q 16 S7)) ∧
                  (¬ r8 ≥ (S7 52 a2) →
                    q_rg (20 + r2) ∧
                    Q (20 + r2) S7)))) Z) ∧
          (¬ r2 ≥ 0 →
            Q 16 S3))) ∧
      (¬ r4 ≥ 0 →
        (r2 ≥ 0 →
          q_rg (20 + r2) ∧
          Q (20 + r2) S3) ∧
        (¬ r2 ≥ 0 →
          Q 0 S3))) Z) Z) : q_c 57 [vR 36, vI a1, vI a2] S Q Z := q_blk 152 h
-- LMModel.isUnsettled
set_option maxRecDepth 20000 in
theorem b_58_0 {Q : q_Q} {Z : q_Z} {a1 a2 : Int} {S : q_S} (h : q_c 53 [vR 36, vI a1, vI a2, vI 2] S (fun r2 S1 =>
    (r2 = 1 →
      q_c 54 [vR 36, vI a1, vI a2] S1 (fun r4 S3 =>
        (r4 < 0 →
          q_bo 0 ∧ Q 0 S3) ∧
        (¬ r4 < 0 →
          0 ≤ a2 ∧ a2 < 8 ∧
          ((S3 52 a2) = 0 →
            q_bo 1 ∧ Q 1 S3) ∧
          (¬ (S3 52 a2) = 0 →
            q_c 55 [vR 36, vI a1, vI a2] S3 (fun r6 S5 =>
              q_c 56 [vR 36, vI r6] S5 (fun r8 S7 =>
                (r8 ≠ 0 →
                  q_bo 0 ∧ Q 0 S7) ∧
                (¬ r8 ≠ 0 →
                  q_bo 1 ∧ Q 1 S7)) Z) Z))) Z) ∧
    (¬ r2 = 1 →
      (r2 ≤ 1 →
        q_bo 0 ∧ Q 0 S1) ∧
      (¬ r2 ≤ 1 →
        q_bo 1 ∧ Q 1 S1))) Z) : q_c 58 [vR 36, vI a1, vI a2] S Q Z := q_blk 44 h
-- LMModel.kind
theorem b_59_0 {Q : q_Q} {Z : q_Z} {S : q_S} (h : q_r 59 2 [vR 36, vI 0, vU, vU, vU] [] S Q Z) : q_c 59 [vR 36] S Q Z := q_blk 2 h
-- LMModel.kind
theorem b_59_2 {Q : q_Q} {Z : q_Z} {a1 : Int} {j2 j3 j4 : q_J} {S : q_S} (h : (a1 ≥ 3 →
    Q 3 S) ∧
  (¬ a1 ≥ 3 →
    q_r 59 11 [vR 36, vI a1, vI 1, vI 0, vJ j4] [] S Q Z)) : q_r 59 2 [vR 36, vI a1, vJ j2, vJ j3, vJ j4] [] S Q Z := q_blk 9 h
-- LMModel.kind
set_option maxRecDepth 20000 in
theorem b_59_11 {Q : q_Q} {Z : q_Z} {a1 a2 a3 : Int} {j4 : q_J} {S : q_S} (h : q_rg (9 * (S 36 17)) ∧
  (a3 ≥ (9 * (S 36 17)) →
    (a2 = 0 →
      q_rg (a1 + 1) ∧
      q_r 59 2 [vR 36, vI (a1 + 1), vI a2, vI a3, vJ j4] [] S Q Z) ∧
    (¬ a2 = 0 →
      Q a1 S)) ∧
  (¬ a3 ≥ (9 * (S 36 17)) →
    0 ≤ a3 ∧ (0 : Int) < 9 ∧
    0 ≤ a3 ∧ (0 : Int) < 9 ∧
    q_c 53 [vR 36, vI (a3 / 9), vI (a3 % 9), vI a1] S (fun r2 S1 =>
      0 ≤ a3 ∧ (0 : Int) < 9 ∧
      0 ≤ a3 ∧ (0 : Int) < 9 ∧
      q_c 54 [vR 36, vI (a3 / 9), vI (a3 % 9)] S1 (fun r4 S3 =>
        (r4 < 0 →
          q_rg (r2 + 0) ∧
          (a2 = 0 →
            q_rg (a3 + 1) ∧
            q_r 59 11 [vR 36, vI a1, vI 0, vI (a3 + 1), vI (r2 + 0)] [] S3 Q Z) ∧
          (¬ a2 = 0 →
            ((r2 + 0) ≥ 2 →
              q_rg (a3 + 1) ∧
              q_r 59 11 [vR 36, vI a1, vI 0, vI (a3 + 1), vI (r2 + 0)] [] S3 Q Z) ∧
            (¬ (r2 + 0) ≥ 2 →
              q_rg (a3 + 1) ∧
              q_r 59 11 [vR 36, vI a1, vI 1, vI (a3 + 1), vI (r2 + 0)] [] S3 Q Z))) ∧
        (¬ r4 < 0 →
          q_rg (r2 + 1) ∧
          (a2 = 0 →
            q_rg (a3 + 1) ∧
            q_r 59 11 [vR 36, vI a1, vI 0, vI (a3 + 1), vI (r2 + 1)] [] S3 Q Z) ∧
          (¬ a2 = 0 →
            ((r2 + 1) ≥ 2 →
              q_rg (a3 + 1) ∧
              q_r 59 11 [vR 36, vI a1, vI 0, vI (a3 + 1), vI (r2 + 1)] [] S3 Q Z) ∧
            (¬ (r2 + 1) ≥ 2 →
              q_rg (a3 + 1) ∧
              q_r 59 11 [vR 36, vI a1, vI 1, vI (a3 + 1), vI (r2 + 1)] [] S3 Q Z)))) Z) Z)) : q_r 59 11 [vR 36, vI a1, vI a2, vI a3, vJ j4] [] S Q Z := q_blk 73 h
-- LMModel.cell
theorem b_60_0 {Q : q_Q} {Z : q_Z} {a1 : Int} {S : q_S} (h : q_r 60 4 [vR 36, vI a1, vI 0, vI 0] [] S Q Z) : q_c 60 [vR 36, vI a1] S Q Z := q_blk 4 h
-- LMModel.cell
set_option maxRecDepth 20000 in
theorem b_60_4 {Q : q_Q} {Z : q_Z} {a1 a2 a3 : Int} {S : q_S} (h : q_rg (9 * (S 36 17)) ∧
  (a3 ≥ (9 * (S 36 17)) →
    (a1 ≠ (-1) →
      Q (-1) S) ∧
    (¬ a1 ≠ (-1) →
      Q a2 S)) ∧
  (¬ a3 ≥ (9 * (S 36 17)) →
    0 ≤ a3 ∧ (0 : Int) < 9 ∧
    0 ≤ a3 ∧ (0 : Int) < 9 ∧
    q_c 58 [vR 36, vI (a3 / 9), vI (a3 % 9)] S (fun r2 S1 =>
      (r2 = 0 →
        q_rg (a3 + 1) ∧
        q_r 60 4 [vR 36, vI a1, vI a2, vI (a3 + 1)] [] S1 Q Z) ∧
      (¬ r2 = 0 →
        (a2 ≠ a1 →
          q_rg (a2 + 1) ∧
          q_rg (a3 + 1) ∧
          q_r 60 4 [vR 36, vI a1, vI (a2 + 1), vI (a3 + 1)] [] S1 Q Z) ∧
        (¬ a2 ≠ a1 →
          0 ≤ a3 ∧ (0 : Int) < 9 ∧
          q_rg (16 * (a3 / 9)) ∧
          0 ≤ a3 ∧ (0 : Int) < 9 ∧
          q_rg ((16 * (a3 / 9)) + (a3 % 9)) ∧
          Q ((16 * (a3 / 9)) + (a3 % 9)) S1))) Z)) : q_r 60 4 [vR 36, vI a1, vI a2, vI a3] [] S Q Z := q_blk 41 h
-- LMModel.bind
set_option maxRecDepth 20000 in
theorem b_61_0 {Q : q_Q} {Z : q_Z} {a1 a2 a3 : Int} {S : q_S} (h : (a1 < 97 →
    ((1 : Int) ≠ 0 →
      Q 0 (q_up S 36 0 1)) ∧
    (¬ (1 : Int) ≠ 0 →
      q_rg (a1 - 97) ∧
      0 ≤ (a1 - 97) ∧ (a1 - 97) < 8 ∧
      q_rg (a1 - 97) ∧
      0 ≤ (a1 - 97) ∧ (a1 - 97) < 8 ∧
      q_bo 0 ∧
      Q 0 (q_up (q_up (q_up (q_up S 36 0 1) 52 (a1 - 97) a2) 53 (a1 - 97) a3) 36 24 0))) ∧
  (¬ a1 < 97 →
    (a1 > 104 →
      ((1 : Int) ≠ 0 →
        Q 0 (q_up S 36 0 1)) ∧
      (¬ (1 : Int) ≠ 0 →
        q_rg (a1 - 97) ∧
        0 ≤ (a1 - 97) ∧ (a1 - 97) < 8 ∧
        q_rg (a1 - 97) ∧
        0 ≤ (a1 - 97) ∧ (a1 - 97) < 8 ∧
        q_bo 0 ∧
        Q 0 (q_up (q_up (q_up (q_up S 36 0 1) 52 (a1 - 97) a2) 53 (a1 - 97) a3) 36 24 0))) ∧
    (¬ a1 > 104 →
      (a2 < 0 →
        ((1 : Int) ≠ 0 →
          Q 0 (q_up S 36 0 1)) ∧
        (¬ (1 : Int) ≠ 0 →
          q_rg (a1 - 97) ∧
          0 ≤ (a1 - 97) ∧ (a1 - 97) < 8 ∧
          q_rg (a1 - 97) ∧
          0 ≤ (a1 - 97) ∧ (a1 - 97) < 8 ∧
          q_bo 0 ∧
          Q 0 (q_up (q_up (q_up (q_up S 36 0 1) 52 (a1 - 97) a2) 53 (a1 - 97) a3) 36 24 0))) ∧
      (¬ a2 < 0 →
        (a2 > 9 →
          ((1 : Int) ≠ 0 →
            Q 0 (q_up S 36 0 1)) ∧
          (¬ (1 : Int) ≠ 0 →
            q_rg (a1 - 97) ∧
            0 ≤ (a1 - 97) ∧ (a1 - 97) < 8 ∧
            q_rg (a1 - 97) ∧
            0 ≤ (a1 - 97) ∧ (a1 - 97) < 8 ∧
            q_bo 0 ∧
            Q 0 (q_up (q_up (q_up (q_up S 36 0 1) 52 (a1 - 97) a2) 53 (a1 - 97) a3) 36 24 0))) ∧
        (¬ a2 > 9 →
          (a3 < 0 →
            ((1 : Int) ≠ 0 →
              Q 0 (q_up S 36 0 1)) ∧
            (¬ (1 : Int) ≠ 0 →
              q_rg (a1 - 97) ∧
              0 ≤ (a1 - 97) ∧ (a1 - 97) < 8 ∧
              q_rg (a1 - 97) ∧
              0 ≤ (a1 - 97) ∧ (a1 - 97) < 8 ∧
              q_bo 0 ∧
              Q 0 (q_up (q_up (q_up (q_up S 36 0 1) 52 (a1 - 97) a2) 53 (a1 - 97) a3) 36 24 0))) ∧
          (¬ a3 < 0 →
            (a3 ≤ 2 →
              ((0 : Int) ≠ 0 →
                Q 0 (q_up S 36 0 0)) ∧
              (¬ (0 : Int) ≠ 0 →
                q_rg (a1 - 97) ∧
                0 ≤ (a1 - 97) ∧ (a1 - 97) < 8 ∧
                q_rg (a1 - 97) ∧
                0 ≤ (a1 - 97) ∧ (a1 - 97) < 8 ∧
                q_bo 0 ∧
                Q 0 (q_up (q_up (q_up (q_up S 36 0 0) 52 (a1 - 97) a2) 53 (a1 - 97) a3) 36 24 0))) ∧
            (¬ a3 ≤ 2 →
              ((1 : Int) ≠ 0 →
                Q 0 (q_up S 36 0 1)) ∧
              (¬ (1 : Int) ≠ 0 →
                q_rg (a1 - 97) ∧
                0 ≤ (a1 - 97) ∧ (a1 - 97) < 8 ∧
                q_rg (a1 - 97) ∧
                0 ≤ (a1 - 97) ∧ (a1 - 97) < 8 ∧
                q_bo 0 ∧
                Q 0 (q_up (q_up (q_up (q_up S 36 0 1) 52 (a1 - 97) a2) 53 (a1 - 97) a3) 36 24 0))))))))) : q_c 61 [vR 36, vI a1, vI a2, vI a3] S Q Z := q_blk 191 h
-- LMModel.number
set_option maxRecDepth 20000 in
theorem b_62_0 {Q : q_Q} {Z : q_Z} {a1 : Int} {S : q_S} (h : ((S 36 4) ≠ 0 →
    (a1 < 0 →
      ((2 : Int) = 0 →
        (a1 ≠ 0 →
          (a1 ≠ 1 →
            (a1 ≠ 2 →
              q_c 60 [vR 36, vI (-1)] (q_up S 36 0 2) (fun r2 S1 =>
                Q r2 S1) Z) ∧
            (¬ a1 ≠ 2 →
              q_c 59 [vR 36] (q_up S 36 0 2) (fun r4 S3 =>
                Q r4 S3) Z)) ∧
          (¬ a1 ≠ 1 →
            Q (S 36 17) (q_up S 36 0 2))) ∧
        (¬ a1 ≠ 0 →
          Q (S 36 5) (q_up S 36 0 2))) ∧
      (¬ (2 : Int) = 0 →
        Q 0 (q_up S 36 0 2))) ∧
    (¬ a1 < 0 →
      (a1 ≤ 3 →
        ((0 : Int) = 0 →
          (a1 ≠ 0 →
            (a1 ≠ 1 →
              (a1 ≠ 2 →
                q_c 60 [vR 36, vI (-1)] (q_up S 36 0 0) (fun r6 S5 =>
                  Q r6 S5) Z) ∧
              (¬ a1 ≠ 2 →
                q_c 59 [vR 36] (q_up S 36 0 0) (fun r8 S7 =>
                  Q r8 S7) Z)) ∧
            (¬ a1 ≠ 1 →
              Q (S 36 17) (q_up S 36 0 0))) ∧
          (¬ a1 ≠ 0 →
            Q (S 36 5) (q_up S 36 0 0))) ∧
        (¬ (0 : Int) = 0 →
          Q 0 (q_up S 36 0 0))) ∧
      (¬ a1 ≤ 3 →
        ((2 : Int) = 0 →
          (a1 ≠ 0 →
            (a1 ≠ 1 →
              (a1 ≠ 2 →
                q_c 60 [vR 36, vI (-1)] (q_up S 36 0 2) (fun r10 S9 =>
                  Q r10 S9) Z) ∧
              (¬ a1 ≠ 2 →
                q_c 59 [vR 36] (q_up S 36 0 2) (fun r12 S11 =>
                  Q r12 S11) Z)) ∧
            (¬ a1 ≠ 1 →
              Q (S 36 17) (q_up S 36 0 2))) ∧
          (¬ a1 ≠ 0 →
            Q (S 36 5) (q_up S 36 0 2))) ∧
        (¬ (2 : Int) = 0 →
          Q 0 (q_up S 36 0 2))))) ∧
  (¬ (S 36 4) ≠ 0 →
    ((1 : Int) = 0 →
      (a1 ≠ 0 →
        (a1 ≠ 1 →
          (a1 ≠ 2 →
            q_c 60 [vR 36, vI (-1)] (q_up S 36 0 1) (fun r14 S13 =>
              Q r14 S13) Z) ∧
          (¬ a1 ≠ 2 →
            q_c 59 [vR 36] (q_up S 36 0 1) (fun r16 S15 =>
              Q r16 S15) Z)) ∧
        (¬ a1 ≠ 1 →
          Q (S 36 17) (q_up S 36 0 1))) ∧
      (¬ a1 ≠ 0 →
        Q (S 36 5) (q_up S 36 0 1))) ∧
    (¬ (1 : Int) = 0 →
      Q 0 (q_up S 36 0 1)))) : q_c 62 [vR 36, vI a1] S Q Z := q_blk 136 h
-- LMModel.noProduction
theorem b_63_0 {Q : q_Q} {Z : q_Z} {a1 : Int} {S : q_S} (h : (a1 < 0 →
    q_bo 1 ∧ Q 1 S) ∧
  (¬ a1 < 0 →
    (a1 ≤ (S 36 5) →
      q_bo 0 ∧ Q 0 S) ∧
    (¬ a1 ≤ (S 36 5) →
      q_bo 1 ∧ Q 1 S))) : q_c 63 [vR 36, vI a1] S Q Z := q_blk 14 h
-- LMModel.noState
theorem b_64_0 {Q : q_Q} {Z : q_Z} {a1 : Int} {S : q_S} (h : (a1 < 0 →
    q_bo 1 ∧ Q 1 S) ∧
  (¬ a1 < 0 →
    (a1 < (S 36 17) →
      q_bo 0 ∧ Q 0 S) ∧
    (¬ a1 < (S 36 17) →
      q_bo 1 ∧ Q 1 S))) : q_c 64 [vR 36, vI a1] S Q Z := q_blk 14 h
-- LMModel.symbol
set_option maxRecDepth 20000 in
theorem b_65_0 {Q : q_Q} {Z : q_Z} {a1 a2 : Int} {S : q_S} (h : ((S 36 4) ≠ 0 →
    q_c 63 [vR 36, vI a1] S (fun r2 S1 =>
      (r2 ≠ 0 →
        ((2 : Int) = 0 →
          (a2 < 0 →
            (a1 ≠ 0 →
              0 ≤ a1 ∧ a1 < 16 ∧
              q_c 30 [vI (S1 38 a1)] (q_up S1 36 0 2) (fun r4 S3 =>
                Q r4 S3) Z) ∧
            (¬ a1 ≠ 0 →
              Q 0 (q_up S1 36 0 2))) ∧
          (¬ a2 < 0 →
            q_rg (4 * a1) ∧
            q_rg ((4 * a1) + a2) ∧
            0 ≤ ((4 * a1) + a2) ∧ ((4 * a1) + a2) < 64 ∧
            q_c 30 [vI (S1 40 ((4 * a1) + a2))] (q_up S1 36 0 2) (fun r6 S5 =>
              Q r6 S5) Z)) ∧
        (¬ (2 : Int) = 0 →
          Q 0 (q_up S1 36 0 2))) ∧
      (¬ r2 ≠ 0 →
        (a2 < (-1) →
          ((2 : Int) = 0 →
            (a2 < 0 →
              (a1 ≠ 0 →
                0 ≤ a1 ∧ a1 < 16 ∧
                q_c 30 [vI (S1 38 a1)] (q_up S1 36 0 2) (fun r8 S7 =>
                  Q r8 S7) Z) ∧
              (¬ a1 ≠ 0 →
                Q 0 (q_up S1 36 0 2))) ∧
            (¬ a2 < 0 →
              q_rg (4 * a1) ∧
              q_rg ((4 * a1) + a2) ∧
              0 ≤ ((4 * a1) + a2) ∧ ((4 * a1) + a2) < 64 ∧
              q_c 30 [vI (S1 40 ((4 * a1) + a2))] (q_up S1 36 0 2) (fun r10 S9 =>
                Q r10 S9) Z)) ∧
          (¬ (2 : Int) = 0 →
            Q 0 (q_up S1 36 0 2))) ∧
        (¬ a2 < (-1) →
          0 ≤ a1 ∧ a1 < 16 ∧
          (a2 < (S1 39 a1) →
            ((0 : Int) = 0 →
              (a2 < 0 →
                (a1 ≠ 0 →
                  0 ≤ a1 ∧ a1 < 16 ∧
                  q_c 30 [vI (S1 38 a1)] (q_up S1 36 0 0) (fun r12 S11 =>
                    Q r12 S11) Z) ∧
                (¬ a1 ≠ 0 →
                  Q 0 (q_up S1 36 0 0))) ∧
              (¬ a2 < 0 →
                q_rg (4 * a1) ∧
                q_rg ((4 * a1) + a2) ∧
                0 ≤ ((4 * a1) + a2) ∧ ((4 * a1) + a2) < 64 ∧
                q_c 30 [vI (S1 40 ((4 * a1) + a2))] (q_up S1 36 0 0) (fun r14 S13 =>
                  Q r14 S13) Z)) ∧
            (¬ (0 : Int) = 0 →
              Q 0 (q_up S1 36 0 0))) ∧
          (¬ a2 < (S1 39 a1) →
            ((2 : Int) = 0 →
              (a2 < 0 →
                (a1 ≠ 0 →
                  0 ≤ a1 ∧ a1 < 16 ∧
                  q_c 30 [vI (S1 38 a1)] (q_up S1 36 0 2) (fun r16 S15 =>
                    Q r16 S15) Z) ∧
                (¬ a1 ≠ 0 →
                  Q 0 (q_up S1 36 0 2))) ∧
              (¬ a2 < 0 →
                q_rg (4 * a1) ∧
                q_rg ((4 * a1) + a2) ∧
                0 ≤ ((4 * a1) + a2) ∧ ((4 * a1) + a2) < 64 ∧
                q_c 30 [vI (S1 40 ((4 * a1) + a2))] (q_up S1 36 0 2) (fun r18 S17 =>
                  Q r18 S17) Z)) ∧
            (¬ (2 : Int) = 0 →
              Q 0 (q_up S1 36 0 2)))))) Z) ∧
  (¬ (S 36 4) ≠ 0 →
    ((1 : Int) = 0 →
      (a2 < 0 →
        (a1 ≠ 0 →
          0 ≤ a1 ∧ a1 < 16 ∧
          q_c 30 [vI (S 38 a1)] (q_up S 36 0 1) (fun r20 S19 =>
            Q r20 S19) Z) ∧
        (¬ a1 ≠ 0 →
          Q 0 (q_up S 36 0 1))) ∧
      (¬ a2 < 0 →
        q_rg (4 * a1) ∧
        q_rg ((4 * a1) + a2) ∧
        0 ≤ ((4 * a1) + a2) ∧ ((4 * a1) + a2) < 64 ∧
        q_c 30 [vI (S 40 ((4 * a1) + a2))] (q_up S 36 0 1) (fun r22 S21 =>
          Q r22 S21) Z)) ∧
    (¬ (1 : Int) = 0 →
      Q 0 (q_up S 36 0 1)))) : q_c 65 [vR 36, vI a1, vI a2] S Q Z := q_blk 176 h
-- LMModel.set
set_option maxRecDepth 20000 in
theorem b_66_0 {Q : q_Q} {Z : q_Z} {a1 a2 : Int} {S : q_S} (h : (a1 < 65 →
    ((S 36 4) ≠ 0 →
      ((1 : Int) ≠ 0 →
        ((2 : Int) = 0 →
          q_rg (a1 - 65) ∧
          (a2 ≠ 0 →
            (a2 ≠ 1 →
              0 ≤ (a1 - 65) ∧ (a1 - 65) < 8 ∧
              Q (S 47 (a1 - 65)) (q_up S 36 0 2)) ∧
            (¬ a2 ≠ 1 →
              0 ≤ (a1 - 65) ∧ (a1 - 65) < 8 ∧
              Q (S 46 (a1 - 65)) (q_up S 36 0 2))) ∧
          (¬ a2 ≠ 0 →
            0 ≤ (a1 - 65) ∧ (a1 - 65) < 8 ∧
            ((S 45 (a1 - 65)) = 0 →
              Q 0 (q_up S 36 0 2)) ∧
            (¬ (S 45 (a1 - 65)) = 0 →
              Q 1 (q_up S 36 0 2)))) ∧
        (¬ (2 : Int) = 0 →
          Q 0 (q_up S 36 0 2))) ∧
      (¬ (1 : Int) ≠ 0 →
        (a2 < 0 →
          ((2 : Int) = 0 →
            q_rg (a1 - 65) ∧
            (a2 ≠ 0 →
              (a2 ≠ 1 →
                0 ≤ (a1 - 65) ∧ (a1 - 65) < 8 ∧
                Q (S 47 (a1 - 65)) (q_up S 36 0 2)) ∧
              (¬ a2 ≠ 1 →
                0 ≤ (a1 - 65) ∧ (a1 - 65) < 8 ∧
                Q (S 46 (a1 - 65)) (q_up S 36 0 2))) ∧
            (¬ a2 ≠ 0 →
              0 ≤ (a1 - 65) ∧ (a1 - 65) < 8 ∧
              ((S 45 (a1 - 65)) = 0 →
                Q 0 (q_up S 36 0 2)) ∧
              (¬ (S 45 (a1 - 65)) = 0 →
                Q 1 (q_up S 36 0 2)))) ∧
          (¬ (2 : Int) = 0 →
            Q 0 (q_up S 36 0 2))) ∧
        (¬ a2 < 0 →
          (a2 ≤ 2 →
            ((0 : Int) = 0 →
              q_rg (a1 - 65) ∧
              (a2 ≠ 0 →
                (a2 ≠ 1 →
                  0 ≤ (a1 - 65) ∧ (a1 - 65) < 8 ∧
                  Q (S 47 (a1 - 65)) (q_up S 36 0 0)) ∧
                (¬ a2 ≠ 1 →
                  0 ≤ (a1 - 65) ∧ (a1 - 65) < 8 ∧
                  Q (S 46 (a1 - 65)) (q_up S 36 0 0))) ∧
              (¬ a2 ≠ 0 →
                0 ≤ (a1 - 65) ∧ (a1 - 65) < 8 ∧
                ((S 45 (a1 - 65)) = 0 →
                  Q 0 (q_up S 36 0 0)) ∧
                (¬ (S 45 (a1 - 65)) = 0 →
                  Q 1 (q_up S 36 0 0)))) ∧
            (¬ (0 : Int) = 0 →
              Q 0 (q_up S 36 0 0))) ∧
          (¬ a2 ≤ 2 →
            ((2 : Int) = 0 →
              q_rg (a1 - 65) ∧
              (a2 ≠ 0 →
                (a2 ≠ 1 →
                  0 ≤ (a1 - 65) ∧ (a1 - 65) < 8 ∧
                  Q (S 47 (a1 - 65)) (q_up S 36 0 2)) ∧
                (¬ a2 ≠ 1 →
                  0 ≤ (a1 - 65) ∧ (a1 - 65) < 8 ∧
                  Q (S 46 (a1 - 65)) (q_up S 36 0 2))) ∧
              (¬ a2 ≠ 0 →
                0 ≤ (a1 - 65) ∧ (a1 - 65) < 8 ∧
                ((S 45 (a1 - 65)) = 0 →
                  Q 0 (q_up S 36 0 2)) ∧
                (¬ (S 45 (a1 - 65)) = 0 →
                  Q 1 (q_up S 36 0 2)))) ∧
            (¬ (2 : Int) = 0 →
              Q 0 (q_up S 36 0 2)))))) ∧
    (¬ (S 36 4) ≠ 0 →
      ((1 : Int) = 0 →
        q_rg (a1 - 65) ∧
        (a2 ≠ 0 →
          (a2 ≠ 1 →
            0 ≤ (a1 - 65) ∧ (a1 - 65) < 8 ∧
            Q (S 47 (a1 - 65)) (q_up S 36 0 1)) ∧
          (¬ a2 ≠ 1 →
            0 ≤ (a1 - 65) ∧ (a1 - 65) < 8 ∧
            Q (S 46 (a1 - 65)) (q_up S 36 0 1))) ∧
        (¬ a2 ≠ 0 →
          0 ≤ (a1 - 65) ∧ (a1 - 65) < 8 ∧
          ((S 45 (a1 - 65)) = 0 →
            Q 0 (q_up S 36 0 1)) ∧
          (¬ (S 45 (a1 - 65)) = 0 →
            Q 1 (q_up S 36 0 1)))) ∧
      (¬ (1 : Int) = 0 →
        Q 0 (q_up S 36 0 1)))) ∧
  (¬ a1 < 65 →
    (a1 > 72 →
      ((S 36 4) ≠ 0 →
        ((1 : Int) ≠ 0 →
          ((2 : Int) = 0 →
            q_rg (a1 - 65) ∧
            (a2 ≠ 0 →
              (a2 ≠ 1 →
                0 ≤ (a1 - 65) ∧ (a1 - 65) < 8 ∧
                Q (S 47 (a1 - 65)) (q_up S 36 0 2)) ∧
              (¬ a2 ≠ 1 →
                0 ≤ (a1 - 65) ∧ (a1 - 65) < 8 ∧
                Q (S 46 (a1 - 65)) (q_up S 36 0 2))) ∧
            (¬ a2 ≠ 0 →
              0 ≤ (a1 - 65) ∧ (a1 - 65) < 8 ∧
              ((S 45 (a1 - 65)) = 0 →
                Q 0 (q_up S 36 0 2)) ∧
              (¬ (S 45 (a1 - 65)) = 0 →
                Q 1 (q_up S 36 0 2)))) ∧
          (¬ (2 : Int) = 0 →
            Q 0 (q_up S 36 0 2))) ∧
        (¬ (1 : Int) ≠ 0 →
          (a2 < 0 →
            ((2 : Int) = 0 →
              q_rg (a1 - 65) ∧
              (a2 ≠ 0 →
                (a2 ≠ 1 →
                  0 ≤ (a1 - 65) ∧ (a1 - 65) < 8 ∧
                  Q (S 47 (a1 - 65)) (q_up S 36 0 2)) ∧
                (¬ a2 ≠ 1 →
                  0 ≤ (a1 - 65) ∧ (a1 - 65) < 8 ∧
                  Q (S 46 (a1 - 65)) (q_up S 36 0 2))) ∧
              (¬ a2 ≠ 0 →
                0 ≤ (a1 - 65) ∧ (a1 - 65) < 8 ∧
                ((S 45 (a1 - 65)) = 0 →
                  Q 0 (q_up S 36 0 2)) ∧
                (¬ (S 45 (a1 - 65)) = 0 →
                  Q 1 (q_up S 36 0 2)))) ∧
            (¬ (2 : Int) = 0 →
              Q 0 (q_up S 36 0 2))) ∧
          (¬ a2 < 0 →
            (a2 ≤ 2 →
              ((0 : Int) = 0 →
                q_rg (a1 - 65) ∧
                (a2 ≠ 0 →
                  (a2 ≠ 1 →
                    0 ≤ (a1 - 65) ∧ (a1 - 65) < 8 ∧
                    Q (S 47 (a1 - 65)) (q_up S 36 0 0)) ∧
                  (¬ a2 ≠ 1 →
                    0 ≤ (a1 - 65) ∧ (a1 - 65) < 8 ∧
                    Q (S 46 (a1 - 65)) (q_up S 36 0 0))) ∧
                (¬ a2 ≠ 0 →
                  0 ≤ (a1 - 65) ∧ (a1 - 65) < 8 ∧
                  ((S 45 (a1 - 65)) = 0 →
                    Q 0 (q_up S 36 0 0)) ∧
                  (¬ (S 45 (a1 - 65)) = 0 →
                    Q 1 (q_up S 36 0 0)))) ∧
              (¬ (0 : Int) = 0 →
                Q 0 (q_up S 36 0 0))) ∧
            (¬ a2 ≤ 2 →
              ((2 : Int) = 0 →
                q_rg (a1 - 65) ∧
                (a2 ≠ 0 →
                  (a2 ≠ 1 →
                    0 ≤ (a1 - 65) ∧ (a1 - 65) < 8 ∧
                    Q (S 47 (a1 - 65)) (q_up S 36 0 2)) ∧
                  (¬ a2 ≠ 1 →
                    0 ≤ (a1 - 65) ∧ (a1 - 65) < 8 ∧
                    Q (S 46 (a1 - 65)) (q_up S 36 0 2))) ∧
                (¬ a2 ≠ 0 →
                  0 ≤ (a1 - 65) ∧ (a1 - 65) < 8 ∧
                  ((S 45 (a1 - 65)) = 0 →
                    Q 0 (q_up S 36 0 2)) ∧
                  (¬ (S 45 (a1 - 65)) = 0 →
                    Q 1 (q_up S 36 0 2)))) ∧
              (¬ (2 : Int) = 0 →
                Q 0 (q_up S 36 0 2)))))) ∧
      (¬ (S 36 4) ≠ 0 →
        ((1 : Int) = 0 →
          q_rg (a1 - 65) ∧
          (a2 ≠ 0 →
            (a2 ≠ 1 →
              0 ≤ (a1 - 65) ∧ (a1 - 65) < 8 ∧
              Q (S 47 (a1 - 65)) (q_up S 36 0 1)) ∧
            (¬ a2 ≠ 1 →
              0 ≤ (a1 - 65) ∧ (a1 - 65) < 8 ∧
              Q (S 46 (a1 - 65)) (q_up S 36 0 1))) ∧
          (¬ a2 ≠ 0 →
            0 ≤ (a1 - 65) ∧ (a1 - 65) < 8 ∧
            ((S 45 (a1 - 65)) = 0 →
              Q 0 (q_up S 36 0 1)) ∧
            (¬ (S 45 (a1 - 65)) = 0 →
              Q 1 (q_up S 36 0 1)))) ∧
        (¬ (1 : Int) = 0 →
          Q 0 (q_up S 36 0 1)))) ∧
    (¬ a1 > 72 →
      ((S 36 4) = 0 →
        ((S 36 4) ≠ 0 →
          ((0 : Int) ≠ 0 →
            ((2 : Int) = 0 →
              q_rg (a1 - 65) ∧
              (a2 ≠ 0 →
                (a2 ≠ 1 →
                  0 ≤ (a1 - 65) ∧ (a1 - 65) < 8 ∧
                  Q (S 47 (a1 - 65)) (q_up S 36 0 2)) ∧
                (¬ a2 ≠ 1 →
                  0 ≤ (a1 - 65) ∧ (a1 - 65) < 8 ∧
                  Q (S 46 (a1 - 65)) (q_up S 36 0 2))) ∧
              (¬ a2 ≠ 0 →
                0 ≤ (a1 - 65) ∧ (a1 - 65) < 8 ∧
                ((S 45 (a1 - 65)) = 0 →
                  Q 0 (q_up S 36 0 2)) ∧
                (¬ (S 45 (a1 - 65)) = 0 →
                  Q 1 (q_up S 36 0 2)))) ∧
            (¬ (2 : Int) = 0 →
              Q 0 (q_up S 36 0 2))) ∧
          (¬ (0 : Int) ≠ 0 →
            (a2 < 0 →
              ((2 : Int) = 0 →
                q_rg (a1 - 65) ∧
                (a2 ≠ 0 →
                  (a2 ≠ 1 →
                    0 ≤ (a1 - 65) ∧ (a1 - 65) < 8 ∧
                    Q (S 47 (a1 - 65)) (q_up S 36 0 2)) ∧
                  (¬ a2 ≠ 1 →
                    0 ≤ (a1 - 65) ∧ (a1 - 65) < 8 ∧
                    Q (S 46 (a1 - 65)) (q_up S 36 0 2))) ∧
                (¬ a2 ≠ 0 →
                  0 ≤ (a1 - 65) ∧ (a1 - 65) < 8 ∧
                  ((S 45 (a1 - 65)) = 0 →
                    Q 0 (q_up S 36 0 2)) ∧
                  (¬ (S 45 (a1 - 65)) = 0 →
                    Q 1 (q_up S 36 0 2)))) ∧
              (¬ (2 : Int) = 0 →
                Q 0 (q_up S 36 0 2))) ∧
            (¬ a2 < 0 →
              (a2 ≤ 2 →
                ((0 : Int) = 0 →
                  q_rg (a1 - 65) ∧
                  (a2 ≠ 0 →
                    (a2 ≠ 1 →
                      0 ≤ (a1 - 65) ∧ (a1 - 65) < 8 ∧
                      Q (S 47 (a1 - 65)) (q_up S 36 0 0)) ∧
                    (¬ a2 ≠ 1 →
                      0 ≤ (a1 - 65) ∧ (a1 - 65) < 8 ∧
                      Q (S 46 (a1 - 65)) (q_up S 36 0 0))) ∧
                  (¬ a2 ≠ 0 →
                    0 ≤ (a1 - 65) ∧ (a1 - 65) < 8 ∧
                    ((S 45 (a1 - 65)) = 0 →
                      Q 0 (q_up S 36 0 0)) ∧
                    (¬ (S 45 (a1 - 65)) = 0 →
                      Q 1 (q_up S 36 0 0)))) ∧
                (¬ (0 : Int) = 0 →
                  Q 0 (q_up S 36 0 0))) ∧
              (¬ a2 ≤ 2 →
                ((2 : Int) = 0 →
                  q_rg (a1 - 65) ∧
                  (a2 ≠ 0 →
                    (a2 ≠ 1 →
                      0 ≤ (a1 - 65) ∧ (a1 - 65) < 8 ∧
                      Q (S 47 (a1 - 65)) (q_up S 36 0 2)) ∧
                    (¬ a2 ≠ 1 →
                      0 ≤ (a1 - 65) ∧ (a1 - 65) < 8 ∧
                      Q (S 46 (a1 - 65)) (q_up S 36 0 2))) ∧
                  (¬ a2 ≠ 0 →
                    0 ≤ (a1 - 65) ∧ (a1 - 65) < 8 ∧
                    ((S 45 (a1 - 65)) = 0 →
                      Q 0 (q_up S 36 0 2)) ∧
                    (¬ (S 45 (a1 - 65)) = 0 →
                      Q 1 (q_up S 36 0 2)))) ∧
                (¬ (2 : Int) = 0 →
                  Q 0 (q_up S 36 0 2)))))) ∧
        (¬ (S 36 4) ≠ 0 →
          ((1 : Int) = 0 →
            q_rg (a1 - 65) ∧
            (a2 ≠ 0 →
              (a2 ≠ 1 →
                0 ≤ (a1 - 65) ∧ (a1 - 65) < 8 ∧
                Q (S 47 (a1 - 65)) (q_up S 36 0 1)) ∧
              (¬ a2 ≠ 1 →
                0 ≤ (a1 - 65) ∧ (a1 - 65) < 8 ∧
                Q (S 46 (a1 - 65)) (q_up S 36 0 1))) ∧
            (¬ a2 ≠ 0 →
              0 ≤ (a1 - 65) ∧ (a1 - 65) < 8 ∧
              ((S 45 (a1 - 65)) = 0 →
                Q 0 (q_up S 36 0 1)) ∧
              (¬ (S 45 (a1 - 65)) = 0 →
                Q 1 (q_up S 36 0 1)))) ∧
          (¬ (1 : Int) = 0 →
            Q 0 (q_up S 36 0 1)))) ∧
      (¬ (S 36 4) = 0 →
        q_rg (a1 - 65) ∧
        0 ≤ (a1 - 65) ∧ (a1 - 65) < 8 ∧
        ((S 43 (a1 - 65)) ≥ 0 →
          ((S 36 4) ≠ 0 →
            ((0 : Int) ≠ 0 →
              ((2 : Int) = 0 →
                q_rg (a1 - 65) ∧
                (a2 ≠ 0 →
                  (a2 ≠ 1 →
                    0 ≤ (a1 - 65) ∧ (a1 - 65) < 8 ∧
                    Q (S 47 (a1 - 65)) (q_up S 36 0 2)) ∧
                  (¬ a2 ≠ 1 →
                    0 ≤ (a1 - 65) ∧ (a1 - 65) < 8 ∧
                    Q (S 46 (a1 - 65)) (q_up S 36 0 2))) ∧
                (¬ a2 ≠ 0 →
                  0 ≤ (a1 - 65) ∧ (a1 - 65) < 8 ∧
                  ((S 45 (a1 - 65)) = 0 →
                    Q 0 (q_up S 36 0 2)) ∧
                  (¬ (S 45 (a1 - 65)) = 0 →
                    Q 1 (q_up S 36 0 2)))) ∧
              (¬ (2 : Int) = 0 →
                Q 0 (q_up S 36 0 2))) ∧
            (¬ (0 : Int) ≠ 0 →
              (a2 < 0 →
                ((2 : Int) = 0 →
                  q_rg (a1 - 65) ∧
                  (a2 ≠ 0 →
                    (a2 ≠ 1 →
                      0 ≤ (a1 - 65) ∧ (a1 - 65) < 8 ∧
                      Q (S 47 (a1 - 65)) (q_up S 36 0 2)) ∧
                    (¬ a2 ≠ 1 →
                      0 ≤ (a1 - 65) ∧ (a1 - 65) < 8 ∧
                      Q (S 46 (a1 - 65)) (q_up S 36 0 2))) ∧
                  (¬ a2 ≠ 0 →
                    0 ≤ (a1 - 65) ∧ (a1 - 65) < 8 ∧
                    ((S 45 (a1 - 65)) = 0 →
                      Q 0 (q_up S 36 0 2)) ∧
                    (¬ (S 45 (a1 - 65)) = 0 →
                      Q 1 (q_up S 36 0 2)))) ∧
                (¬ (2 : Int) = 0 →
                  Q 0 (q_up S 36 0 2))) ∧
              (¬ a2 < 0 →
                (a2 ≤ 2 →
                  ((0 : Int) = 0 →
                    q_rg (a1 - 65) ∧
                    (a2 ≠ 0 →
                      (a2 ≠ 1 →
                        0 ≤ (a1 - 65) ∧ (a1 - 65) < 8 ∧
                        Q (S 47 (a1 - 65)) (q_up S 36 0 0)) ∧
                      (¬ a2 ≠ 1 →
                        0 ≤ (a1 - 65) ∧ (a1 - 65) < 8 ∧
                        Q (S 46 (a1 - 65)) (q_up S 36 0 0))) ∧
                    (¬ a2 ≠ 0 →
                      0 ≤ (a1 - 65) ∧ (a1 - 65) < 8 ∧
                      ((S 45 (a1 - 65)) = 0 →
                        Q 0 (q_up S 36 0 0)) ∧
                      (¬ (S 45 (a1 - 65)) = 0 →
                        Q 1 (q_up S 36 0 0)))) ∧
                  (¬ (0 : Int) = 0 →
                    Q 0 (q_up S 36 0 0))) ∧
                (¬ a2 ≤ 2 →
                  ((2 : Int) = 0 →
                    q_rg (a1 - 65) ∧
                    (a2 ≠ 0 →
                      (a2 ≠ 1 →
                        0 ≤ (a1 - 65) ∧ (a1 - 65) < 8 ∧
                        Q (S 47 (a1 - 65)) (q_up S 36 0 2)) ∧
                      (¬ a2 ≠ 1 →
                        0 ≤ (a1 - 65) ∧ (a1 - 65) < 8 ∧
                        Q (S 46 (a1 - 65)) (q_up S 36 0 2))) ∧
                    (¬ a2 ≠ 0 →
                      0 ≤ (a1 - 65) ∧ (a1 - 65) < 8 ∧
                      ((S 45 (a1 - 65)) = 0 →
                        Q 0 (q_up S 36 0 2)) ∧
                      (¬ (S 45 (a1 - 65)) = 0 →
                        Q 1 (q_up S 36 0 2)))) ∧
                  (¬ (2 : Int) = 0 →
                    Q 0 (q_up S 36 0 2)))))) ∧
          (¬ (S 36 4) ≠ 0 →
            ((1 : Int) = 0 →
              q_rg (a1 - 65) ∧
              (a2 ≠ 0 →
                (a2 ≠ 1 →
                  0 ≤ (a1 - 65) ∧ (a1 - 65) < 8 ∧
                  Q (S 47 (a1 - 65)) (q_up S 36 0 1)) ∧
                (¬ a2 ≠ 1 →
                  0 ≤ (a1 - 65) ∧ (a1 - 65) < 8 ∧
                  Q (S 46 (a1 - 65)) (q_up S 36 0 1))) ∧
              (¬ a2 ≠ 0 →
                0 ≤ (a1 - 65) ∧ (a1 - 65) < 8 ∧
                ((S 45 (a1 - 65)) = 0 →
                  Q 0 (q_up S 36 0 1)) ∧
                (¬ (S 45 (a1 - 65)) = 0 →
                  Q 1 (q_up S 36 0 1)))) ∧
            (¬ (1 : Int) = 0 →
              Q 0 (q_up S 36 0 1)))) ∧
        (¬ (S 43 (a1 - 65)) ≥ 0 →
          ((S 36 4) ≠ 0 →
            ((1 : Int) ≠ 0 →
              ((2 : Int) = 0 →
                q_rg (a1 - 65) ∧
                (a2 ≠ 0 →
                  (a2 ≠ 1 →
                    0 ≤ (a1 - 65) ∧ (a1 - 65) < 8 ∧
                    Q (S 47 (a1 - 65)) (q_up S 36 0 2)) ∧
                  (¬ a2 ≠ 1 →
                    0 ≤ (a1 - 65) ∧ (a1 - 65) < 8 ∧
                    Q (S 46 (a1 - 65)) (q_up S 36 0 2))) ∧
                (¬ a2 ≠ 0 →
                  0 ≤ (a1 - 65) ∧ (a1 - 65) < 8 ∧
                  ((S 45 (a1 - 65)) = 0 →
                    Q 0 (q_up S 36 0 2)) ∧
                  (¬ (S 45 (a1 - 65)) = 0 →
                    Q 1 (q_up S 36 0 2)))) ∧
              (¬ (2 : Int) = 0 →
                Q 0 (q_up S 36 0 2))) ∧
            (¬ (1 : Int) ≠ 0 →
              (a2 < 0 →
                ((2 : Int) = 0 →
                  q_rg (a1 - 65) ∧
                  (a2 ≠ 0 →
                    (a2 ≠ 1 →
                      0 ≤ (a1 - 65) ∧ (a1 - 65) < 8 ∧
                      Q (S 47 (a1 - 65)) (q_up S 36 0 2)) ∧
                    (¬ a2 ≠ 1 →
                      0 ≤ (a1 - 65) ∧ (a1 - 65) < 8 ∧
                      Q (S 46 (a1 - 65)) (q_up S 36 0 2))) ∧
                  (¬ a2 ≠ 0 →
                    0 ≤ (a1 - 65) ∧ (a1 - 65) < 8 ∧
                    ((S 45 (a1 - 65)) = 0 →
                      Q 0 (q_up S 36 0 2)) ∧
                    (¬ (S 45 (a1 - 65)) = 0 →
                      Q 1 (q_up S 36 0 2)))) ∧
                (¬ (2 : Int) = 0 →
                  Q 0 (q_up S 36 0 2))) ∧
              (¬ a2 < 0 →
                (a2 ≤ 2 →
                  ((0 : Int) = 0 →
                    q_rg (a1 - 65) ∧
                    (a2 ≠ 0 →
                      (a2 ≠ 1 →
                        0 ≤ (a1 - 65) ∧ (a1 - 65) < 8 ∧
                        Q (S 47 (a1 - 65)) (q_up S 36 0 0)) ∧
                      (¬ a2 ≠ 1 →
                        0 ≤ (a1 - 65) ∧ (a1 - 65) < 8 ∧
                        Q (S 46 (a1 - 65)) (q_up S 36 0 0))) ∧
                    (¬ a2 ≠ 0 →
                      0 ≤ (a1 - 65) ∧ (a1 - 65) < 8 ∧
                      ((S 45 (a1 - 65)) = 0 →
                        Q 0 (q_up S 36 0 0)) ∧
                      (¬ (S 45 (a1 - 65)) = 0 →
                        Q 1 (q_up S 36 0 0)))) ∧
                  (¬ (0 : Int) = 0 →
                    Q 0 (q_up S 36 0 0))) ∧
                (¬ a2 ≤ 2 →
                  ((2 : Int) = 0 →
                    q_rg (a1 - 65) ∧
                    (a2 ≠ 0 →
                      (a2 ≠ 1 →
                        0 ≤ (a1 - 65) ∧ (a1 - 65) < 8 ∧
                        Q (S 47 (a1 - 65)) (q_up S 36 0 2)) ∧
                      (¬ a2 ≠ 1 →
                        0 ≤ (a1 - 65) ∧ (a1 - 65) < 8 ∧
                        Q (S 46 (a1 - 65)) (q_up S 36 0 2))) ∧
                    (¬ a2 ≠ 0 →
                      0 ≤ (a1 - 65) ∧ (a1 - 65) < 8 ∧
                      ((S 45 (a1 - 65)) = 0 →
                        Q 0 (q_up S 36 0 2)) ∧
                      (¬ (S 45 (a1 - 65)) = 0 →
                        Q 1 (q_up S 36 0 2)))) ∧
                  (¬ (2 : Int) = 0 →
                    Q 0 (q_up S 36 0 2)))))) ∧
          (¬ (S 36 4) ≠ 0 →
            ((1 : Int) = 0 →
              q_rg (a1 - 65) ∧
              (a2 ≠ 0 →
                (a2 ≠ 1 →
                  0 ≤ (a1 - 65) ∧ (a1 - 65) < 8 ∧
                  Q (S 47 (a1 - 65)) (q_up S 36 0 1)) ∧
                (¬ a2 ≠ 1 →
                  0 ≤ (a1 - 65) ∧ (a1 - 65) < 8 ∧
                  Q (S 46 (a1 - 65)) (q_up S 36 0 1))) ∧
              (¬ a2 ≠ 0 →
                0 ≤ (a1 - 65) ∧ (a1 - 65) < 8 ∧
                ((S 45 (a1 - 65)) = 0 →
                  Q 0 (q_up S 36 0 1)) ∧
                (¬ (S 45 (a1 - 65)) = 0 →
                  Q 1 (q_up S 36 0 1)))) ∧
            (¬ (1 : Int) = 0 →
              Q 0 (q_up S 36 0 1)))))))) : q_c 66 [vR 36, vI a1, vI a2] S Q Z := q_blk 1054 h
-- LMModel.item
set_option maxRecDepth 20000 in
theorem b_67_0 {Q : q_Q} {Z : q_Z} {a1 a2 : Int} {S : q_S} (h : ((S 36 4) ≠ 0 →
    q_c 64 [vR 36, vI a1] S (fun r2 S1 =>
      (r2 = 0 →
        ((0 : Int) = 0 →
          q_r 67 42 [vR 36, vI a1, vI a2, vI 0, vI 0] [] (q_up S1 36 0 0) Q Z) ∧
        (¬ (0 : Int) = 0 →
          Q 0 (q_up S1 36 0 0))) ∧
      (¬ r2 = 0 →
        ((2 : Int) = 0 →
          q_r 67 42 [vR 36, vI a1, vI a2, vI 0, vI 0] [] (q_up S1 36 0 2) Q Z) ∧
        (¬ (2 : Int) = 0 →
          Q 0 (q_up S1 36 0 2)))) Z) ∧
  (¬ (S 36 4) ≠ 0 →
    ((1 : Int) = 0 →
      q_r 67 42 [vR 36, vI a1, vI a2, vI 0, vI 0] [] (q_up S 36 0 1) Q Z) ∧
    (¬ (1 : Int) = 0 →
      Q 0 (q_up S 36 0 1)))) : q_c 67 [vR 36, vI a1, vI a2] S Q Z := q_blk 43 h
-- LMModel.item
theorem b_67_42 {Q : q_Q} {Z : q_Z} {a1 a2 a3 a4 : Int} {S : q_S} (h : (a4 ≥ 128 →
    Q (-1) S) ∧
  (¬ a4 ≥ 128 →
    q_rg (128 * a1) ∧
    q_rg ((128 * a1) + a4) ∧
    0 ≤ ((128 * a1) + a4) ∧ ((128 * a1) + a4) < 5120 ∧
    ((S 48 ((128 * a1) + a4)) = 0 →
      q_rg (a4 + 1) ∧
      q_r 67 42 [vR 36, vI a1, vI a2, vI a3, vI (a4 + 1)] [] S Q Z) ∧
    (¬ (S 48 ((128 * a1) + a4)) = 0 →
      (a3 ≠ a2 →
        q_rg (a3 + 1) ∧
        q_rg (a4 + 1) ∧
        q_r 67 42 [vR 36, vI a1, vI a2, vI (a3 + 1), vI (a4 + 1)] [] S Q Z) ∧
      (¬ a3 ≠ a2 →
        Q a4 S)))) : q_r 67 42 [vR 36, vI a1, vI a2, vI a3, vI a4] [] S Q Z := q_blk 24 h
-- LMModel.go
set_option maxRecDepth 20000 in
theorem b_68_0 {Q : q_Q} {Z : q_Z} {a1 a2 : Int} {S : q_S} (h : ((S 36 4) ≠ 0 →
    q_c 64 [vR 36, vI a1] S (fun r2 S1 =>
      (r2 = 0 →
        q_c 29 [vI a2] S1 (fun r4 S3 =>
          (r4 ≥ 0 →
            ((0 : Int) = 0 →
              q_rg (16 * a1) ∧
              q_c 29 [vI a2] (q_up S3 36 0 0) (fun r6 S5 =>
                q_rg ((16 * a1) + r6) ∧
                0 ≤ ((16 * a1) + r6) ∧ ((16 * a1) + r6) < 640 ∧
                Q (S5 50 ((16 * a1) + r6)) S5) Z) ∧
            (¬ (0 : Int) = 0 →
              Q 0 (q_up S3 36 0 0))) ∧
          (¬ r4 ≥ 0 →
            ((3 : Int) = 0 →
              q_rg (16 * a1) ∧
              q_c 29 [vI a2] (q_up S3 36 0 3) (fun r8 S7 =>
                q_rg ((16 * a1) + r8) ∧
                0 ≤ ((16 * a1) + r8) ∧ ((16 * a1) + r8) < 640 ∧
                Q (S7 50 ((16 * a1) + r8)) S7) Z) ∧
            (¬ (3 : Int) = 0 →
              Q 0 (q_up S3 36 0 3)))) Z) ∧
      (¬ r2 = 0 →
        ((2 : Int) = 0 →
          q_rg (16 * a1) ∧
          q_c 29 [vI a2] (q_up S1 36 0 2) (fun r10 S9 =>
            q_rg ((16 * a1) + r10) ∧
            0 ≤ ((16 * a1) + r10) ∧ ((16 * a1) + r10) < 640 ∧
            Q (S9 50 ((16 * a1) + r10)) S9) Z) ∧
        (¬ (2 : Int) = 0 →
          Q 0 (q_up S1 36 0 2)))) Z) ∧
  (¬ (S 36 4) ≠ 0 →
    ((1 : Int) = 0 →
      q_rg (16 * a1) ∧
      q_c 29 [vI a2] (q_up S 36 0 1) (fun r12 S11 =>
        q_rg ((16 * a1) + r12) ∧
        0 ≤ ((16 * a1) + r12) ∧ ((16 * a1) + r12) < 640 ∧
        Q (S11 50 ((16 * a1) + r12)) S11) Z) ∧
    (¬ (1 : Int) = 0 →
      Q 0 (q_up S 36 0 1)))) : q_c 68 [vR 36, vI a1, vI a2] S Q Z := q_blk 86 h
-- LMModel.behind
set_option maxRecDepth 20000 in
theorem b_69_0 {Q : q_Q} {Z : q_Z} {a1 a2 a3 : Int} {S : q_S} (h : ((S 36 4) ≠ 0 →
    q_c 64 [vR 36, vI a1] S (fun r2 S1 =>
      (r2 ≠ 0 →
        ((2 : Int) = 0 →
          q_c 52 [vR 36, vI a1, vI a2, vI a3] (q_up S1 36 0 2) (fun r4 S3 =>
            Q r4 S3) Z) ∧
        (¬ (2 : Int) = 0 →
          Q 0 (q_up S1 36 0 2))) ∧
      (¬ r2 ≠ 0 →
        q_c 63 [vR 36, vI a2] S1 (fun r6 S5 =>
          (r6 = 0 →
            (a3 < 0 →
              ((3 : Int) = 0 →
                q_c 52 [vR 36, vI a1, vI a2, vI a3] (q_up S5 36 0 3) (fun r8 S7 =>
                  Q r8 S7) Z) ∧
              (¬ (3 : Int) = 0 →
                Q 0 (q_up S5 36 0 3))) ∧
            (¬ a3 < 0 →
              (a3 ≤ 2 →
                ((0 : Int) = 0 →
                  q_c 52 [vR 36, vI a1, vI a2, vI a3] (q_up S5 36 0 0) (fun r10 S9 =>
                    Q r10 S9) Z) ∧
                (¬ (0 : Int) = 0 →
                  Q 0 (q_up S5 36 0 0))) ∧
              (¬ a3 ≤ 2 →
                ((3 : Int) = 0 →
                  q_c 52 [vR 36, vI a1, vI a2, vI a3] (q_up S5 36 0 3) (fun r12 S11 =>
                    Q r12 S11) Z) ∧
                (¬ (3 : Int) = 0 →
                  Q 0 (q_up S5 36 0 3))))) ∧
          (¬ r6 = 0 →
            ((2 : Int) = 0 →
              q_c 52 [vR 36, vI a1, vI a2, vI a3] (q_up S5 36 0 2) (fun r14 S13 =>
                Q r14 S13) Z) ∧
            (¬ (2 : Int) = 0 →
              Q 0 (q_up S5 36 0 2)))) Z)) Z) ∧
  (¬ (S 36 4) ≠ 0 →
    ((1 : Int) = 0 →
      q_c 52 [vR 36, vI a1, vI a2, vI a3] (q_up S 36 0 1) (fun r16 S15 =>
        Q r16 S15) Z) ∧
    (¬ (1 : Int) = 0 →
      Q 0 (q_up S 36 0 1)))) : q_c 69 [vR 36, vI a1, vI a2, vI a3] S Q Z := q_blk 106 h
-- LMModel.action
set_option maxRecDepth 20000 in
theorem b_70_0 {Q : q_Q} {Z : q_Z} {a1 a2 : Int} {S : q_S} (h : ((S 36 4) ≠ 0 →
    q_c 64 [vR 36, vI a1] S (fun r2 S1 =>
      (r2 = 0 →
        q_c 31 [vI a2] S1 (fun r4 S3 =>
          (r4 ≥ 0 →
            ((0 : Int) = 0 →
              q_c 31 [vI a2] (q_up S3 36 0 0) (fun r6 S5 =>
                q_c 57 [vR 36, vI a1, vI r6] S5 (fun r8 S7 =>
                  Q r8 S7) Z) Z) ∧
            (¬ (0 : Int) = 0 →
              Q 0 (q_up S3 36 0 0))) ∧
          (¬ r4 ≥ 0 →
            ((3 : Int) = 0 →
              q_c 31 [vI a2] (q_up S3 36 0 3) (fun r10 S9 =>
                q_c 57 [vR 36, vI a1, vI r10] S9 (fun r12 S11 =>
                  Q r12 S11) Z) Z) ∧
            (¬ (3 : Int) = 0 →
              Q 0 (q_up S3 36 0 3)))) Z) ∧
      (¬ r2 = 0 →
        ((2 : Int) = 0 →
          q_c 31 [vI a2] (q_up S1 36 0 2) (fun r14 S13 =>
            q_c 57 [vR 36, vI a1, vI r14] S13 (fun r16 S15 =>
              Q r16 S15) Z) Z) ∧
        (¬ (2 : Int) = 0 →
          Q 0 (q_up S1 36 0 2)))) Z) ∧
  (¬ (S 36 4) ≠ 0 →
    ((1 : Int) = 0 →
      q_c 31 [vI a2] (q_up S 36 0 1) (fun r18 S17 =>
        q_c 57 [vR 36, vI a1, vI r18] S17 (fun r20 S19 =>
          Q r20 S19) Z) Z) ∧
    (¬ (1 : Int) = 0 →
      Q 0 (q_up S 36 0 1)))) : q_c 70 [vR 36, vI a1, vI a2] S Q Z := q_blk 70 h
-- LMModel.unsettled
theorem b_71_0 {Q : q_Q} {Z : q_Z} {a1 : Int} {S : q_S} (h : ((S 36 4) ≠ 0 →
    ((0 : Int) = 0 →
      (a1 ≥ 0 →
        q_c 60 [vR 36, vI a1] (q_up S 36 0 0) (fun r2 S1 =>
          Q r2 S1) Z) ∧
      (¬ a1 ≥ 0 →
        Q (-1) (q_up S 36 0 0))) ∧
    (¬ (0 : Int) = 0 →
      Q 0 (q_up S 36 0 0))) ∧
  (¬ (S 36 4) ≠ 0 →
    ((1 : Int) = 0 →
      (a1 ≥ 0 →
        q_c 60 [vR 36, vI a1] (q_up S 36 0 1) (fun r4 S3 =>
          Q r4 S3) Z) ∧
      (¬ a1 ≥ 0 →
        Q (-1) (q_up S 36 0 1))) ∧
    (¬ (1 : Int) = 0 →
      Q 0 (q_up S 36 0 1)))) : q_c 71 [vR 36, vI a1] S Q Z := q_blk 39 h
-- LMModel.opn
set_option maxRecDepth 20000 in
theorem b_72_0 {Q : q_Q} {Z : q_Z} {a1 a2 : Int} {S : q_S} (h : ((S 36 4) ≠ 0 →
    (a1 < 1 →
      ((2 : Int) ≠ 0 →
        Q 0 (q_up S 36 0 2)) ∧
      (¬ (2 : Int) ≠ 0 →
        q_bo 1 ∧
        (0 : Int) ≤ 0 ∧ (0 : Int) < 24 ∧
        Q 0 (q_up (q_up (q_up (q_up (q_up (q_up (q_up (q_up (q_up S 36 0 2) 36 24 1) 36 25 0) 36 26 a1) 36 27 a2) 36 28 1) 36 29 0) 36 30 0) 54 0 0))) ∧
    (¬ a1 < 1 →
      (a1 > 24 →
        ((2 : Int) ≠ 0 →
          Q 0 (q_up S 36 0 2)) ∧
        (¬ (2 : Int) ≠ 0 →
          q_bo 1 ∧
          (0 : Int) ≤ 0 ∧ (0 : Int) < 24 ∧
          Q 0 (q_up (q_up (q_up (q_up (q_up (q_up (q_up (q_up (q_up S 36 0 2) 36 24 1) 36 25 0) 36 26 a1) 36 27 a2) 36 28 1) 36 29 0) 36 30 0) 54 0 0))) ∧
      (¬ a1 > 24 →
        (a2 < 0 →
          ((2 : Int) ≠ 0 →
            Q 0 (q_up S 36 0 2)) ∧
          (¬ (2 : Int) ≠ 0 →
            q_bo 1 ∧
            (0 : Int) ≤ 0 ∧ (0 : Int) < 24 ∧
            Q 0 (q_up (q_up (q_up (q_up (q_up (q_up (q_up (q_up (q_up S 36 0 2) 36 24 1) 36 25 0) 36 26 a1) 36 27 a2) 36 28 1) 36 29 0) 36 30 0) 54 0 0))) ∧
        (¬ a2 < 0 →
          (a2 ≤ 60 →
            ((0 : Int) ≠ 0 →
              Q 0 (q_up S 36 0 0)) ∧
            (¬ (0 : Int) ≠ 0 →
              q_bo 1 ∧
              (0 : Int) ≤ 0 ∧ (0 : Int) < 24 ∧
              Q 0 (q_up (q_up (q_up (q_up (q_up (q_up (q_up (q_up (q_up S 36 0 0) 36 24 1) 36 25 0) 36 26 a1) 36 27 a2) 36 28 1) 36 29 0) 36 30 0) 54 0 0))) ∧
          (¬ a2 ≤ 60 →
            ((2 : Int) ≠ 0 →
              Q 0 (q_up S 36 0 2)) ∧
            (¬ (2 : Int) ≠ 0 →
              q_bo 1 ∧
              (0 : Int) ≤ 0 ∧ (0 : Int) < 24 ∧
              Q 0 (q_up (q_up (q_up (q_up (q_up (q_up (q_up (q_up (q_up S 36 0 2) 36 24 1) 36 25 0) 36 26 a1) 36 27 a2) 36 28 1) 36 29 0) 36 30 0) 54 0 0))))))) ∧
  (¬ (S 36 4) ≠ 0 →
    ((1 : Int) ≠ 0 →
      Q 0 (q_up S 36 0 1)) ∧
    (¬ (1 : Int) ≠ 0 →
      q_bo 1 ∧
      (0 : Int) ≤ 0 ∧ (0 : Int) < 24 ∧
      Q 0 (q_up (q_up (q_up (q_up (q_up (q_up (q_up (q_up (q_up S 36 0 1) 36 24 1) 36 25 0) 36 26 a1) 36 27 a2) 36 28 1) 36 29 0) 36 30 0) 54 0 0)))) : q_c 72 [vR 36, vI a1, vI a2] S Q Z := q_blk 218 h
-- LMModel.push
theorem b_73_0 {Q : q_Q} {Z : q_Z} {a1 a2 a3 a4 : Int} {S : q_S} (h : q_c 30 [vI a2] S (fun r2 S1 =>
    0 ≤ (S 36 30) ∧ (S 36 30) < 60 ∧
    0 ≤ (S1 36 30) ∧ (S1 36 30) < 60 ∧
    0 ≤ (S1 36 30) ∧ (S1 36 30) < 60 ∧
    q_r 73 37 [vR 36, vI a1, vI a2, vI a3, vI a4, vI 0] [] (q_up (q_up (q_up S1 56 (S 36 30) r2) 57 (S1 36 30) a3) 58 (S1 36 30) a4) Q Z) Z) : q_c 73 [vR 36, vI a1, vI a2, vI a3, vI a4] S Q Z := q_blk 21 h
-- LMModel.push
set_option maxRecDepth 20000 in
theorem b_73_37 {Q : q_Q} {Z : q_Z} {a1 a2 a4 a5 : Int} {j3 : q_J} {S : q_S} (h : (a5 ≥ a4 →
    (a4 ≤ 0 →
      0 ≤ (S 36 30) ∧ (S 36 30) < 60 ∧
      (a4 ≤ 0 →
        (a2 ≥ 8 →
          q_rg ((S 36 29) + 1) ∧
          0 ≤ (S 36 30) ∧ (S 36 30) < 60 ∧
          0 ≤ (S 36 28) ∧ (S 36 28) < 24 ∧
          0 ≤ (S 36 28) ∧ (S 36 28) < 24 ∧
          q_rg ((S 36 28) + 1) ∧
          q_rg ((S 36 30) + 1) ∧
          Q 0 (q_up (q_up (q_up (q_up (q_up (q_up S 59 (S 36 30) (S 36 29)) 60 (S 36 30) ((S 36 29) + 1)) 54 (S 36 28) a1) 55 (S 36 28) (S 36 30)) 36 28 ((S 36 28) + 1)) 36 30 ((S 36 30) + 1))) ∧
        (¬ a2 ≥ 8 →
          0 ≤ (S 36 30) ∧ (S 36 30) < 60 ∧
          0 ≤ (S 36 28) ∧ (S 36 28) < 24 ∧
          0 ≤ (S 36 28) ∧ (S 36 28) < 24 ∧
          q_rg ((S 36 28) + 1) ∧
          q_rg ((S 36 30) + 1) ∧
          Q 0 (q_up (q_up (q_up (q_up (q_up (q_up S 59 (S 36 30) (S 36 29)) 60 (S 36 30) (S 36 29)) 54 (S 36 28) a1) 55 (S 36 28) (S 36 30)) 36 28 ((S 36 28) + 1)) 36 30 ((S 36 30) + 1)))) ∧
      (¬ a4 ≤ 0 →
        q_rg ((S 36 28) + a4) ∧
        q_rg (((S 36 28) + a4) - 1) ∧
        0 ≤ (((S 36 28) + a4) - 1) ∧ (((S 36 28) + a4) - 1) < 24 ∧
        0 ≤ (S 55 (((S 36 28) + a4) - 1)) ∧ (S 55 (((S 36 28) + a4) - 1)) < 60 ∧
        0 ≤ (S 36 30) ∧ (S 36 30) < 60 ∧
        0 ≤ (S 36 28) ∧ (S 36 28) < 24 ∧
        0 ≤ (S 36 28) ∧ (S 36 28) < 24 ∧
        q_rg ((S 36 28) + 1) ∧
        q_rg ((S 36 30) + 1) ∧
        Q 0 (q_up (q_up (q_up (q_up (q_up (q_up S 59 (S 36 30) (S 36 29)) 60 (S 36 30) (S 60 (S 55 (((S 36 28) + a4) - 1)))) 54 (S 36 28) a1) 55 (S 36 28) (S 36 30)) 36 28 ((S 36 28) + 1)) 36 30 ((S 36 30) + 1)))) ∧
    (¬ a4 ≤ 0 →
      0 ≤ (S 36 28) ∧ (S 36 28) < 24 ∧
      0 ≤ (S 55 (S 36 28)) ∧ (S 55 (S 36 28)) < 60 ∧
      0 ≤ (S 36 30) ∧ (S 36 30) < 60 ∧
      (a4 ≤ 0 →
        (a2 ≥ 8 →
          q_rg ((S 36 29) + 1) ∧
          0 ≤ (S 36 30) ∧ (S 36 30) < 60 ∧
          0 ≤ (S 36 28) ∧ (S 36 28) < 24 ∧
          0 ≤ (S 36 28) ∧ (S 36 28) < 24 ∧
          q_rg ((S 36 28) + 1) ∧
          q_rg ((S 36 30) + 1) ∧
          Q 0 (q_up (q_up (q_up (q_up (q_up (q_up S 59 (S 36 30) (S 59 (S 55 (S 36 28)))) 60 (S 36 30) ((S 36 29) + 1)) 54 (S 36 28) a1) 55 (S 36 28) (S 36 30)) 36 28 ((S 36 28) + 1)) 36 30 ((S 36 30) + 1))) ∧
        (¬ a2 ≥ 8 →
          0 ≤ (S 36 30) ∧ (S 36 30) < 60 ∧
          0 ≤ (S 36 28) ∧ (S 36 28) < 24 ∧
          0 ≤ (S 36 28) ∧ (S 36 28) < 24 ∧
          q_rg ((S 36 28) + 1) ∧
          q_rg ((S 36 30) + 1) ∧
          Q 0 (q_up (q_up (q_up (q_up (q_up (q_up S 59 (S 36 30) (S 59 (S 55 (S 36 28)))) 60 (S 36 30) (S 36 29)) 54 (S 36 28) a1) 55 (S 36 28) (S 36 30)) 36 28 ((S 36 28) + 1)) 36 30 ((S 36 30) + 1)))) ∧
      (¬ a4 ≤ 0 →
        q_rg ((S 36 28) + a4) ∧
        q_rg (((S 36 28) + a4) - 1) ∧
        0 ≤ (((S 36 28) + a4) - 1) ∧ (((S 36 28) + a4) - 1) < 24 ∧
        0 ≤ (S 55 (((S 36 28) + a4) - 1)) ∧ (S 55 (((S 36 28) + a4) - 1)) < 60 ∧
        0 ≤ (S 36 30) ∧ (S 36 30) < 60 ∧
        0 ≤ (S 36 28) ∧ (S 36 28) < 24 ∧
        0 ≤ (S 36 28) ∧ (S 36 28) < 24 ∧
        q_rg ((S 36 28) + 1) ∧
        q_rg ((S 36 30) + 1) ∧
        Q 0 (q_up (q_up (q_up (q_up (q_up (q_up S 59 (S 36 30) (S 59 (S 55 (S 36 28)))) 60 (S 36 30) (S 60 (S 55 (((S 36 28) + a4) - 1)))) 54 (S 36 28) a1) 55 (S 36 28) (S 36 30)) 36 28 ((S 36 28) + 1)) 36 30 ((S 36 30) + 1))))) ∧
  (¬ a5 ≥ a4 →
    q_rg (4 * (S 36 30)) ∧
    q_rg ((4 * (S 36 30)) + a5) ∧
    q_rg ((S 36 28) + a5) ∧
    0 ≤ ((S 36 28) + a5) ∧ ((S 36 28) + a5) < 24 ∧
    0 ≤ ((4 * (S 36 30)) + a5) ∧ ((4 * (S 36 30)) + a5) < 240 ∧
    q_rg (a5 + 1) ∧
    q_r 73 37 [vR 36, vI a1, vI a2, vJ j3, vI a4, vI (a5 + 1)] [] (q_up S 61 ((4 * (S 36 30)) + a5) (S 55 ((S 36 28) + a5))) Q Z)) : q_r 73 37 [vR 36, vI a1, vI a2, vJ j3, vI a4, vI a5] [] S Q Z := q_blk 260 h
-- LMModel.does
set_option maxRecDepth 20000 in
theorem b_74_0 {Q : q_Q} {Z : q_Z} {a1 a2 : Int} {S : q_S} (h : (a1 < 20 →
    ((0 : Int) = 0 →
      0 ≤ a1 ∧ a1 < 16 ∧
      q_rg ((S 36 28) - (S 39 a1)) ∧
      q_rg (((S 36 28) - (S 39 a1)) + 1) ∧
      ((((S 36 28) - (S 39 a1)) + 1) > (S 36 26) →
        q_bo 0 ∧ Q 0 (q_up S 36 25 3)) ∧
      (¬ (((S 36 28) - (S 39 a1)) + 1) > (S 36 26) →
        q_rg ((S 36 30) + 1) ∧
        (((S 36 30) + 1) ≤ (S 36 27) →
          ((0 : Int) = 0 →
            q_rg ((S 36 28) - (S 39 a1)) ∧
            q_rg (((S 36 28) - (S 39 a1)) - 1) ∧
            0 ≤ (((S 36 28) - (S 39 a1)) - 1) ∧ (((S 36 28) - (S 39 a1)) - 1) < 24 ∧
            q_rg (16 * (S 54 (((S 36 28) - (S 39 a1)) - 1))) ∧
            0 ≤ a1 ∧ a1 < 16 ∧
            q_rg ((16 * (S 54 (((S 36 28) - (S 39 a1)) - 1))) + (S 38 a1)) ∧
            0 ≤ ((16 * (S 54 (((S 36 28) - (S 39 a1)) - 1))) + (S 38 a1)) ∧ ((16 * (S 54 (((S 36 28) - (S 39 a1)) - 1))) + (S 38 a1)) < 640 ∧
            0 ≤ a1 ∧ a1 < 16 ∧
            q_c 73 [vR 36, vI (S 50 ((16 * (S 54 (((S 36 28) - (S 39 a1)) - 1))) + (S 38 a1))), vI (S 38 a1), vI a1, vI (S 39 a1)] (q_up S 36 28 ((S 36 28) - (S 39 a1))) (fun _ S1 =>
              q_bo 1 ∧ Q 1 S1) Z) ∧
          (¬ (0 : Int) = 0 →
            q_rg (a1 - 20) ∧
            q_rg (8 + a2) ∧
            q_c 73 [vR 36, vI (a1 - 20), vI (8 + a2), vI 0, vI 0] S (fun _ S3 =>
              q_rg ((S3 36 29) + 1) ∧
              q_bo 0 ∧ Q 0 (q_up S3 36 29 ((S3 36 29) + 1))) Z)) ∧
        (¬ ((S 36 30) + 1) ≤ (S 36 27) →
          q_bo 0 ∧ Q 0 (q_up S 36 25 3)))) ∧
    (¬ (0 : Int) = 0 →
      q_rg ((S 36 28) - 0) ∧
      q_rg (((S 36 28) - 0) + 1) ∧
      ((((S 36 28) - 0) + 1) > (S 36 26) →
        q_bo 0 ∧ Q 0 (q_up S 36 25 3)) ∧
      (¬ (((S 36 28) - 0) + 1) > (S 36 26) →
        q_rg ((S 36 30) + 1) ∧
        (((S 36 30) + 1) ≤ (S 36 27) →
          ((0 : Int) = 0 →
            q_rg ((S 36 28) - 0) ∧
            q_rg (((S 36 28) - 0) - 1) ∧
            0 ≤ (((S 36 28) - 0) - 1) ∧ (((S 36 28) - 0) - 1) < 24 ∧
            q_rg (16 * (S 54 (((S 36 28) - 0) - 1))) ∧
            0 ≤ a1 ∧ a1 < 16 ∧
            q_rg ((16 * (S 54 (((S 36 28) - 0) - 1))) + (S 38 a1)) ∧
            0 ≤ ((16 * (S 54 (((S 36 28) - 0) - 1))) + (S 38 a1)) ∧ ((16 * (S 54 (((S 36 28) - 0) - 1))) + (S 38 a1)) < 640 ∧
            0 ≤ a1 ∧ a1 < 16 ∧
            q_c 73 [vR 36, vI (S 50 ((16 * (S 54 (((S 36 28) - 0) - 1))) + (S 38 a1))), vI (S 38 a1), vI a1, vI 0] (q_up S 36 28 ((S 36 28) - 0)) (fun _ S5 =>
              q_bo 1 ∧ Q 1 S5) Z) ∧
          (¬ (0 : Int) = 0 →
            q_rg (a1 - 20) ∧
            q_rg (8 + a2) ∧
            q_c 73 [vR 36, vI (a1 - 20), vI (8 + a2), vI 0, vI 0] S (fun _ S7 =>
              q_rg ((S7 36 29) + 1) ∧
              q_bo 0 ∧ Q 0 (q_up S7 36 29 ((S7 36 29) + 1))) Z)) ∧
        (¬ ((S 36 30) + 1) ≤ (S 36 27) →
          q_bo 0 ∧ Q 0 (q_up S 36 25 3))))) ∧
  (¬ a1 < 20 →
    ((1 : Int) = 0 →
      0 ≤ a1 ∧ a1 < 16 ∧
      q_rg ((S 36 28) - (S 39 a1)) ∧
      q_rg (((S 36 28) - (S 39 a1)) + 1) ∧
      ((((S 36 28) - (S 39 a1)) + 1) > (S 36 26) →
        q_bo 0 ∧ Q 0 (q_up S 36 25 3)) ∧
      (¬ (((S 36 28) - (S 39 a1)) + 1) > (S 36 26) →
        q_rg ((S 36 30) + 1) ∧
        (((S 36 30) + 1) ≤ (S 36 27) →
          ((1 : Int) = 0 →
            q_rg ((S 36 28) - (S 39 a1)) ∧
            q_rg (((S 36 28) - (S 39 a1)) - 1) ∧
            0 ≤ (((S 36 28) - (S 39 a1)) - 1) ∧ (((S 36 28) - (S 39 a1)) - 1) < 24 ∧
            q_rg (16 * (S 54 (((S 36 28) - (S 39 a1)) - 1))) ∧
            0 ≤ a1 ∧ a1 < 16 ∧
            q_rg ((16 * (S 54 (((S 36 28) - (S 39 a1)) - 1))) + (S 38 a1)) ∧
            0 ≤ ((16 * (S 54 (((S 36 28) - (S 39 a1)) - 1))) + (S 38 a1)) ∧ ((16 * (S 54 (((S 36 28) - (S 39 a1)) - 1))) + (S 38 a1)) < 640 ∧
            0 ≤ a1 ∧ a1 < 16 ∧
            q_c 73 [vR 36, vI (S 50 ((16 * (S 54 (((S 36 28) - (S 39 a1)) - 1))) + (S 38 a1))), vI (S 38 a1), vI a1, vI (S 39 a1)] (q_up S 36 28 ((S 36 28) - (S 39 a1))) (fun _ S9 =>
              q_bo 1 ∧ Q 1 S9) Z) ∧
          (¬ (1 : Int) = 0 →
            q_rg (a1 - 20) ∧
            q_rg (8 + a2) ∧
            q_c 73 [vR 36, vI (a1 - 20), vI (8 + a2), vI 0, vI 0] S (fun _ S11 =>
              q_rg ((S11 36 29) + 1) ∧
              q_bo 0 ∧ Q 0 (q_up S11 36 29 ((S11 36 29) + 1))) Z)) ∧
        (¬ ((S 36 30) + 1) ≤ (S 36 27) →
          q_bo 0 ∧ Q 0 (q_up S 36 25 3)))) ∧
    (¬ (1 : Int) = 0 →
      q_rg ((S 36 28) - 0) ∧
      q_rg (((S 36 28) - 0) + 1) ∧
      ((((S 36 28) - 0) + 1) > (S 36 26) →
        q_bo 0 ∧ Q 0 (q_up S 36 25 3)) ∧
      (¬ (((S 36 28) - 0) + 1) > (S 36 26) →
        q_rg ((S 36 30) + 1) ∧
        (((S 36 30) + 1) ≤ (S 36 27) →
          ((1 : Int) = 0 →
            q_rg ((S 36 28) - 0) ∧
            q_rg (((S 36 28) - 0) - 1) ∧
            0 ≤ (((S 36 28) - 0) - 1) ∧ (((S 36 28) - 0) - 1) < 24 ∧
            q_rg (16 * (S 54 (((S 36 28) - 0) - 1))) ∧
            0 ≤ a1 ∧ a1 < 16 ∧
            q_rg ((16 * (S 54 (((S 36 28) - 0) - 1))) + (S 38 a1)) ∧
            0 ≤ ((16 * (S 54 (((S 36 28) - 0) - 1))) + (S 38 a1)) ∧ ((16 * (S 54 (((S 36 28) - 0) - 1))) + (S 38 a1)) < 640 ∧
            0 ≤ a1 ∧ a1 < 16 ∧
            q_c 73 [vR 36, vI (S 50 ((16 * (S 54 (((S 36 28) - 0) - 1))) + (S 38 a1))), vI (S 38 a1), vI a1, vI 0] (q_up S 36 28 ((S 36 28) - 0)) (fun _ S13 =>
              q_bo 1 ∧ Q 1 S13) Z) ∧
          (¬ (1 : Int) = 0 →
            q_rg (a1 - 20) ∧
            q_rg (8 + a2) ∧
            q_c 73 [vR 36, vI (a1 - 20), vI (8 + a2), vI 0, vI 0] S (fun _ S15 =>
              q_rg ((S15 36 29) + 1) ∧
              q_bo 0 ∧ Q 0 (q_up S15 36 29 ((S15 36 29) + 1))) Z)) ∧
        (¬ ((S 36 30) + 1) ≤ (S 36 27) →
          q_bo 0 ∧ Q 0 (q_up S 36 25 3)))))) : q_c 74 [vR 36, vI a1, vI a2] S Q Z := q_blk 352 h
-- LMModel.token
set_option maxRecDepth 20000 in
theorem b_75_0 {Q : q_Q} {Z : q_Z} {a1 : Int} {S : q_S} (h : ((S 36 24) = 0 →
    ((1 : Int) = 0 →
      q_c 31 [vI a1] (q_up S 36 0 1) (fun r2 S1 =>
        q_r 75 50 [vR 36, vI a1, vI r2, vI 1, vU] [] S1 Q Z) Z) ∧
    (¬ (1 : Int) = 0 →
      Q 0 (q_up S 36 0 1))) ∧
  (¬ (S 36 24) = 0 →
    ((S 36 25) = 0 →
      q_c 31 [vI a1] S (fun r4 S3 =>
        (r4 ≥ 0 →
          ((0 : Int) = 0 →
            q_c 31 [vI a1] (q_up S3 36 0 0) (fun r6 S5 =>
              q_r 75 50 [vR 36, vI a1, vI r6, vI 1, vU] [] S5 Q Z) Z) ∧
          (¬ (0 : Int) = 0 →
            Q 0 (q_up S3 36 0 0))) ∧
        (¬ r4 ≥ 0 →
          ((2 : Int) = 0 →
            q_c 31 [vI a1] (q_up S3 36 0 2) (fun r8 S7 =>
              q_r 75 50 [vR 36, vI a1, vI r8, vI 1, vU] [] S7 Q Z) Z) ∧
          (¬ (2 : Int) = 0 →
            Q 0 (q_up S3 36 0 2)))) Z) ∧
    (¬ (S 36 25) = 0 →
      ((1 : Int) = 0 →
        q_c 31 [vI a1] (q_up S 36 0 1) (fun r10 S9 =>
          q_r 75 50 [vR 36, vI a1, vI r10, vI 1, vU] [] S9 Q Z) Z) ∧
      (¬ (1 : Int) = 0 →
        Q 0 (q_up S 36 0 1))))) : q_c 75 [vR 36, vI a1] S Q Z := q_blk 61 h
-- LMModel.token
set_option maxRecDepth 20000 in
theorem b_75_50 {Q : q_Q} {Z : q_Z} {a2 a3 : Int} {j1 j4 : q_J} {S : q_S} (h : (a3 = 0 →
    Q (S 36 25) S) ∧
  (¬ a3 = 0 →
    q_rg ((S 36 28) - 1) ∧
    0 ≤ ((S 36 28) - 1) ∧ ((S 36 28) - 1) < 24 ∧
    q_c 57 [vR 36, vI (S 54 ((S 36 28) - 1)), vI a2] S (fun r2 S1 =>
      (r2 = 0 →
        (r2 ≠ 0 →
          q_r 75 50 [vR 36, vJ j1, vI a2, vI 0, vI r2] [] (q_up S1 36 25 1) Q Z) ∧
        (¬ r2 ≠ 0 →
          q_r 75 50 [vR 36, vJ j1, vI a2, vI 0, vI r2] [] (q_up S1 36 25 2) Q Z)) ∧
      (¬ r2 = 0 →
        (r2 ≠ 16 →
          q_c 74 [vR 36, vI r2, vI a2] S1 (fun r4 S3 =>
            q_r 75 50 [vR 36, vJ j1, vI a2, vI r4, vI r2] [] S3 Q Z) Z) ∧
        (¬ r2 ≠ 16 →
          (r2 ≠ 0 →
            q_r 75 50 [vR 36, vJ j1, vI a2, vI 0, vI r2] [] (q_up S1 36 25 1) Q Z) ∧
          (¬ r2 ≠ 0 →
            q_r 75 50 [vR 36, vJ j1, vI a2, vI 0, vI r2] [] (q_up S1 36 25 2) Q Z)))) Z)) : q_r 75 50 [vR 36, vJ j1, vI a2, vI a3, vJ j4] [] S Q Z := q_blk 59 h
-- LMModel.parser
theorem b_76_0 {Q : q_Q} {Z : q_Z} {a1 : Int} {S : q_S} (h : ((S 36 24) ≠ 0 →
    (a1 ≠ 0 →
      (a1 ≠ 1 →
        (a1 ≠ 2 →
          (a1 ≠ 3 →
            Q (-1) (q_up S 36 0 0)) ∧
          (¬ a1 ≠ 3 →
            Q (S 36 30) (q_up S 36 0 0))) ∧
        (¬ a1 ≠ 2 →
          Q (S 36 29) (q_up S 36 0 0))) ∧
      (¬ a1 ≠ 1 →
        Q (S 36 28) (q_up S 36 0 0))) ∧
    (¬ a1 ≠ 0 →
      Q (S 36 25) (q_up S 36 0 0))) ∧
  (¬ (S 36 24) ≠ 0 →
    Q (-1) (q_up S 36 0 0))) : q_c 76 [vR 36, vI a1] S Q Z := q_blk 37 h
-- LMModel.stack
set_option maxRecDepth 20000 in
theorem b_77_0 {Q : q_Q} {Z : q_Z} {a1 : Int} {S : q_S} (h : ((S 36 24) = 0 →
    ((1 : Int) = 0 →
      0 ≤ a1 ∧ a1 < 24 ∧
      Q (S 54 a1) (q_up S 36 0 1)) ∧
    (¬ (1 : Int) = 0 →
      Q 0 (q_up S 36 0 1))) ∧
  (¬ (S 36 24) = 0 →
    (a1 < 0 →
      ((1 : Int) = 0 →
        0 ≤ a1 ∧ a1 < 24 ∧
        Q (S 54 a1) (q_up S 36 0 1)) ∧
      (¬ (1 : Int) = 0 →
        Q 0 (q_up S 36 0 1))) ∧
    (¬ a1 < 0 →
      (a1 < (S 36 28) →
        ((0 : Int) = 0 →
          0 ≤ a1 ∧ a1 < 24 ∧
          Q (S 54 a1) (q_up S 36 0 0)) ∧
        (¬ (0 : Int) = 0 →
          Q 0 (q_up S 36 0 0))) ∧
      (¬ a1 < (S 36 28) →
        ((1 : Int) = 0 →
          0 ≤ a1 ∧ a1 < 24 ∧
          Q (S 54 a1) (q_up S 36 0 1)) ∧
        (¬ (1 : Int) = 0 →
          Q 0 (q_up S 36 0 1)))))) : q_c 77 [vR 36, vI a1] S Q Z := q_blk 65 h
-- LMModel.expected
theorem b_78_0 {Q : q_Q} {Z : q_Z} {S : q_S} (h : ((S 36 24) ≠ 0 →
    q_r 78 20 [vR 36, vI 0, vI 0] [] (q_up S 36 0 0) Q Z) ∧
  (¬ (S 36 24) ≠ 0 →
    q_r 78 20 [vR 36, vI 0, vI 0] [] (q_up S 36 0 1) Q Z)) : q_c 78 [vR 36] S Q Z := q_blk 17 h
-- LMModel.expected
theorem b_78_20 {Q : q_Q} {Z : q_Z} {a1 a2 : Int} {S : q_S} (h : (a2 ≥ 9 →
    Q a1 S) ∧
  (¬ a2 ≥ 9 →
    ((S 36 24) = 0 →
      Q a1 S) ∧
    (¬ (S 36 24) = 0 →
      q_rg ((S 36 28) - 1) ∧
      0 ≤ ((S 36 28) - 1) ∧ ((S 36 28) - 1) < 24 ∧
      q_c 57 [vR 36, vI (S 54 ((S 36 28) - 1)), vI a2] S (fun r2 S1 =>
        (r2 = 0 →
          q_rg (a2 + 1) ∧
          q_r 78 20 [vR 36, vI a1, vI (a2 + 1)] [] S1 Q Z) ∧
        (¬ r2 = 0 →
          q_rg (a2 + 1) ∧
          q_r 78 20 [vR 36, vI (q_or a1 (q_shl 1 a2)), vI (a2 + 1)] [] S1 Q Z)) Z))) : q_r 78 20 [vR 36, vI a1, vI a2] [] S Q Z := q_blk 34 h
-- LMModel.node
set_option maxRecDepth 20000 in
theorem b_79_0 {Q : q_Q} {Z : q_Z} {a1 a2 : Int} {S : q_S} (h : ((S 36 24) = 0 →
    ((1 : Int) = 0 →
      (a2 ≠ 0 →
        (a2 ≠ 1 →
          (a2 ≠ 2 →
            (a2 ≠ 3 →
              0 ≤ a1 ∧ a1 < 60 ∧
              Q (S 60 a1) (q_up S 36 0 1)) ∧
            (¬ a2 ≠ 3 →
              0 ≤ a1 ∧ a1 < 60 ∧
              Q (S 59 a1) (q_up S 36 0 1))) ∧
          (¬ a2 ≠ 2 →
            0 ≤ a1 ∧ a1 < 60 ∧
            Q (S 58 a1) (q_up S 36 0 1))) ∧
        (¬ a2 ≠ 1 →
          0 ≤ a1 ∧ a1 < 60 ∧
          Q (S 57 a1) (q_up S 36 0 1))) ∧
      (¬ a2 ≠ 0 →
        0 ≤ a1 ∧ a1 < 60 ∧
        Q (S 56 a1) (q_up S 36 0 1))) ∧
    (¬ (1 : Int) = 0 →
      Q 0 (q_up S 36 0 1))) ∧
  (¬ (S 36 24) = 0 →
    (a1 < 0 →
      ((1 : Int) = 0 →
        (a2 ≠ 0 →
          (a2 ≠ 1 →
            (a2 ≠ 2 →
              (a2 ≠ 3 →
                0 ≤ a1 ∧ a1 < 60 ∧
                Q (S 60 a1) (q_up S 36 0 1)) ∧
              (¬ a2 ≠ 3 →
                0 ≤ a1 ∧ a1 < 60 ∧
                Q (S 59 a1) (q_up S 36 0 1))) ∧
            (¬ a2 ≠ 2 →
              0 ≤ a1 ∧ a1 < 60 ∧
              Q (S 58 a1) (q_up S 36 0 1))) ∧
          (¬ a2 ≠ 1 →
            0 ≤ a1 ∧ a1 < 60 ∧
            Q (S 57 a1) (q_up S 36 0 1))) ∧
        (¬ a2 ≠ 0 →
          0 ≤ a1 ∧ a1 < 60 ∧
          Q (S 56 a1) (q_up S 36 0 1))) ∧
      (¬ (1 : Int) = 0 →
        Q 0 (q_up S 36 0 1))) ∧
    (¬ a1 < 0 →
      (a1 < (S 36 30) →
        (a2 < 0 →
          ((2 : Int) = 0 →
            (a2 ≠ 0 →
              (a2 ≠ 1 →
                (a2 ≠ 2 →
                  (a2 ≠ 3 →
                    0 ≤ a1 ∧ a1 < 60 ∧
                    Q (S 60 a1) (q_up S 36 0 2)) ∧
                  (¬ a2 ≠ 3 →
                    0 ≤ a1 ∧ a1 < 60 ∧
                    Q (S 59 a1) (q_up S 36 0 2))) ∧
                (¬ a2 ≠ 2 →
                  0 ≤ a1 ∧ a1 < 60 ∧
                  Q (S 58 a1) (q_up S 36 0 2))) ∧
              (¬ a2 ≠ 1 →
                0 ≤ a1 ∧ a1 < 60 ∧
                Q (S 57 a1) (q_up S 36 0 2))) ∧
            (¬ a2 ≠ 0 →
              0 ≤ a1 ∧ a1 < 60 ∧
              Q (S 56 a1) (q_up S 36 0 2))) ∧
          (¬ (2 : Int) = 0 →
            Q 0 (q_up S 36 0 2))) ∧
        (¬ a2 < 0 →
          (a2 ≤ 4 →
            ((0 : Int) = 0 →
              (a2 ≠ 0 →
                (a2 ≠ 1 →
                  (a2 ≠ 2 →
                    (a2 ≠ 3 →
                      0 ≤ a1 ∧ a1 < 60 ∧
                      Q (S 60 a1) (q_up S 36 0 0)) ∧
                    (¬ a2 ≠ 3 →
                      0 ≤ a1 ∧ a1 < 60 ∧
                      Q (S 59 a1) (q_up S 36 0 0))) ∧
                  (¬ a2 ≠ 2 →
                    0 ≤ a1 ∧ a1 < 60 ∧
                    Q (S 58 a1) (q_up S 36 0 0))) ∧
                (¬ a2 ≠ 1 →
                  0 ≤ a1 ∧ a1 < 60 ∧
                  Q (S 57 a1) (q_up S 36 0 0))) ∧
              (¬ a2 ≠ 0 →
                0 ≤ a1 ∧ a1 < 60 ∧
                Q (S 56 a1) (q_up S 36 0 0))) ∧
            (¬ (0 : Int) = 0 →
              Q 0 (q_up S 36 0 0))) ∧
          (¬ a2 ≤ 4 →
            ((2 : Int) = 0 →
              (a2 ≠ 0 →
                (a2 ≠ 1 →
                  (a2 ≠ 2 →
                    (a2 ≠ 3 →
                      0 ≤ a1 ∧ a1 < 60 ∧
                      Q (S 60 a1) (q_up S 36 0 2)) ∧
                    (¬ a2 ≠ 3 →
                      0 ≤ a1 ∧ a1 < 60 ∧
                      Q (S 59 a1) (q_up S 36 0 2))) ∧
                  (¬ a2 ≠ 2 →
                    0 ≤ a1 ∧ a1 < 60 ∧
                    Q (S 58 a1) (q_up S 36 0 2))) ∧
                (¬ a2 ≠ 1 →
                  0 ≤ a1 ∧ a1 < 60 ∧
                  Q (S 57 a1) (q_up S 36 0 2))) ∧
              (¬ a2 ≠ 0 →
                0 ≤ a1 ∧ a1 < 60 ∧
                Q (S 56 a1) (q_up S 36 0 2))) ∧
            (¬ (2 : Int) = 0 →
              Q 0 (q_up S 36 0 2))))) ∧
      (¬ a1 < (S 36 30) →
        ((1 : Int) = 0 →
          (a2 ≠ 0 →
            (a2 ≠ 1 →
              (a2 ≠ 2 →
                (a2 ≠ 3 →
                  0 ≤ a1 ∧ a1 < 60 ∧
                  Q (S 60 a1) (q_up S 36 0 1)) ∧
                (¬ a2 ≠ 3 →
                  0 ≤ a1 ∧ a1 < 60 ∧
                  Q (S 59 a1) (q_up S 36 0 1))) ∧
              (¬ a2 ≠ 2 →
                0 ≤ a1 ∧ a1 < 60 ∧
                Q (S 58 a1) (q_up S 36 0 1))) ∧
            (¬ a2 ≠ 1 →
              0 ≤ a1 ∧ a1 < 60 ∧
              Q (S 57 a1) (q_up S 36 0 1))) ∧
          (¬ a2 ≠ 0 →
            0 ≤ a1 ∧ a1 < 60 ∧
            Q (S 56 a1) (q_up S 36 0 1))) ∧
        (¬ (1 : Int) = 0 →
          Q 0 (q_up S 36 0 1)))))) : q_c 79 [vR 36, vI a1, vI a2] S Q Z := q_blk 302 h
-- LMModel.child
set_option maxRecDepth 20000 in
theorem b_80_0 {Q : q_Q} {Z : q_Z} {a1 a2 : Int} {S : q_S} (h : ((S 36 24) = 0 →
    ((1 : Int) = 0 →
      q_rg (4 * a1) ∧
      q_rg ((4 * a1) + a2) ∧
      0 ≤ ((4 * a1) + a2) ∧ ((4 * a1) + a2) < 240 ∧
      Q (S 61 ((4 * a1) + a2)) (q_up S 36 0 1)) ∧
    (¬ (1 : Int) = 0 →
      Q 0 (q_up S 36 0 1))) ∧
  (¬ (S 36 24) = 0 →
    (a1 < 0 →
      ((1 : Int) = 0 →
        q_rg (4 * a1) ∧
        q_rg ((4 * a1) + a2) ∧
        0 ≤ ((4 * a1) + a2) ∧ ((4 * a1) + a2) < 240 ∧
        Q (S 61 ((4 * a1) + a2)) (q_up S 36 0 1)) ∧
      (¬ (1 : Int) = 0 →
        Q 0 (q_up S 36 0 1))) ∧
    (¬ a1 < 0 →
      (a1 ≥ (S 36 30) →
        ((1 : Int) = 0 →
          q_rg (4 * a1) ∧
          q_rg ((4 * a1) + a2) ∧
          0 ≤ ((4 * a1) + a2) ∧ ((4 * a1) + a2) < 240 ∧
          Q (S 61 ((4 * a1) + a2)) (q_up S 36 0 1)) ∧
        (¬ (1 : Int) = 0 →
          Q 0 (q_up S 36 0 1))) ∧
      (¬ a1 ≥ (S 36 30) →
        (a2 < 0 →
          ((1 : Int) = 0 →
            q_rg (4 * a1) ∧
            q_rg ((4 * a1) + a2) ∧
            0 ≤ ((4 * a1) + a2) ∧ ((4 * a1) + a2) < 240 ∧
            Q (S 61 ((4 * a1) + a2)) (q_up S 36 0 1)) ∧
          (¬ (1 : Int) = 0 →
            Q 0 (q_up S 36 0 1))) ∧
        (¬ a2 < 0 →
          0 ≤ a1 ∧ a1 < 60 ∧
          (a2 < (S 58 a1) →
            ((0 : Int) = 0 →
              q_rg (4 * a1) ∧
              q_rg ((4 * a1) + a2) ∧
              0 ≤ ((4 * a1) + a2) ∧ ((4 * a1) + a2) < 240 ∧
              Q (S 61 ((4 * a1) + a2)) (q_up S 36 0 0)) ∧
            (¬ (0 : Int) = 0 →
              Q 0 (q_up S 36 0 0))) ∧
          (¬ a2 < (S 58 a1) →
            ((1 : Int) = 0 →
              q_rg (4 * a1) ∧
              q_rg ((4 * a1) + a2) ∧
              0 ≤ ((4 * a1) + a2) ∧ ((4 * a1) + a2) < 240 ∧
              Q (S 61 ((4 * a1) + a2)) (q_up S 36 0 1)) ∧
            (¬ (1 : Int) = 0 →
              Q 0 (q_up S 36 0 1)))))))) : q_c 80 [vR 36, vI a1, vI a2] S Q Z := q_blk 125 h
-- LM$Aheads.find
theorem b_81_0 {Q : q_Q} {Z : q_Z} {S : q_S} (h : q_c 85 [vR 21, vI 0, vI 0, vI 0, vI 256] (q_up (q_fil S 22 0) 21 4 (q_wsub (q_wshl 1 (S 16 0)) 1)) (fun _ S3 =>
    q_r 81 35 [vR 21, vI 0, vU] [] S3 Q Z) Z) : q_c 81 [vR 21] S Q Z := q_blk 21 h
-- LM$Aheads.find
theorem b_81_35 {Q : q_Q} {Z : q_Z} {a1 : Int} {j2 : q_J} {S : q_S} (h : ((q_wcmp (S 21 4) 0) = 0 →
    Q 0 S) ∧
  (¬ (q_wcmp (S 21 4) 0) = 0 →
    (a1 ≥ 1000000 →
      Q 0 S) ∧
    (¬ a1 ≥ 1000000 →
      q_r 81 52 [vR 21, vI a1, vI 0] [] S Q Z))) : q_r 81 35 [vR 21, vI a1, vJ j2] [] S Q Z := q_blk 12 h
-- LM$Aheads.find
theorem b_81_52 {Q : q_Q} {Z : q_Z} {a1 a2 : Int} {S : q_S} (h : (a2 ≥ (S 16 0) →
    q_rg (a1 + 1) ∧
    q_r 81 35 [vR 21, vI (a1 + 1), vI a2] [] S Q Z) ∧
  (¬ a2 ≥ (S 16 0) →
    ((q_wcmp (q_wand (q_wshr (S 21 4) a2) 1) 0) = 0 →
      q_rg (a2 + 1) ∧
      q_r 81 52 [vR 21, vI a1, vI (a2 + 1)] [] S Q Z) ∧
    (¬ (q_wcmp (q_wand (q_wshr (S 21 4) a2) 1) 0) = 0 →
      q_c 83 [vR 21, vI a2] (q_up S 21 4 (q_wand (S 21 4) (q_wxor (q_wshl 1 a2) (-1)))) (fun _ S1 =>
        q_rg (a2 + 1) ∧
        q_r 81 52 [vR 21, vI a1, vI (a2 + 1)] [] S1 Q Z) Z))) : q_r 81 52 [vR 21, vI a1, vI a2] [] S Q Z := q_blk 33 h
-- LM$Aheads.aheadOf
theorem b_82_0 {Q : q_Q} {Z : q_Z} {a1 a2 a3 : Int} {S : q_S} (h : q_rg (a1 * 80) ∧
  q_rg (a2 * 5) ∧
  q_rg ((a1 * 80) + (a2 * 5)) ∧
  q_rg (((a1 * 80) + (a2 * 5)) + a3) ∧
  0 ≤ (((a1 * 80) + (a2 * 5)) + a3) ∧ (((a1 * 80) + (a2 * 5)) + a3) < 3200 ∧
  Q (S 22 (((a1 * 80) + (a2 * 5)) + a3)) S) : q_c 82 [vR 21, vI a1, vI a2, vI a3] S Q Z := q_blk 13 h
-- LM$Aheads.handOn
theorem b_83_0 {Q : q_Q} {Z : q_Z} {a1 : Int} {S : q_S} (h : q_r 83 2 [vR 21, vI a1, vI 0, vU] [] S Q Z) : q_c 83 [vR 21, vI a1] S Q Z := q_blk 2 h
-- LM$Aheads.handOn
theorem b_83_2 {Q : q_Q} {Z : q_Z} {a1 a2 : Int} {j3 : q_J} {S : q_S} (h : (a2 > (S 3 4) →
    Q 0 S) ∧
  (¬ a2 > (S 3 4) →
    q_r 83 15 [vR 21, vI a1, vI a2, vI 0] [] S Q Z)) : q_r 83 2 [vR 21, vI a1, vI a2, vJ j3] [] S Q Z := q_blk 8 h
-- LM$Aheads.handOn
theorem b_83_15 {Q : q_Q} {Z : q_Z} {a1 a2 a3 : Int} {S : q_S} (h : 0 ≤ a2 ∧ a2 < 16 ∧
  (a3 ≥ (S 5 a2) →
    q_rg (a2 + 1) ∧
    q_r 83 2 [vR 21, vI a1, vI (a2 + 1), vI a3] [] S Q Z) ∧
  (¬ a3 ≥ (S 5 a2) →
    q_c 140 [vR 16, vI a1, vI a2, vI a3] S (fun r2 S1 =>
      (r2 = 0 →
        q_rg (a3 + 1) ∧
        q_r 83 15 [vR 21, vI a1, vI a2, vI (a3 + 1)] [] S1 Q Z) ∧
      (¬ r2 = 0 →
        q_c 84 [vR 21, vI a1, vI a2, vI a3] S1 (fun _ S3 =>
          q_rg (a3 + 1) ∧
          q_r 83 15 [vR 21, vI a1, vI a2, vI (a3 + 1)] [] S3 Q Z) Z)) Z)) : q_r 83 15 [vR 21, vI a1, vI a2, vI a3] [] S Q Z := q_blk 25 h
-- LM$Aheads.handOnItem
set_option maxRecDepth 20000 in
theorem b_84_0 {Q : q_Q} {Z : q_Z} {a1 a2 a3 : Int} {S : q_S} (h : q_c 82 [vR 21, vI a1, vI a2, vI a3] S (fun r2 S1 =>
    q_c 105 [vR 3, vI a2, vI a3] S1 (fun r4 S3 =>
      q_c 142 [vR 16, vI a1, vI r4] S3 (fun r6 S5 =>
        (r6 = (-1) →
          (r4 ≥ 8 →
            Q 0 S5) ∧
          (¬ r4 ≥ 8 →
            q_rg (a3 + 1) ∧
            q_c 134 [vR 12, vI a2, vI (a3 + 1), vI r2] S5 (fun r8 S7 =>
              0 ≤ r4 ∧ r4 < 8 ∧
              q_r 84 84 [vR 21, vI a1, vI a2, vI a3, vI r2, vI r4, vI r6, vI r8, vI (S7 6 r4)] [] S7 Q Z) Z)) ∧
        (¬ r6 = (-1) →
          q_rg (a3 + 1) ∧
          q_c 85 [vR 21, vI r6, vI a2, vI (a3 + 1), vI r2] S5 (fun _ S9 =>
            (r4 ≥ 8 →
              Q 0 S9) ∧
            (¬ r4 ≥ 8 →
              q_rg (a3 + 1) ∧
              q_c 134 [vR 12, vI a2, vI (a3 + 1), vI r2] S9 (fun r12 S11 =>
                0 ≤ r4 ∧ r4 < 8 ∧
                q_r 84 84 [vR 21, vI a1, vI a2, vI a3, vI r2, vI r4, vI r6, vI r12, vI (S11 6 r4)] [] S11 Q Z) Z)) Z)) Z) Z) Z) : q_c 84 [vR 21, vI a1, vI a2, vI a3] S Q Z := q_blk 67 h
-- LM$Aheads.handOnItem
theorem b_84_84 {Q : q_Q} {Z : q_Z} {a1 a5 a7 a8 : Int} {j2 j3 j4 j6 : q_J} {S : q_S} (h : 0 ≤ a5 ∧ a5 < 8 ∧
  (a8 > (S 7 a5) →
    Q 0 S) ∧
  (¬ a8 > (S 7 a5) →
    q_c 85 [vR 21, vI a1, vI a8, vI 0, vI a7] S (fun _ S1 =>
      q_rg (a8 + 1) ∧
      q_r 84 84 [vR 21, vI a1, vJ j2, vJ j3, vJ j4, vI a5, vJ j6, vI a7, vI (a8 + 1)] [] S1 Q Z) Z)) : q_r 84 84 [vR 21, vI a1, vJ j2, vJ j3, vJ j4, vI a5, vJ j6, vI a7, vI a8] [] S Q Z := q_blk 16 h
-- LM$Aheads.add
theorem b_85_0 {Q : q_Q} {Z : q_Z} {a1 a2 a3 a4 : Int} {S : q_S} (h : q_rg (a1 * 80) ∧
  q_rg (a2 * 5) ∧
  q_rg ((a1 * 80) + (a2 * 5)) ∧
  q_rg (((a1 * 80) + (a2 * 5)) + a3) ∧
  0 ≤ (((a1 * 80) + (a2 * 5)) + a3) ∧ (((a1 * 80) + (a2 * 5)) + a3) < 3200 ∧
  ((q_and a4 (q_xor (S 22 (((a1 * 80) + (a2 * 5)) + a3)) (-1))) = 0 →
    Q 0 S) ∧
  (¬ (q_and a4 (q_xor (S 22 (((a1 * 80) + (a2 * 5)) + a3)) (-1))) = 0 →
    0 ≤ (((a1 * 80) + (a2 * 5)) + a3) ∧ (((a1 * 80) + (a2 * 5)) + a3) < 3200 ∧
    0 ≤ (((a1 * 80) + (a2 * 5)) + a3) ∧ (((a1 * 80) + (a2 * 5)) + a3) < 3200 ∧
    Q 0 (q_up (q_up S 22 (((a1 * 80) + (a2 * 5)) + a3) (q_or (S 22 (((a1 * 80) + (a2 * 5)) + a3)) a4)) 21 4 (q_wor (S 21 4) (q_wshl 1 a1))))) : q_c 85 [vR 21, vI a1, vI a2, vI a3, vI a4] S Q Z := q_blk 37 h
-- LM$Bindings.areBound
theorem b_86_0 {Q : q_Q} {Z : q_Z} {a1 a2 : Int} {S : q_S} (h : 0 ≤ a1 ∧ a1 < 9 ∧
  ((S 24 a1) ≤ 0 →
    q_bo 0 ∧ Q 0 S) ∧
  (¬ (S 24 a1) ≤ 0 →
    q_c 88 [vR 23, vI a2] S (fun r2 S1 =>
      (r2 ≤ 0 →
        q_bo 0 ∧ Q 0 S1) ∧
      (¬ r2 ≤ 0 →
        q_bo 1 ∧ Q 1 S1)) Z)) : q_c 86 [vR 23, vI a1, vI a2] S Q Z := q_blk 16 h
-- LM$Bindings.sideFor
theorem b_87_0 {Q : q_Q} {Z : q_Z} {a1 a2 : Int} {S : q_S} (h : q_c 88 [vR 23, vI a2] S (fun r2 S1 =>
    q_c 86 [vR 23, vI a1, vI a2] S1 (fun r4 S3 =>
      (r4 = 0 →
        Q 1 S3) ∧
      (¬ r4 = 0 →
        0 ≤ a1 ∧ a1 < 9 ∧
        (r2 ≥ (S3 24 a1) →
          0 ≤ a1 ∧ a1 < 9 ∧
          (r2 ≤ (S3 24 a1) →
            0 ≤ a1 ∧ a1 < 9 ∧
            Q (S3 25 a1) S3) ∧
          (¬ r2 ≤ (S3 24 a1) →
            Q 0 S3)) ∧
        (¬ r2 ≥ (S3 24 a1) →
          Q 1 S3))) Z) Z) : q_c 87 [vR 23, vI a1, vI a2] S Q Z := q_blk 33 h
-- LM$Bindings.levelOf
theorem b_88_0 {Q : q_Q} {Z : q_Z} {a1 : Int} {S : q_S} (h : 0 ≤ a1 ∧ a1 < 16 ∧
  q_rg ((S 5 a1) - 1) ∧
  q_r 88 12 [vR 23, vI a1, vI ((S 5 a1) - 1), vU] [] S Q Z) : q_c 88 [vR 23, vI a1] S Q Z := q_blk 8 h
-- LM$Bindings.levelOf
theorem b_88_12 {Q : q_Q} {Z : q_Z} {a1 a2 : Int} {j3 : q_J} {S : q_S} (h : (a2 < 0 →
    Q 0 S) ∧
  (¬ a2 < 0 →
    q_c 105 [vR 3, vI a1, vI a2] S (fun r2 S1 =>
      (r2 < 8 →
        q_rg (a2 + (-1)) ∧
        q_r 88 12 [vR 23, vI a1, vI (a2 + (-1)), vI r2] [] S1 Q Z) ∧
      (¬ r2 < 8 →
        q_rg (r2 - 8) ∧
        0 ≤ (r2 - 8) ∧ (r2 - 8) < 9 ∧
        Q (S1 24 (r2 - 8)) S1)) Z)) : q_r 88 12 [vR 23, vI a1, vI a2, vJ j3] [] S Q Z := q_blk 22 h
-- LM$Cells.behindDone
theorem b_89_0 {Q : q_Q} {Z : q_Z} {a1 a2 a3 : Int} {S : q_S} (h : q_c 141 [vR 16, vI a1, vI a2] S (fun r2 S1 =>
    (r2 ≠ 0 →
      (a2 ≠ 0 →
        (a3 = 0 →
          Q 511 S1) ∧
        (¬ a3 = 0 →
          (a3 = 1 →
          0 ≤ a2 ∧ a2 < 16 ∧
          0 ≤ (S1 4 a2) ∧ (S1 4 a2) < 8 ∧
          Q (S1 14 (S1 4 a2)) S1) ∧
        (¬ a3 = 1 →
          0 ≤ a2 ∧ a2 < 16 ∧
          q_c 82 [vR 21, vI a1, vI a2, vI (S1 5 a2)] S1 (fun r4 S3 =>
            Q r4 S3) Z))) ∧
      (¬ a2 ≠ 0 →
        Q 256 S1)) ∧
    (¬ r2 ≠ 0 →
      Q 0 S1)) Z) : q_c 89 [vR 26, vI a1, vI a2, vI a3] S Q Z := q_blk 37 h
-- LM$Cells.kind
theorem b_90_0 {Q : q_Q} {Z : q_Z} {S : q_S} (h : q_r 90 2 [vR 26, vI 0] [] S Q Z) : q_c 90 [vR 26] S Q Z := q_blk 2 h
-- LM$Cells.kind
theorem b_90_2 {Q : q_Q} {Z : q_Z} {a1 : Int} {S : q_S} (h : (a1 ≥ 3 →
    Q 3 S) ∧
  (¬ a1 ≥ 3 →
    q_c 97 [vR 26, vI a1] S (fun r2 S1 =>
      (r2 = 0 →
        q_rg (a1 + 1) ∧
        q_r 90 2 [vR 26, vI (a1 + 1)] [] S1 Q Z) ∧
      (¬ r2 = 0 →
        Q a1 S1)) Z)) : q_r 90 2 [vR 26, vI a1] [] S Q Z := q_blk 13 h
-- LM$Cells.actionOf
set_option maxRecDepth 20000 in
theorem b_91_0 {Q : q_Q} {Z : q_Z} {a1 a2 : Int} {S : q_S} (h : q_c 100 [vR 26, vI a1, vI a2] S (fun r2 S1 =>
    q_c 96 [vR 26, vI a1, vI a2, vI 0] S1 (fun r4 S3 =>
      (r4 ≠ (-1) →
        (r4 ≠ 0 →
          (r2 ≠ (-1) →
            q_c 87 [vR 23, vI a2, vI r4] S3 (fun r6 S5 =>
              (r6 = 0 →
                Q r4 S5) ∧
              (¬ r6 = 0 →
                (r6 = 1 →
                q_rg (20 + r2) ∧
                Q (20 + r2) S5) ∧
              (¬ r6 = 1 →
                Q 0 S5))) Z) ∧
          (¬ r2 ≠ (-1) →
            Q r4 S3)) ∧
        (¬ r4 ≠ 0 →
          (r2 ≠ (-1) →
            q_c 87 [vR 23, vI a2, vI r4] S3 (fun r8 S7 =>
              (r8 = 0 →
                Q 16 S7) ∧
              (¬ r8 = 0 →
                (r8 = 1 →
                q_rg (20 + r2) ∧
                Q (20 + r2) S7) ∧
              (¬ r8 = 1 →
                Q 0 S7))) Z) ∧
          (¬ r2 ≠ (-1) →
            Q 16 S3))) ∧
      (¬ r4 ≠ (-1) →
        (r2 ≠ (-1) →
          q_rg (20 + r2) ∧
          Q (20 + r2) S3) ∧
        (¬ r2 ≠ (-1) →
          Q 0 S3))) Z) Z) : q_c 91 [vR 26, vI a1, vI a2] S Q Z := q_blk 69 h
-- LM$Cells.tokensWithAction
theorem b_92_0 {Q : q_Q} {Z : q_Z} {a1 : Int} {S : q_S} (h : q_r 92 4 [vR 26, vI a1, vI 0, vI 0] [] S Q Z) : q_c 92 [vR 26, vI a1] S Q Z := q_blk 4 h
-- LM$Cells.tokensWithAction
theorem b_92_4 {Q : q_Q} {Z : q_Z} {a1 a2 a3 : Int} {S : q_S} (h : (a3 ≥ 9 →
    Q a2 S) ∧
  (¬ a3 ≥ 9 →
    q_c 91 [vR 26, vI a1, vI a3] S (fun r2 S1 =>
      (r2 = 0 →
        q_rg (a3 + 1) ∧
        q_r 92 4 [vR 26, vI a1, vI a2, vI (a3 + 1)] [] S1 Q Z) ∧
      (¬ r2 = 0 →
        q_rg (a3 + 1) ∧
        q_r 92 4 [vR 26, vI a1, vI (q_or a2 (q_shl 1 a3)), vI (a3 + 1)] [] S1 Q Z)) Z)) : q_r 92 4 [vR 26, vI a1, vI a2, vI a3] [] S Q Z := q_blk 20 h
-- LM$Cells.countUnsettled
theorem b_93_0 {Q : q_Q} {Z : q_Z} {S : q_S} (h : q_r 93 4 [vR 26, vI 0, vI 0, vU] [] S Q Z) : q_c 93 [vR 26] S Q Z := q_blk 4 h
-- LM$Cells.countUnsettled
theorem b_93_4 {Q : q_Q} {Z : q_Z} {a1 a2 : Int} {j3 : q_J} {S : q_S} (h : (a2 ≥ (S 16 0) →
    Q a1 S) ∧
  (¬ a2 ≥ (S 16 0) →
    q_r 93 17 [vR 26, vI a1, vI a2, vI 0] [] S Q Z)) : q_r 93 4 [vR 26, vI a1, vI a2, vJ j3] [] S Q Z := q_blk 9 h
-- LM$Cells.countUnsettled
theorem b_93_17 {Q : q_Q} {Z : q_Z} {a1 a2 a3 : Int} {S : q_S} (h : (a3 ≥ 9 →
    q_rg (a2 + 1) ∧
    q_r 93 4 [vR 26, vI a1, vI (a2 + 1), vI a3] [] S Q Z) ∧
  (¬ a3 ≥ 9 →
    q_c 95 [vR 26, vI a2, vI a3] S (fun r2 S1 =>
      (r2 = 0 →
        q_rg (a3 + 1) ∧
        q_r 93 17 [vR 26, vI a1, vI a2, vI (a3 + 1)] [] S1 Q Z) ∧
      (¬ r2 = 0 →
        q_rg (a1 + 1) ∧
        q_rg (a3 + 1) ∧
        q_r 93 17 [vR 26, vI (a1 + 1), vI a2, vI (a3 + 1)] [] S1 Q Z)) Z)) : q_r 93 17 [vR 26, vI a1, vI a2, vI a3] [] S Q Z := q_blk 15 h
-- LM$Cells.unsettledAt
theorem b_94_0 {Q : q_Q} {Z : q_Z} {a1 : Int} {S : q_S} (h : q_r 94 4 [vR 26, vI a1, vI 0, vI 0, vU] [] S Q Z) : q_c 94 [vR 26, vI a1] S Q Z := q_blk 4 h
-- LM$Cells.unsettledAt
theorem b_94_4 {Q : q_Q} {Z : q_Z} {a1 a2 a3 : Int} {j4 : q_J} {S : q_S} (h : (a3 ≥ (S 16 0) →
    Q (-1) S) ∧
  (¬ a3 ≥ (S 16 0) →
    q_r 94 18 [vR 26, vI a1, vI a2, vI a3, vI 0] [] S Q Z)) : q_r 94 4 [vR 26, vI a1, vI a2, vI a3, vJ j4] [] S Q Z := q_blk 9 h
-- LM$Cells.unsettledAt
theorem b_94_18 {Q : q_Q} {Z : q_Z} {a1 a2 a3 a4 : Int} {S : q_S} (h : (a4 ≥ 9 →
    q_rg (a3 + 1) ∧
    q_r 94 4 [vR 26, vI a1, vI a2, vI (a3 + 1), vI a4] [] S Q Z) ∧
  (¬ a4 ≥ 9 →
    q_c 95 [vR 26, vI a3, vI a4] S (fun r2 S1 =>
      (r2 = 0 →
        q_rg (a4 + 1) ∧
        q_r 94 18 [vR 26, vI a1, vI a2, vI a3, vI (a4 + 1)] [] S1 Q Z) ∧
      (¬ r2 = 0 →
        (a2 ≠ a1 →
          q_rg (a2 + 1) ∧
          q_rg (a4 + 1) ∧
          q_r 94 18 [vR 26, vI a1, vI (a2 + 1), vI a3, vI (a4 + 1)] [] S1 Q Z) ∧
        (¬ a2 ≠ a1 →
          q_rg (16 * a3) ∧
          q_rg ((16 * a3) + a4) ∧
          Q ((16 * a3) + a4) S1))) Z)) : q_r 94 18 [vR 26, vI a1, vI a2, vI a3, vI a4] [] S Q Z := q_blk 24 h
-- LM$Cells.isUnsettled
set_option maxRecDepth 20000 in
theorem b_95_0 {Q : q_Q} {Z : q_Z} {a1 a2 : Int} {S : q_S} (h : q_c 96 [vR 26, vI a1, vI a2, vI 0] S (fun r2 S1 =>
    (r2 ≠ (-1) →
      q_rg (r2 + 1) ∧
      q_c 96 [vR 26, vI a1, vI a2, vI (r2 + 1)] S1 (fun r4 S3 =>
        (r4 = (-1) →
          q_c 100 [vR 26, vI a1, vI a2] S3 (fun r6 S5 =>
            (r6 = (-1) →
              q_bo 0 ∧ Q 0 S5) ∧
            (¬ r6 = (-1) →
              q_c 86 [vR 23, vI a2, vI r2] S5 (fun r8 S7 =>
                (r8 ≠ 0 →
                  q_bo 0 ∧ Q 0 S7) ∧
                (¬ r8 ≠ 0 →
                  q_bo 1 ∧ Q 1 S7)) Z)) Z) ∧
        (¬ r4 = (-1) →
          q_bo 1 ∧ Q 1 S3)) Z) ∧
    (¬ r2 ≠ (-1) →
      q_bo 0 ∧ Q 0 S1)) Z) : q_c 95 [vR 26, vI a1, vI a2] S Q Z := q_blk 41 h
-- LM$Cells.nextReduction
theorem b_96_0 {Q : q_Q} {Z : q_Z} {a1 a2 a3 : Int} {S : q_S} (h : q_r 96 3 [vR 26, vI a1, vI a2, vI a3, vI a3] [] S Q Z) : q_c 96 [vR 26, vI a1, vI a2, vI a3] S Q Z := q_blk 2 h
-- LM$Cells.nextReduction
theorem b_96_3 {Q : q_Q} {Z : q_Z} {a1 a2 a4 : Int} {j3 : q_J} {S : q_S} (h : (a4 > (S 3 4) →
    Q (-1) S) ∧
  (¬ a4 > (S 3 4) →
    q_c 89 [vR 26, vI a1, vI a4, vI 2] S (fun r2 S1 =>
      ((q_and (q_shr r2 a2) 1) = 0 →
        q_rg (a4 + 1) ∧
        q_r 96 3 [vR 26, vI a1, vI a2, vJ j3, vI (a4 + 1)] [] S1 Q Z) ∧
      (¬ (q_and (q_shr r2 a2) 1) = 0 →
        Q a4 S1)) Z)) : q_r 96 3 [vR 26, vI a1, vI a2, vJ j3, vI a4] [] S Q Z := q_blk 21 h
-- LM$Cells.isDecidedBy
theorem b_97_0 {Q : q_Q} {Z : q_Z} {a1 : Int} {S : q_S} (h : q_r 97 2 [vR 26, vI a1, vI 0] [] S Q Z) : q_c 97 [vR 26, vI a1] S Q Z := q_blk 2 h
-- LM$Cells.isDecidedBy
theorem b_97_2 {Q : q_Q} {Z : q_Z} {a1 a2 : Int} {S : q_S} (h : (a2 ≥ (S 16 0) →
    q_bo 1 ∧ Q 1 S) ∧
  (¬ a2 ≥ (S 16 0) →
    q_c 98 [vR 26, vI a2, vI a1] S (fun r2 S1 =>
      (r2 = 0 →
        q_rg (a2 + 1) ∧
        q_r 97 2 [vR 26, vI a1, vI (a2 + 1)] [] S1 Q Z) ∧
      (¬ r2 = 0 →
        q_bo 0 ∧ Q 0 S1)) Z)) : q_r 97 2 [vR 26, vI a1, vI a2] [] S Q Z := q_blk 16 h
-- LM$Cells.isTorn
theorem b_98_0 {Q : q_Q} {Z : q_Z} {a1 a2 : Int} {S : q_S} (h : q_c 99 [vR 26, vI a1] S (fun r2 S1 =>
    q_r 98 9 [vR 26, vI a1, vI a2, vI r2, vI 0, vU] [] S1 Q Z) Z) : q_c 98 [vR 26, vI a1, vI a2] S Q Z := q_blk 6 h
-- LM$Cells.isTorn
theorem b_98_9 {Q : q_Q} {Z : q_Z} {a1 a2 a3 a4 : Int} {j5 : q_J} {S : q_S} (h : (a4 > (S 3 4) →
    q_bo 0 ∧ Q 0 S) ∧
  (¬ a4 > (S 3 4) →
    q_c 89 [vR 26, vI a1, vI a4, vI a2] S (fun r2 S1 =>
      ((q_and a3 r2) = 0 →
        q_rg (a4 + 1) ∧
        q_r 98 9 [vR 26, vI a1, vI a2, vI (q_or a3 r2), vI (a4 + 1), vI r2] [] S1 Q Z) ∧
      (¬ (q_and a3 r2) = 0 →
        q_bo 1 ∧ Q 1 S1)) Z)) : q_r 98 9 [vR 26, vI a1, vI a2, vI a3, vI a4, vJ j5] [] S Q Z := q_blk 25 h
-- LM$Cells.shiftTokens
theorem b_99_0 {Q : q_Q} {Z : q_Z} {a1 : Int} {S : q_S} (h : q_r 99 4 [vR 26, vI a1, vI 0, vI 0] [] S Q Z) : q_c 99 [vR 26, vI a1] S Q Z := q_blk 4 h
-- LM$Cells.shiftTokens
theorem b_99_4 {Q : q_Q} {Z : q_Z} {a1 a2 a3 : Int} {S : q_S} (h : (a3 ≥ 8 →
    Q a2 S) ∧
  (¬ a3 ≥ 8 →
    q_c 100 [vR 26, vI a1, vI a3] S (fun r2 S1 =>
      (r2 = (-1) →
        q_rg (a3 + 1) ∧
        q_r 99 4 [vR 26, vI a1, vI a2, vI (a3 + 1)] [] S1 Q Z) ∧
      (¬ r2 = (-1) →
        q_rg (a3 + 1) ∧
        q_r 99 4 [vR 26, vI a1, vI (q_or a2 (q_shl 1 a3)), vI (a3 + 1)] [] S1 Q Z)) Z)) : q_r 99 4 [vR 26, vI a1, vI a2, vI a3] [] S Q Z := q_blk 21 h
-- LM$Cells.shiftGoal
theorem b_100_0 {Q : q_Q} {Z : q_Z} {a1 a2 : Int} {S : q_S} (h : (a2 ≠ 8 →
    q_rg (8 + a2) ∧
    q_c 142 [vR 16, vI a1, vI (8 + a2)] S (fun r2 S1 =>
      Q r2 S1) Z) ∧
  (¬ a2 ≠ 8 →
    Q (-1) S)) : q_c 100 [vR 26, vI a1, vI a2] S Q Z := q_blk 14 h
-- LM$Grammar.clear
theorem b_101_0 {Q : q_Q} {Z : q_Z} {S : q_S} (h : (0 : Int) ≤ 0 ∧ (0 : Int) < 16 ∧
  Q 0 (q_fil (q_up (q_up S 3 4 0) 5 0 0) 6 0)) : q_c 101 [vR 3] S Q Z := q_blk 13 h
-- LM$Grammar.isFull
theorem b_102_0 {Q : q_Q} {Z : q_Z} {S : q_S} (h : q_rg ((S 3 4) + 1) ∧
  (((S 3 4) + 1) ≠ 16 →
    q_bo 0 ∧ Q 0 S) ∧
  (¬ ((S 3 4) + 1) ≠ 16 →
    q_bo 1 ∧ Q 1 S)) : q_c 102 [vR 3] S Q Z := q_blk 11 h
-- LM$Grammar.beginProduction
set_option maxRecDepth 20000 in
theorem b_103_0 {Q : q_Q} {Z : q_Z} {a1 : Int} {S : q_S} (h : q_rg ((S 3 4) + 1) ∧
  0 ≤ ((S 3 4) + 1) ∧ ((S 3 4) + 1) < 16 ∧
  0 ≤ ((S 3 4) + 1) ∧ ((S 3 4) + 1) < 16 ∧
  0 ≤ a1 ∧ a1 < 8 ∧
  ((S 6 a1) ≠ 0 →
    0 ≤ a1 ∧ a1 < 8 ∧
    Q 0 (q_up (q_up (q_up (q_up S 3 4 ((S 3 4) + 1)) 4 ((S 3 4) + 1) a1) 5 ((S 3 4) + 1) 0) 7 a1 ((S 3 4) + 1))) ∧
  (¬ (S 6 a1) ≠ 0 →
    0 ≤ a1 ∧ a1 < 8 ∧
    0 ≤ a1 ∧ a1 < 8 ∧
    Q 0 (q_up (q_up (q_up (q_up (q_up S 3 4 ((S 3 4) + 1)) 4 ((S 3 4) + 1) a1) 5 ((S 3 4) + 1) 0) 6 a1 ((S 3 4) + 1)) 7 a1 ((S 3 4) + 1)))) : q_c 103 [vR 3, vI a1] S Q Z := q_blk 43 h
-- LM$Grammar.addLetter
theorem b_104_0 {Q : q_Q} {Z : q_Z} {a1 a2 : Int} {S : q_S} (h : q_rg (a1 * 4) ∧
  0 ≤ a1 ∧ a1 < 16 ∧
  q_rg ((a1 * 4) + (S 5 a1)) ∧
  0 ≤ ((a1 * 4) + (S 5 a1)) ∧ ((a1 * 4) + (S 5 a1)) < 64 ∧
  0 ≤ a1 ∧ a1 < 16 ∧
  q_rg ((S 5 a1) + 1) ∧
  0 ≤ a1 ∧ a1 < 16 ∧
  Q 0 (q_up (q_up S 8 ((a1 * 4) + (S 5 a1)) a2) 5 a1 ((S 5 a1) + 1))) : q_c 104 [vR 3, vI a1, vI a2] S Q Z := q_blk 21 h
-- LM$Grammar.letter
theorem b_105_0 {Q : q_Q} {Z : q_Z} {a1 a2 : Int} {S : q_S} (h : q_rg (a1 * 4) ∧
  q_rg ((a1 * 4) + a2) ∧
  0 ≤ ((a1 * 4) + a2) ∧ ((a1 * 4) + a2) < 64 ∧
  Q (S 8 ((a1 * 4) + a2)) S) : q_c 105 [vR 3, vI a1, vI a2] S Q Z := q_blk 9 h
-- LM$Grammar.hasRule
theorem b_106_0 {Q : q_Q} {Z : q_Z} {a1 : Int} {S : q_S} (h : 0 ≤ a1 ∧ a1 < 8 ∧
  ((S 6 a1) = 0 →
    q_bo 0 ∧ Q 0 S) ∧
  (¬ (S 6 a1) = 0 →
    q_bo 1 ∧ Q 1 S)) : q_c 106 [vR 3, vI a1] S Q Z := q_blk 10 h
-- LM$Grammar.start
theorem b_107_0 {Q : q_Q} {Z : q_Z} {S : q_S} (h : (0 : Int) ≤ 1 ∧ (1 : Int) < 16 ∧
  Q (S 4 1) S) : q_c 107 [vR 3] S Q Z := q_blk 5 h
-- LM$Grammar.grownFrom
theorem b_108_0 {Q : q_Q} {Z : q_Z} {a1 : Int} {S : q_S} (h : q_r 108 7 [vR 3, vI a1, vI a1, vI 1, vI 0, vU, vU] [] S Q Z) : q_c 108 [vR 3, vI a1] S Q Z := q_blk 6 h
-- LM$Grammar.grownFrom
theorem b_108_7 {Q : q_Q} {Z : q_Z} {a2 a3 a4 : Int} {j1 j5 j6 : q_J} {S : q_S} (h : (a3 = 0 →
    Q a2 S) ∧
  (¬ a3 = 0 →
    (a4 > 8 →
      Q a2 S) ∧
    (¬ a4 > 8 →
      q_r 108 24 [vR 3, vJ j1, vI a2, vI a3, vI a4, vI a2, vI 1] [] S Q Z))) : q_r 108 7 [vR 3, vJ j1, vI a2, vI a3, vI a4, vJ j5, vJ j6] [] S Q Z := q_blk 13 h
-- LM$Grammar.grownFrom
theorem b_108_24 {Q : q_Q} {Z : q_Z} {a2 a4 a5 a6 : Int} {j1 j3 : q_J} {S : q_S} (h : (a6 > (S 3 4) →
    (a2 = a5 →
      q_rg (a4 + 1) ∧
      q_r 108 7 [vR 3, vJ j1, vI a2, vI 0, vI (a4 + 1), vI a5, vI a6] [] S Q Z) ∧
    (¬ a2 = a5 →
      q_rg (a4 + 1) ∧
      q_r 108 7 [vR 3, vJ j1, vI a2, vI 1, vI (a4 + 1), vI a5, vI a6] [] S Q Z)) ∧
  (¬ a6 > (S 3 4) →
    q_c 110 [vR 3, vI a6, vI a2] S (fun r2 S1 =>
      (r2 = 0 →
        q_rg (a6 + 1) ∧
        q_r 108 24 [vR 3, vJ j1, vI a2, vJ j3, vI a4, vI a5, vI (a6 + 1)] [] S1 Q Z) ∧
      (¬ r2 = 0 →
        0 ≤ a6 ∧ a6 < 16 ∧
        q_rg (a6 + 1) ∧
        q_r 108 24 [vR 3, vJ j1, vI (q_or a2 (q_shl 1 (S1 4 a6))), vJ j3, vI a4, vI a5, vI (a6 + 1)] [] S1 Q Z)) Z)) : q_r 108 24 [vR 3, vJ j1, vI a2, vJ j3, vI a4, vI a5, vI a6] [] S Q Z := q_blk 34 h
-- LM$Grammar.reachedSymbols
theorem b_109_0 {Q : q_Q} {Z : q_Z} {S : q_S} (h : q_c 107 [vR 3] S (fun r2 S1 =>
    q_r 109 11 [vR 3, vI (q_shl 1 r2), vI 1, vI 0, vU, vU] [] S1 Q Z) Z) : q_c 109 [vR 3] S Q Z := q_blk 9 h
-- LM$Grammar.reachedSymbols
theorem b_109_11 {Q : q_Q} {Z : q_Z} {a1 a2 a3 : Int} {j4 j5 : q_J} {S : q_S} (h : (a2 = 0 →
    Q a1 S) ∧
  (¬ a2 = 0 →
    (a3 > 8 →
      Q a1 S) ∧
    (¬ a3 > 8 →
      q_r 109 27 [vR 3, vI a1, vI a2, vI a3, vI a1, vI 1] [] S Q Z))) : q_r 109 11 [vR 3, vI a1, vI a2, vI a3, vJ j4, vJ j5] [] S Q Z := q_blk 13 h
-- LM$Grammar.reachedSymbols
theorem b_109_27 {Q : q_Q} {Z : q_Z} {a1 a3 a4 a5 : Int} {j2 : q_J} {S : q_S} (h : (a5 > (S 3 4) →
    (a1 = a4 →
      q_rg (a3 + 1) ∧
      q_r 109 11 [vR 3, vI a1, vI 0, vI (a3 + 1), vI a4, vI a5] [] S Q Z) ∧
    (¬ a1 = a4 →
      q_rg (a3 + 1) ∧
      q_r 109 11 [vR 3, vI a1, vI 1, vI (a3 + 1), vI a4, vI a5] [] S Q Z)) ∧
  (¬ a5 > (S 3 4) →
    0 ≤ a5 ∧ a5 < 16 ∧
    ((q_and (q_shr a1 (S 4 a5)) 1) = 0 →
      q_rg (a5 + 1) ∧
      q_r 109 27 [vR 3, vI a1, vJ j2, vI a3, vI a4, vI (a5 + 1)] [] S Q Z) ∧
    (¬ (q_and (q_shr a1 (S 4 a5)) 1) = 0 →
      q_c 111 [vR 3, vI a5] S (fun r2 S1 =>
        q_rg (a5 + 1) ∧
        q_r 109 27 [vR 3, vI (q_or a1 r2), vJ j2, vI a3, vI a4, vI (a5 + 1)] [] S1 Q Z) Z))) : q_r 109 27 [vR 3, vI a1, vJ j2, vI a3, vI a4, vI a5] [] S Q Z := q_blk 35 h
-- LM$Grammar.isMadeOf
theorem b_110_0 {Q : q_Q} {Z : q_Z} {a1 a2 : Int} {S : q_S} (h : q_c 111 [vR 3, vI a1] S (fun r2 S1 =>
    ((q_and r2 (q_xor a2 (-1))) ≠ 0 →
      q_bo 0 ∧ Q 0 S1) ∧
    (¬ (q_and r2 (q_xor a2 (-1))) ≠ 0 →
      q_bo 1 ∧ Q 1 S1)) Z) : q_c 110 [vR 3, vI a1, vI a2] S Q Z := q_blk 13 h
-- LM$Grammar.symbolsIn
theorem b_111_0 {Q : q_Q} {Z : q_Z} {a1 : Int} {S : q_S} (h : q_r 111 4 [vR 3, vI a1, vI 0, vI 0] [] S Q Z) : q_c 111 [vR 3, vI a1] S Q Z := q_blk 4 h
-- LM$Grammar.symbolsIn
theorem b_111_4 {Q : q_Q} {Z : q_Z} {a1 a2 a3 : Int} {S : q_S} (h : 0 ≤ a1 ∧ a1 < 16 ∧
  (a3 ≥ (S 5 a1) →
    Q a2 S) ∧
  (¬ a3 ≥ (S 5 a1) →
    q_c 105 [vR 3, vI a1, vI a3] S (fun r2 S1 =>
      q_rg (a3 + 1) ∧
      q_r 111 4 [vR 3, vI a1, vI (q_or a2 (q_shl 1 r2)), vI (a3 + 1)] [] S1 Q Z) Z)) : q_r 111 4 [vR 3, vI a1, vI a2, vI a3] [] S Q Z := q_blk 19 h
-- LM$Parse.close
theorem b_112_0 {Q : q_Q} {Z : q_Z} {S : q_S} (h : q_bo 0 ∧
  Q 0 (q_up S 27 0 0)) : q_c 112 [vR 27] S Q Z := q_blk 4 h
-- LM$Parse.begin
theorem b_113_0 {Q : q_Q} {Z : q_Z} {a1 a2 : Int} {S : q_S} (h : q_bo 1 ∧
  (0 : Int) ≤ 0 ∧ (0 : Int) < 24 ∧
  Q 0 (q_up (q_up (q_up (q_up (q_up (q_up (q_up (q_up S 27 0 1) 27 1 0) 27 2 1) 28 0 0) 27 3 0) 30 5 0) 27 10 a1) 27 11 a2)) : q_c 113 [vR 27, vI a1, vI a2] S Q Z := q_blk 28 h
-- LM$Parse.topState
theorem b_114_0 {Q : q_Q} {Z : q_Z} {S : q_S} (h : q_rg ((S 27 2) - 1) ∧
  0 ≤ ((S 27 2) - 1) ∧ ((S 27 2) - 1) < 24 ∧
  Q (S 28 ((S 27 2) - 1)) S) : q_c 114 [vR 27] S Q Z := q_blk 8 h
-- LM$Parse.give
theorem b_115_0 {Q : q_Q} {Z : q_Z} {a1 : Int} {S : q_S} (h : q_r 115 4 [vR 27, vI a1, vI 1, vI 0] [] S Q Z) : q_c 115 [vR 27, vI a1] S Q Z := q_blk 4 h
-- LM$Parse.give
theorem b_115_4 {Q : q_Q} {Z : q_Z} {a1 a2 a3 : Int} {S : q_S} (h : (a2 = 0 →
    Q (S 27 1) S) ∧
  (¬ a2 = 0 →
    (a3 > 60 →
      Q (S 27 1) S) ∧
    (¬ a3 > 60 →
      q_c 114 [vR 27] S (fun r2 S1 =>
        q_c 91 [vR 26, vI r2, vI a1] S1 (fun r4 S3 =>
          q_c 116 [vR 27, vI r4, vI a1] S3 (fun r6 S5 =>
            q_rg (a3 + 1) ∧
            q_r 115 4 [vR 27, vI a1, vI r6, vI (a3 + 1)] [] S5 Q Z) Z) Z) Z))) : q_r 115 4 [vR 27, vI a1, vI a2, vI a3] [] S Q Z := q_blk 23 h
-- LM$Parse.doAction
theorem b_116_0 {Q : q_Q} {Z : q_Z} {a1 a2 : Int} {S : q_S} (h : (a1 ≠ 0 →
    (a1 ≠ 16 →
      (a1 < 20 →
        q_c 118 [vR 27, vI a1] S (fun _ S1 =>
          ((S1 27 1) ≠ 0 →
            q_bo 0 ∧ Q 0 S1) ∧
          (¬ (S1 27 1) ≠ 0 →
            q_bo 1 ∧ Q 1 S1)) Z) ∧
      (¬ a1 < 20 →
        q_rg (a1 - 20) ∧
        q_c 117 [vR 27, vI (a1 - 20), vI a2] S (fun _ S3 =>
          q_bo 0 ∧ Q 0 S3) Z)) ∧
    (¬ a1 ≠ 16 →
      q_bo 0 ∧ Q 0 (q_up S 27 1 1))) ∧
  (¬ a1 ≠ 0 →
    q_bo 0 ∧ Q 0 (q_up S 27 1 2))) : q_c 116 [vR 27, vI a1, vI a2] S Q Z := q_blk 40 h
-- LM$Parse.shift
theorem b_117_0 {Q : q_Q} {Z : q_Z} {a1 a2 : Int} {S : q_S} (h : q_rg ((S 27 2) + 1) ∧
  q_c 120 [vR 27, vI ((S 27 2) + 1)] S (fun r2 S1 =>
    (r2 ≠ 0 →
      q_c 158 [vR 30, vI a2, vI (S1 27 3)] S1 (fun r4 S3 =>
        q_c 121 [vR 27, vI a1, vI r4] S3 (fun _ S5 =>
          q_rg ((S5 27 3) + 1) ∧
          Q 0 (q_up S5 27 3 ((S5 27 3) + 1))) Z) Z) ∧
    (¬ r2 ≠ 0 →
      Q 0 (q_up S1 27 1 3))) Z) : q_c 117 [vR 27, vI a1, vI a2] S Q Z := q_blk 27 h
-- LM$Parse.reduce
set_option maxRecDepth 20000 in
theorem b_118_0 {Q : q_Q} {Z : q_Z} {a1 : Int} {S : q_S} (h : 0 ≤ a1 ∧ a1 < 16 ∧
  q_rg ((S 27 2) - (S 5 a1)) ∧
  0 ≤ a1 ∧ a1 < 16 ∧
  q_c 119 [vR 27, vI ((S 27 2) - (S 5 a1)), vI (S 4 a1)] S (fun r2 S1 =>
    (r2 ≠ (-1) →
      q_rg (((S 27 2) - (S 5 a1)) + 1) ∧
      q_c 120 [vR 27, vI (((S 27 2) - (S 5 a1)) + 1)] S1 (fun r4 S3 =>
        (r4 ≠ 0 →
          q_c 159 [vR 30, vI a1, vR 29, vI ((S 27 2) - (S 5 a1)), vI (S3 27 3)] S3 (fun r6 S5 =>
            q_c 121 [vR 27, vI r2, vI r6] (q_up S5 27 2 ((S 27 2) - (S 5 a1))) (fun _ S7 =>
              Q 0 S7) Z) Z) ∧
        (¬ r4 ≠ 0 →
          Q 0 (q_up S3 27 1 3))) Z) ∧
    (¬ r2 ≠ (-1) →
      Q 0 (q_up S1 27 1 2))) Z) : q_c 118 [vR 27, vI a1] S Q Z := q_blk 55 h
-- LM$Parse.goalFrom
theorem b_119_0 {Q : q_Q} {Z : q_Z} {a1 a2 : Int} {S : q_S} (h : (a1 ≥ 1 →
    q_rg (a1 - 1) ∧
    0 ≤ (a1 - 1) ∧ (a1 - 1) < 24 ∧
    q_c 142 [vR 16, vI (S 28 (a1 - 1)), vI a2] S (fun r2 S1 =>
      Q r2 S1) Z) ∧
  (¬ a1 ≥ 1 →
    Q (-1) S)) : q_c 119 [vR 27, vI a1, vI a2] S Q Z := q_blk 17 h
-- LM$Parse.hasRoom
theorem b_120_0 {Q : q_Q} {Z : q_Z} {a1 : Int} {S : q_S} (h : (a1 > (S 27 10) →
    q_bo 0 ∧ Q 0 S) ∧
  (¬ a1 > (S 27 10) →
    ((S 30 5) ≥ (S 27 11) →
      q_bo 0 ∧ Q 0 S) ∧
    (¬ (S 30 5) ≥ (S 27 11) →
      q_bo 1 ∧ Q 1 S))) : q_c 120 [vR 27, vI a1] S Q Z := q_blk 17 h
-- LM$Parse.push
theorem b_121_0 {Q : q_Q} {Z : q_Z} {a1 a2 : Int} {S : q_S} (h : 0 ≤ (S 27 2) ∧ (S 27 2) < 24 ∧
  0 ≤ (S 27 2) ∧ (S 27 2) < 24 ∧
  q_rg ((S 27 2) + 1) ∧
  Q 0 (q_up (q_up (q_up S 28 (S 27 2) a1) 29 (S 27 2) a2) 27 2 ((S 27 2) + 1))) : q_c 121 [vR 27, vI a1, vI a2] S Q Z := q_blk 19 h
-- LM$Reader.readText
set_option maxRecDepth 20000 in
theorem b_122_0 {Q : q_Q} {Z : q_Z} {S : q_S} (h : q_c 123 [vR 9] S (fun _ S1 =>
    q_c 124 [vR 9] S1 (fun r4 S3 =>
      (r4 ≠ 0 →
        (r4 ≠ 0 →
          (r4 ≠ 0 →
            Q r4 S3) ∧
          (¬ r4 ≠ 0 →
            q_c 109 [vR 3] S3 (fun r6 S5 =>
              q_c 131 [vR 9, vI r6, vI 7] S5 (fun r8 S7 =>
                Q r8 S7) Z) Z)) ∧
        (¬ r4 ≠ 0 →
          q_c 108 [vR 3, vI 65280] S3 (fun r10 S9 =>
            q_c 131 [vR 9, vI r10, vI 6] S9 (fun r12 S11 =>
              (r12 ≠ 0 →
                Q r12 S11) ∧
              (¬ r12 ≠ 0 →
                q_c 109 [vR 3] S11 (fun r14 S13 =>
                  q_c 131 [vR 9, vI r14, vI 7] S13 (fun r16 S15 =>
                    Q r16 S15) Z) Z)) Z) Z)) ∧
      (¬ r4 ≠ 0 →
        q_c 130 [vR 9] S3 (fun r18 S17 =>
          (r18 ≠ 0 →
            (r18 ≠ 0 →
              Q r18 S17) ∧
            (¬ r18 ≠ 0 →
              q_c 109 [vR 3] S17 (fun r20 S19 =>
                q_c 131 [vR 9, vI r20, vI 7] S19 (fun r22 S21 =>
                  Q r22 S21) Z) Z)) ∧
          (¬ r18 ≠ 0 →
            q_c 108 [vR 3, vI 65280] S17 (fun r24 S23 =>
              q_c 131 [vR 9, vI r24, vI 6] S23 (fun r26 S25 =>
                (r26 ≠ 0 →
                  Q r26 S25) ∧
                (¬ r26 ≠ 0 →
                  q_c 109 [vR 3] S25 (fun r28 S27 =>
                    q_c 131 [vR 9, vI r28, vI 7] S27 (fun r30 S29 =>
                      Q r30 S29) Z) Z)) Z) Z)) Z)) Z) Z) : q_c 122 [vR 9] S Q Z := q_blk 82 h
-- LM$Reader.clear
theorem b_123_0 {Q : q_Q} {Z : q_Z} {S : q_S} (h : q_c 101 [vR 3] S (fun _ S1 =>
    Q 0 (q_up (q_up (q_fil S1 11 (-1)) 9 5 0) 9 0 (-1))) Z) : q_c 123 [vR 9] S Q Z := q_blk 14 h
-- LM$Reader.readRules
theorem b_124_0 {Q : q_Q} {Z : q_Z} {S : q_S} (h : q_r 124 2 [vR 9, vI 0, vU, vU] [] S Q Z) : q_c 124 [vR 9] S Q Z := q_blk 2 h
-- LM$Reader.readRules
set_option maxRecDepth 20000 in
theorem b_124_2 {Q : q_Q} {Z : q_Z} {a1 : Int} {j2 j3 : q_J} {S : q_S} (h : (a1 ≥ (S 1 1) →
    ((S 9 5) ≠ 0 →
      Q 1 (q_up S 9 0 (S 1 1))) ∧
    (¬ (S 9 5) ≠ 0 →
      ((S 3 4) ≠ 0 →
        q_c 107 [vR 3] S (fun r2 S1 =>
          q_c 104 [vR 3, vI 0, vI r2] S1 (fun _ S3 =>
            Q 0 S3) Z) Z) ∧
      (¬ (S 3 4) ≠ 0 →
        Q 1 (q_up S 9 0 (S 1 1))))) ∧
  (¬ a1 ≥ (S 1 1) →
    0 ≤ a1 ∧ a1 < 200 ∧
    ((S 2 a1) ≠ 32 →
      q_c 125 [vR 9, vI (S 2 a1), vI a1] S (fun r6 S5 =>
        (r6 = 0 →
          q_rg (a1 + 1) ∧
          q_r 124 2 [vR 9, vI (a1 + 1), vI (S 2 a1), vI r6] [] S5 Q Z) ∧
        (¬ r6 = 0 →
          Q r6 (q_up S5 9 0 a1))) Z) ∧
    (¬ (S 2 a1) ≠ 32 →
      ((0 : Int) = 0 →
        q_rg (a1 + 1) ∧
        q_r 124 2 [vR 9, vI (a1 + 1), vI (S 2 a1), vI 0] [] S Q Z) ∧
      (¬ (0 : Int) = 0 →
        Q 0 (q_up S 9 0 a1))))) : q_r 124 2 [vR 9, vI a1, vJ j2, vJ j3] [] S Q Z := q_blk 70 h
-- LM$Reader.take
theorem b_125_0 {Q : q_Q} {Z : q_Z} {a1 a2 : Int} {S : q_S} (h : ((S 9 5) = 0 →
    q_c 25 [vI a1] S (fun r2 S1 =>
      q_c 126 [vR 9, vI r2, vI a2] S1 (fun r4 S3 =>
        Q r4 S3) Z) Z) ∧
  (¬ (S 9 5) = 0 →
    ((S 9 5) = 1 →
    (a1 ≠ 58 →
      Q 1 S) ∧
    (¬ a1 ≠ 58 →
      q_c 127 [vR 9] S (fun r6 S5 =>
        Q r6 S5) Z)) ∧
  (¬ (S 9 5) = 1 →
    q_c 128 [vR 9, vI a1, vI a2] S (fun r8 S7 =>
      Q r8 S7) Z))) : q_c 125 [vR 9, vI a1, vI a2] S Q Z := q_blk 23 h
-- LM$Reader.beginRule
theorem b_126_0 {Q : q_Q} {Z : q_Z} {a1 a2 : Int} {S : q_S} (h : (a1 = (-1) →
    Q 1 S) ∧
  (¬ a1 = (-1) →
    (a1 < 8 →
      q_c 106 [vR 3, vI a1] S (fun r2 S1 =>
        (r2 = 0 →
          0 ≤ a1 ∧ a1 < 8 ∧
          Q 0 (q_up (q_up (q_up S1 9 6 a1) 10 a1 a2) 9 5 1)) ∧
        (¬ r2 = 0 →
          Q 2 S1)) Z) ∧
    (¬ a1 < 8 →
      Q 1 S))) : q_c 126 [vR 9, vI a1, vI a2] S Q Z := q_blk 30 h
-- LM$Reader.beginAlternative
theorem b_127_0 {Q : q_Q} {Z : q_Z} {S : q_S} (h : q_c 102 [vR 3] S (fun r2 S1 =>
    (r2 = 0 →
      q_c 103 [vR 3, vI (S1 9 6)] S1 (fun _ S3 =>
        Q 0 (q_up S3 9 5 2)) Z) ∧
    (¬ r2 = 0 →
      Q 4 S1)) Z) : q_c 127 [vR 9] S Q Z := q_blk 16 h
-- LM$Reader.takeInAlternatives
theorem b_128_0 {Q : q_Q} {Z : q_Z} {a1 a2 : Int} {S : q_S} (h : (a1 ≠ 124 →
    (a1 ≠ 59 →
      q_c 25 [vI a1] S (fun r2 S1 =>
        (r2 ≠ (-1) →
          q_c 129 [vR 9, vI r2, vI a2] S1 (fun r4 S3 =>
            Q r4 S3) Z) ∧
        (¬ r2 ≠ (-1) →
          Q 1 S1)) Z) ∧
    (¬ a1 ≠ 59 →
      Q 0 (q_up S 9 5 0))) ∧
  (¬ a1 ≠ 124 →
    q_c 127 [vR 9] S (fun r6 S5 =>
      Q r6 S5) Z)) : q_c 128 [vR 9, vI a1, vI a2] S Q Z := q_blk 28 h
-- LM$Reader.takeLetter
theorem b_129_0 {Q : q_Q} {Z : q_Z} {a1 a2 : Int} {S : q_S} (h : 0 ≤ (S 3 4) ∧ (S 3 4) < 16 ∧
  ((S 5 (S 3 4)) ≠ 4 →
    q_c 104 [vR 3, vI (S 3 4), vI a1] S (fun _ S1 =>
      (a1 ≥ 8 →
        Q 0 S1) ∧
      (¬ a1 ≥ 8 →
        0 ≤ a1 ∧ a1 < 8 ∧
        ((S1 11 a1) ≠ (-1) →
          Q 0 S1) ∧
        (¬ (S1 11 a1) ≠ (-1) →
          0 ≤ a1 ∧ a1 < 8 ∧
          Q 0 (q_up S1 11 a1 a2)))) Z) ∧
  (¬ (S 5 (S 3 4)) ≠ 4 →
    Q 3 S)) : q_c 129 [vR 9, vI a1, vI a2] S Q Z := q_blk 38 h
-- LM$Reader.checkRules
theorem b_130_0 {Q : q_Q} {Z : q_Z} {S : q_S} (h : q_r 130 2 [vR 9, vI 0, vU] [] S Q Z) : q_c 130 [vR 9] S Q Z := q_blk 2 h
-- LM$Reader.checkRules
set_option maxRecDepth 20000 in
theorem b_130_2 {Q : q_Q} {Z : q_Z} {a1 : Int} {j2 : q_J} {S : q_S} (h : (a1 ≥ 8 →
    ((S 9 0) ≠ (-1) →
      Q 5 S) ∧
    (¬ (S 9 0) ≠ (-1) →
      Q 0 S)) ∧
  (¬ a1 ≥ 8 →
    0 ≤ a1 ∧ a1 < 8 ∧
    ((S 11 a1) = (-1) →
      q_rg (a1 + 1) ∧
      q_r 130 2 [vR 9, vI (a1 + 1), vI (S 11 a1)] [] S Q Z) ∧
    (¬ (S 11 a1) = (-1) →
      q_c 106 [vR 3, vI a1] S (fun r2 S1 =>
        (r2 ≠ 0 →
          q_rg (a1 + 1) ∧
          q_r 130 2 [vR 9, vI (a1 + 1), vI (S 11 a1)] [] S1 Q Z) ∧
        (¬ r2 ≠ 0 →
          ((S1 9 0) = (-1) →
            q_rg (a1 + 1) ∧
            q_r 130 2 [vR 9, vI (a1 + 1), vI (S 11 a1)] [] (q_up S1 9 0 (S 11 a1)) Q Z) ∧
          (¬ (S1 9 0) = (-1) →
            ((S 11 a1) ≥ (S1 9 0) →
              q_rg (a1 + 1) ∧
              q_r 130 2 [vR 9, vI (a1 + 1), vI (S 11 a1)] [] S1 Q Z) ∧
            (¬ (S 11 a1) ≥ (S1 9 0) →
              q_rg (a1 + 1) ∧
              q_r 130 2 [vR 9, vI (a1 + 1), vI (S 11 a1)] [] (q_up S1 9 0 (S 11 a1)) Q Z)))) Z))) : q_r 130 2 [vR 9, vI a1, vJ j2] [] S Q Z := q_blk 49 h
-- LM$Reader.checkMarked
theorem b_131_0 {Q : q_Q} {Z : q_Z} {a1 a2 : Int} {S : q_S} (h : q_r 131 2 [vR 9, vI a1, vI a2, vI 1, vU] [] S Q Z) : q_c 131 [vR 9, vI a1, vI a2] S Q Z := q_blk 2 h
-- LM$Reader.checkMarked
theorem b_131_2 {Q : q_Q} {Z : q_Z} {a1 a2 a3 : Int} {j4 : q_J} {S : q_S} (h : (a3 > (S 3 4) →
    Q 0 S) ∧
  (¬ a3 > (S 3 4) →
    0 ≤ a3 ∧ a3 < 16 ∧
    ((q_and (q_shr a1 (S 4 a3)) 1) ≠ 0 →
      q_rg (a3 + 1) ∧
      q_r 131 2 [vR 9, vI a1, vI a2, vI (a3 + 1), vI (S 4 a3)] [] S Q Z) ∧
    (¬ (q_and (q_shr a1 (S 4 a3)) 1) ≠ 0 →
      0 ≤ (S 4 a3) ∧ (S 4 a3) < 8 ∧
      Q a2 (q_up S 9 0 (S 10 (S 4 a3)))))) : q_r 131 2 [vR 9, vI a1, vI a2, vI a3, vJ j4] [] S Q Z := q_blk 29 h
-- LM$Sets.find
theorem b_132_0 {Q : q_Q} {Z : q_Z} {S : q_S} (h : q_c 108 [vR 3, vI 0] S (fun r2 S1 =>
    q_c 135 [vR 12] (q_up S1 12 4 r2) (fun _ S3 =>
      q_c 137 [vR 12] S3 (fun _ S5 =>
        Q 0 S5) Z) Z) Z) : q_c 132 [vR 12] S Q Z := q_blk 11 h
-- LM$Sets.isNullable
theorem b_133_0 {Q : q_Q} {Z : q_Z} {a1 : Int} {S : q_S} (h : ((q_and (q_shr (S 12 4) a1) 1) = 0 →
    q_bo 0 ∧ Q 0 S) ∧
  (¬ (q_and (q_shr (S 12 4) a1) 1) = 0 →
    q_bo 1 ∧ Q 1 S)) : q_c 133 [vR 12, vI a1] S Q Z := q_blk 12 h
-- LM$Sets.startsOf
theorem b_134_0 {Q : q_Q} {Z : q_Z} {a1 a2 a3 : Int} {S : q_S} (h : q_rg (a1 * 5) ∧
  q_rg ((a1 * 5) + a2) ∧
  0 ≤ ((a1 * 5) + a2) ∧ ((a1 * 5) + a2) < 80 ∧
  q_r 134 15 [vR 12, vI a1, vI a2, vI a3, vI (S 15 ((a1 * 5) + a2)), vI a2] [] S Q Z) : q_c 134 [vR 12, vI a1, vI a2, vI a3] S Q Z := q_blk 11 h
-- LM$Sets.startsOf
theorem b_134_15 {Q : q_Q} {Z : q_Z} {a1 a3 a4 a5 : Int} {j2 : q_J} {S : q_S} (h : 0 ≤ a1 ∧ a1 < 16 ∧
  (a5 ≥ (S 5 a1) →
    Q (q_or a4 a3) S) ∧
  (¬ a5 ≥ (S 5 a1) →
    q_c 105 [vR 3, vI a1, vI a5] S (fun r2 S1 =>
      q_c 133 [vR 12, vI r2] S1 (fun r4 S3 =>
        (r4 ≠ 0 →
          q_rg (a5 + 1) ∧
          q_r 134 15 [vR 12, vI a1, vJ j2, vI a3, vI a4, vI (a5 + 1)] [] S3 Q Z) ∧
        (¬ r4 ≠ 0 →
          Q a4 S3)) Z) Z)) : q_r 134 15 [vR 12, vI a1, vJ j2, vI a3, vI a4, vI a5] [] S Q Z := q_blk 23 h
-- LM$Sets.findFirst
theorem b_135_0 {Q : q_Q} {Z : q_Z} {S : q_S} (h : q_r 135 12 [vR 12, vI 1, vI 0, vU, vU, vU] [] (q_fil S 13 0) Q Z) : q_c 135 [vR 12] S Q Z := q_blk 8 h
-- LM$Sets.findFirst
theorem b_135_12 {Q : q_Q} {Z : q_Z} {a1 a2 : Int} {j3 j4 j5 : q_J} {S : q_S} (h : (a1 = 0 →
    q_r 135 107 [vR 12, vI a1, vI 0, vJ j3, vJ j4, vJ j5] [] S Q Z) ∧
  (¬ a1 = 0 →
    (a2 ≥ 1000000 →
      q_r 135 107 [vR 12, vI a1, vI 0, vJ j3, vJ j4, vJ j5] [] S Q Z) ∧
    (¬ a2 ≥ 1000000 →
      q_r 135 26 [vR 12, vI 0, vI a2, vI 1, vJ j4, vJ j5] [] S Q Z))) : q_r 135 12 [vR 12, vI a1, vI a2, vJ j3, vJ j4, vJ j5] [] S Q Z := q_blk 13 h
-- LM$Sets.findFirst
set_option maxRecDepth 20000 in
theorem b_135_26 {Q : q_Q} {Z : q_Z} {a1 a2 a3 : Int} {j4 j5 : q_J} {S : q_S} (h : (a3 > (S 3 4) →
    q_rg (a2 + 1) ∧
    q_r 135 12 [vR 12, vI a1, vI (a2 + 1), vI a3, vJ j4, vJ j5] [] S Q Z) ∧
  (¬ a3 > (S 3 4) →
    0 ≤ a3 ∧ a3 < 16 ∧
    0 ≤ (S 4 a3) ∧ (S 4 a3) < 8 ∧
    0 ≤ (S 4 a3) ∧ (S 4 a3) < 8 ∧
    q_c 136 [vR 12, vI a3, vI 0] S (fun r2 S1 =>
      0 ≤ (S 4 a3) ∧ (S 4 a3) < 8 ∧
      0 ≤ (S 4 a3) ∧ (S 4 a3) < 8 ∧
      (((q_up S1 13 (S 4 a3) (q_or (S 13 (S 4 a3)) r2)) 13 (S 4 a3)) = (S 13 (S 4 a3)) →
        q_rg (a3 + 1) ∧
        q_r 135 26 [vR 12, vI (q_or a1 0), vI a2, vI (a3 + 1), vI (S 4 a3), vI (S 13 (S 4 a3))] [] (q_up S1 13 (S 4 a3) (q_or (S 13 (S 4 a3)) r2)) Q Z) ∧
      (¬ ((q_up S1 13 (S 4 a3) (q_or (S 13 (S 4 a3)) r2)) 13 (S 4 a3)) = (S 13 (S 4 a3)) →
        q_rg (a3 + 1) ∧
        q_r 135 26 [vR 12, vI (q_or a1 1), vI a2, vI (a3 + 1), vI (S 4 a3), vI (S 13 (S 4 a3))] [] (q_up S1 13 (S 4 a3) (q_or (S 13 (S 4 a3)) r2)) Q Z)) Z)) : q_r 135 26 [vR 12, vI a1, vI a2, vI a3, vJ j4, vJ j5] [] S Q Z := q_blk 47 h
-- LM$Sets.findFirst
theorem b_135_107 {Q : q_Q} {Z : q_Z} {a2 : Int} {j1 j3 j4 j5 : q_J} {S : q_S} (h : (a2 > (S 3 4) →
    Q 0 S) ∧
  (¬ a2 > (S 3 4) →
    q_r 135 120 [vR 12, vJ j1, vI a2, vI 0, vJ j4, vJ j5] [] S Q Z)) : q_r 135 107 [vR 12, vJ j1, vI a2, vJ j3, vJ j4, vJ j5] [] S Q Z := q_blk 8 h
-- LM$Sets.findFirst
theorem b_135_120 {Q : q_Q} {Z : q_Z} {a2 a3 : Int} {j1 j4 j5 : q_J} {S : q_S} (h : 0 ≤ a2 ∧ a2 < 16 ∧
  (a3 > (S 5 a2) →
    q_rg (a2 + 1) ∧
    q_r 135 107 [vR 12, vJ j1, vI (a2 + 1), vI a3, vJ j4, vJ j5] [] S Q Z) ∧
  (¬ a3 > (S 5 a2) →
    q_rg (a2 * 5) ∧
    q_rg ((a2 * 5) + a3) ∧
    q_c 136 [vR 12, vI a2, vI a3] S (fun r2 S1 =>
      0 ≤ ((a2 * 5) + a3) ∧ ((a2 * 5) + a3) < 80 ∧
      q_rg (a3 + 1) ∧
      q_r 135 120 [vR 12, vJ j1, vI a2, vI (a3 + 1), vJ j4, vJ j5] [] (q_up S1 15 ((a2 * 5) + a3) r2) Q Z) Z)) : q_r 135 120 [vR 12, vJ j1, vI a2, vI a3, vJ j4, vJ j5] [] S Q Z := q_blk 23 h
-- LM$Sets.firstOfRow
theorem b_136_0 {Q : q_Q} {Z : q_Z} {a1 a2 : Int} {S : q_S} (h : q_r 136 5 [vR 12, vI a1, vI a2, vI 0, vI a2, vU] [] S Q Z) : q_c 136 [vR 12, vI a1, vI a2] S Q Z := q_blk 4 h
-- LM$Sets.firstOfRow
set_option maxRecDepth 20000 in
theorem b_136_5 {Q : q_Q} {Z : q_Z} {a1 a3 a4 : Int} {j2 j5 : q_J} {S : q_S} (h : 0 ≤ a1 ∧ a1 < 16 ∧
  (a4 ≥ (S 5 a1) →
    Q a3 S) ∧
  (¬ a4 ≥ (S 5 a1) →
    q_c 105 [vR 3, vI a1, vI a4] S (fun r2 S1 =>
      (r2 ≥ 8 →
        q_rg (r2 - 8) ∧
        q_c 133 [vR 12, vI r2] S1 (fun r4 S3 =>
          (r4 ≠ 0 →
            q_rg (a4 + 1) ∧
            q_r 136 5 [vR 12, vI a1, vJ j2, vI (q_or a3 (q_shl 1 (r2 - 8))), vI (a4 + 1), vI r2] [] S3 Q Z) ∧
          (¬ r4 ≠ 0 →
            Q (q_or a3 (q_shl 1 (r2 - 8))) S3)) Z) ∧
      (¬ r2 ≥ 8 →
        0 ≤ r2 ∧ r2 < 8 ∧
        q_c 133 [vR 12, vI r2] S1 (fun r6 S5 =>
          (r6 ≠ 0 →
            q_rg (a4 + 1) ∧
            q_r 136 5 [vR 12, vI a1, vJ j2, vI (q_or a3 (S1 13 r2)), vI (a4 + 1), vI r2] [] S5 Q Z) ∧
          (¬ r6 ≠ 0 →
            Q (q_or a3 (S1 13 r2)) S5)) Z)) Z)) : q_r 136 5 [vR 12, vI a1, vJ j2, vI a3, vI a4, vJ j5] [] S Q Z := q_blk 49 h
-- LM$Sets.findFollow
theorem b_137_0 {Q : q_Q} {Z : q_Z} {S : q_S} (h : q_c 107 [vR 3] (q_fil S 14 0) (fun r4 S3 =>
    0 ≤ r4 ∧ r4 < 8 ∧
    q_r 137 27 [vR 12, vI 1, vI 0, vU] [] (q_up S3 14 r4 256) Q Z) Z) : q_c 137 [vR 12] S Q Z := q_blk 15 h
-- LM$Sets.findFollow
theorem b_137_27 {Q : q_Q} {Z : q_Z} {a1 a2 : Int} {j3 : q_J} {S : q_S} (h : (a1 = 0 →
    Q 0 S) ∧
  (¬ a1 = 0 →
    (a2 ≥ 1000000 →
      Q 0 S) ∧
    (¬ a2 ≥ 1000000 →
      q_r 137 41 [vR 12, vI 0, vI a2, vI 1] [] S Q Z))) : q_r 137 27 [vR 12, vI a1, vI a2, vJ j3] [] S Q Z := q_blk 11 h
-- LM$Sets.findFollow
theorem b_137_41 {Q : q_Q} {Z : q_Z} {a1 a2 a3 : Int} {S : q_S} (h : (a3 > (S 3 4) →
    q_rg (a2 + 1) ∧
    q_r 137 27 [vR 12, vI a1, vI (a2 + 1), vI a3] [] S Q Z) ∧
  (¬ a3 > (S 3 4) →
    q_c 138 [vR 12, vI a3] S (fun r2 S1 =>
      q_rg (a3 + 1) ∧
      q_r 137 41 [vR 12, vI (q_or a1 r2), vI a2, vI (a3 + 1)] [] S1 Q Z) Z)) : q_r 137 41 [vR 12, vI a1, vI a2, vI a3] [] S Q Z := q_blk 15 h
-- LM$Sets.followIn
theorem b_138_0 {Q : q_Q} {Z : q_Z} {a1 : Int} {S : q_S} (h : q_r 138 4 [vR 12, vI a1, vI 0, vI 0, vU, vU] [] S Q Z) : q_c 138 [vR 12, vI a1] S Q Z := q_blk 4 h
-- LM$Sets.followIn
set_option maxRecDepth 20000 in
theorem b_138_4 {Q : q_Q} {Z : q_Z} {a1 a2 a3 : Int} {j4 j5 : q_J} {S : q_S} (h : 0 ≤ a1 ∧ a1 < 16 ∧
  (a3 ≥ (S 5 a1) →
    q_bo a2 ∧ Q a2 S) ∧
  (¬ a3 ≥ (S 5 a1) →
    q_c 105 [vR 3, vI a1, vI a3] S (fun r2 S1 =>
      (r2 ≥ 8 →
        q_rg (a3 + 1) ∧
        q_r 138 4 [vR 12, vI a1, vI a2, vI (a3 + 1), vI r2, vJ j5] [] S1 Q Z) ∧
      (¬ r2 ≥ 8 →
        0 ≤ r2 ∧ r2 < 8 ∧
        0 ≤ r2 ∧ r2 < 8 ∧
        q_rg (a3 + 1) ∧
        0 ≤ a1 ∧ a1 < 16 ∧
        0 ≤ (S1 4 a1) ∧ (S1 4 a1) < 8 ∧
        q_c 134 [vR 12, vI a1, vI (a3 + 1), vI (S1 14 (S1 4 a1))] S1 (fun r4 S3 =>
          0 ≤ r2 ∧ r2 < 8 ∧
          0 ≤ r2 ∧ r2 < 8 ∧
          (((q_up S3 14 r2 (q_or (S1 14 r2) r4)) 14 r2) = (S1 14 r2) →
            q_rg (a3 + 1) ∧
            q_r 138 4 [vR 12, vI a1, vI (q_or a2 0), vI (a3 + 1), vI r2, vI (S1 14 r2)] [] (q_up S3 14 r2 (q_or (S1 14 r2) r4)) Q Z) ∧
          (¬ ((q_up S3 14 r2 (q_or (S1 14 r2) r4)) 14 r2) = (S1 14 r2) →
            q_rg (a3 + 1) ∧
            q_r 138 4 [vR 12, vI a1, vI (q_or a2 1), vI (a3 + 1), vI r2, vI (S1 14 r2)] [] (q_up S3 14 r2 (q_or (S1 14 r2) r4)) Q Z)) Z)) Z)) : q_r 138 4 [vR 12, vI a1, vI a2, vI a3, vJ j4, vJ j5] [] S Q Z := q_blk 64 h
-- LM$States.build
theorem b_139_0 {Q : q_Q} {Z : q_Z} {S : q_S} (h : q_c 144 [vR 16] S (fun _ S1 =>
    (0 : Int) ≤ 0 ∧ (0 : Int) < 16 ∧
    q_c 149 [vR 16] (q_up (q_fil (q_up S1 16 0 0) 20 0) 20 0 1) (fun r6 S5 =>
      q_r 139 31 [vR 16, vI 0, vU] [] S5 Q Z) Z) Z) : q_c 139 [vR 16] S Q Z := q_blk 19 h
-- LM$States.build
theorem b_139_31 {Q : q_Q} {Z : q_Z} {a1 : Int} {j2 : q_J} {S : q_S} (h : (a1 ≥ (S 16 0) →
    q_bo 1 ∧ Q 1 S) ∧
  (¬ a1 ≥ (S 16 0) →
    (a1 ≥ 40 →
      q_bo 1 ∧ Q 1 S) ∧
    (¬ a1 ≥ 40 →
      q_r 139 47 [vR 16, vI a1, vI 0] [] S Q Z))) : q_r 139 31 [vR 16, vI a1, vJ j2] [] S Q Z := q_blk 13 h
-- LM$States.build
theorem b_139_47 {Q : q_Q} {Z : q_Z} {a1 a2 : Int} {S : q_S} (h : (a2 ≥ 16 →
    q_rg (a1 + 1) ∧
    q_r 139 31 [vR 16, vI (a1 + 1), vI a2] [] S Q Z) ∧
  (¬ a2 ≥ 16 →
    q_c 145 [vR 16, vI a1, vI a2] S (fun r2 S1 =>
      (r2 ≠ 0 →
        q_rg (a2 + 1) ∧
        q_r 139 47 [vR 16, vI a1, vI (a2 + 1)] [] S1 Q Z) ∧
      (¬ r2 ≠ 0 →
        q_bo 0 ∧ Q 0 S1)) Z)) : q_r 139 47 [vR 16, vI a1, vI a2] [] S Q Z := q_blk 14 h
-- LM$States.has
theorem b_140_0 {Q : q_Q} {Z : q_Z} {a1 a2 a3 : Int} {S : q_S} (h : q_rg (a1 * 16) ∧
  q_rg ((a1 * 16) + a2) ∧
  0 ≤ ((a1 * 16) + a2) ∧ ((a1 * 16) + a2) < 640 ∧
  ((q_and (q_shr (S 17 ((a1 * 16) + a2)) a3) 1) = 0 →
    q_bo 0 ∧ Q 0 S) ∧
  (¬ (q_and (q_shr (S 17 ((a1 * 16) + a2)) a3) 1) = 0 →
    q_bo 1 ∧ Q 1 S)) : q_c 140 [vR 16, vI a1, vI a2, vI a3] S Q Z := q_blk 18 h
-- LM$States.hasDone
theorem b_141_0 {Q : q_Q} {Z : q_Z} {a1 a2 : Int} {S : q_S} (h : q_rg (a1 * 16) ∧
  q_rg ((a1 * 16) + a2) ∧
  0 ≤ ((a1 * 16) + a2) ∧ ((a1 * 16) + a2) < 640 ∧
  0 ≤ a2 ∧ a2 < 16 ∧
  ((q_and (q_shr (S 17 ((a1 * 16) + a2)) (S 5 a2)) 1) = 0 →
    q_bo 0 ∧ Q 0 S) ∧
  (¬ (q_and (q_shr (S 17 ((a1 * 16) + a2)) (S 5 a2)) 1) = 0 →
    q_bo 1 ∧ Q 1 S)) : q_c 141 [vR 16, vI a1, vI a2] S Q Z := q_blk 22 h
-- LM$States.goal
theorem b_142_0 {Q : q_Q} {Z : q_Z} {a1 a2 : Int} {S : q_S} (h : q_rg (a1 * 16) ∧
  q_rg ((a1 * 16) + a2) ∧
  0 ≤ ((a1 * 16) + a2) ∧ ((a1 * 16) + a2) < 640 ∧
  Q (S 18 ((a1 * 16) + a2)) S) : q_c 142 [vR 16, vI a1, vI a2] S Q Z := q_blk 9 h
-- LM$States.itemAt
theorem b_143_0 {Q : q_Q} {Z : q_Z} {a1 a2 : Int} {S : q_S} (h : q_r 143 5 [vR 16, vI a1, vI a2, vI 0, vI 0, vU] [] S Q Z) : q_c 143 [vR 16, vI a1, vI a2] S Q Z := q_blk 4 h
-- LM$States.itemAt
theorem b_143_5 {Q : q_Q} {Z : q_Z} {a1 a2 a3 a4 : Int} {j5 : q_J} {S : q_S} (h : (a4 > (S 3 4) →
    Q (-1) S) ∧
  (¬ a4 > (S 3 4) →
    q_r 143 20 [vR 16, vI a1, vI a2, vI a3, vI a4, vI 0] [] S Q Z)) : q_r 143 5 [vR 16, vI a1, vI a2, vI a3, vI a4, vJ j5] [] S Q Z := q_blk 9 h
-- LM$States.itemAt
theorem b_143_20 {Q : q_Q} {Z : q_Z} {a1 a2 a3 a4 a5 : Int} {S : q_S} (h : 0 ≤ a4 ∧ a4 < 16 ∧
  (a5 > (S 5 a4) →
    q_rg (a4 + 1) ∧
    q_r 143 5 [vR 16, vI a1, vI a2, vI a3, vI (a4 + 1), vI a5] [] S Q Z) ∧
  (¬ a5 > (S 5 a4) →
    q_c 140 [vR 16, vI a1, vI a4, vI a5] S (fun r2 S1 =>
      (r2 = 0 →
        q_rg (a5 + 1) ∧
        q_r 143 20 [vR 16, vI a1, vI a2, vI a3, vI a4, vI (a5 + 1)] [] S1 Q Z) ∧
      (¬ r2 = 0 →
        (a3 ≠ a2 →
          q_rg (a3 + 1) ∧
          q_rg (a5 + 1) ∧
          q_r 143 20 [vR 16, vI a1, vI a2, vI (a3 + 1), vI a4, vI (a5 + 1)] [] S1 Q Z) ∧
        (¬ a3 ≠ a2 →
          q_rg (8 * a4) ∧
          q_rg ((8 * a4) + a5) ∧
          Q ((8 * a4) + a5) S1))) Z)) : q_r 143 20 [vR 16, vI a1, vI a2, vI a3, vI a4, vI a5] [] S Q Z := q_blk 29 h
-- LM$States.findStands
theorem b_144_0 {Q : q_Q} {Z : q_Z} {S : q_S} (h : q_r 144 10 [vR 16, vI 0, vU] [] (q_fil S 19 0) Q Z) : q_c 144 [vR 16] S Q Z := q_blk 6 h
-- LM$States.findStands
theorem b_144_10 {Q : q_Q} {Z : q_Z} {a1 : Int} {j2 : q_J} {S : q_S} (h : (a1 > (S 3 4) →
    Q 0 S) ∧
  (¬ a1 > (S 3 4) →
    q_r 144 23 [vR 16, vI a1, vI 0] [] S Q Z)) : q_r 144 10 [vR 16, vI a1, vJ j2] [] S Q Z := q_blk 8 h
-- LM$States.findStands
theorem b_144_23 {Q : q_Q} {Z : q_Z} {a1 a2 : Int} {S : q_S} (h : 0 ≤ a1 ∧ a1 < 16 ∧
  (a2 ≥ (S 5 a1) →
    q_rg (a1 + 1) ∧
    q_r 144 10 [vR 16, vI (a1 + 1), vI a2] [] S Q Z) ∧
  (¬ a2 ≥ (S 5 a1) →
    q_c 105 [vR 3, vI a1, vI a2] S (fun r2 S1 =>
      q_rg (r2 * 16) ∧
      q_rg ((r2 * 16) + a1) ∧
      0 ≤ ((r2 * 16) + a1) ∧ ((r2 * 16) + a1) < 256 ∧
      0 ≤ ((r2 * 16) + a1) ∧ ((r2 * 16) + a1) < 256 ∧
      q_rg (a2 + 1) ∧
      q_r 144 23 [vR 16, vI a1, vI (a2 + 1)] [] (q_up S1 19 ((r2 * 16) + a1) (q_or (S1 19 ((r2 * 16) + a1)) (q_shl 1 a2))) Q Z) Z)) : q_r 144 23 [vR 16, vI a1, vI a2] [] S Q Z := q_blk 29 h
-- LM$States.goFrom
set_option maxRecDepth 20000 in
theorem b_145_0 {Q : q_Q} {Z : q_Z} {a1 a2 : Int} {S : q_S} (h : q_c 146 [vR 16, vI a1, vI a2] S (fun r2 S1 =>
    (r2 = 0 →
      q_rg (a1 * 16) ∧
      q_rg ((a1 * 16) + a2) ∧
      0 ≤ ((a1 * 16) + a2) ∧ ((a1 * 16) + a2) < 640 ∧
      q_bo 1 ∧ Q 1 (q_up S1 18 ((a1 * 16) + a2) (-1))) ∧
    (¬ r2 = 0 →
      q_c 147 [vR 16] S1 (fun r4 S3 =>
        (r4 ≠ (-1) →
          q_rg (a1 * 16) ∧
          q_rg ((a1 * 16) + a2) ∧
          0 ≤ ((a1 * 16) + a2) ∧ ((a1 * 16) + a2) < 640 ∧
          q_bo 1 ∧ Q 1 (q_up S3 18 ((a1 * 16) + a2) r4)) ∧
        (¬ r4 ≠ (-1) →
          ((S3 16 0) ≠ 40 →
            q_c 149 [vR 16] S3 (fun r6 S5 =>
              q_rg (a1 * 16) ∧
              q_rg ((a1 * 16) + a2) ∧
              0 ≤ ((a1 * 16) + a2) ∧ ((a1 * 16) + a2) < 640 ∧
              q_bo 1 ∧ Q 1 (q_up S5 18 ((a1 * 16) + a2) r6)) Z) ∧
          (¬ (S3 16 0) ≠ 40 →
            q_bo 0 ∧ Q 0 S3))) Z)) Z) : q_c 145 [vR 16, vI a1, vI a2] S Q Z := q_blk 55 h
-- LM$States.moveDots
theorem b_146_0 {Q : q_Q} {Z : q_Z} {a1 a2 : Int} {S : q_S} (h : q_r 146 5 [vR 16, vI a1, vI a2, vI 0, vI 0, vU] [] S Q Z) : q_c 146 [vR 16, vI a1, vI a2] S Q Z := q_blk 4 h
-- LM$States.moveDots
set_option maxRecDepth 20000 in
theorem b_146_5 {Q : q_Q} {Z : q_Z} {a1 a2 a3 a4 : Int} {j5 : q_J} {S : q_S} (h : (a4 > (S 3 4) →
    (a3 = 0 →
      q_bo 0 ∧ Q 0 S) ∧
    (¬ a3 = 0 →
      q_bo 1 ∧ Q 1 S)) ∧
  (¬ a4 > (S 3 4) →
    q_rg (a1 * 16) ∧
    q_rg ((a1 * 16) + a4) ∧
    0 ≤ ((a1 * 16) + a4) ∧ ((a1 * 16) + a4) < 640 ∧
    q_rg (a2 * 16) ∧
    q_rg ((a2 * 16) + a4) ∧
    0 ≤ ((a2 * 16) + a4) ∧ ((a2 * 16) + a4) < 256 ∧
    0 ≤ a4 ∧ a4 < 16 ∧
    q_rg (a4 + 1) ∧
    q_r 146 5 [vR 16, vI a1, vI a2, vI (q_or a3 (q_and (S 17 ((a1 * 16) + a4)) (S 19 ((a2 * 16) + a4)))), vI (a4 + 1), vI (q_and (S 17 ((a1 * 16) + a4)) (S 19 ((a2 * 16) + a4)))] [] (q_up S 20 a4 (q_shl (q_and (S 17 ((a1 * 16) + a4)) (S 19 ((a2 * 16) + a4))) 1)) Q Z)) : q_r 146 5 [vR 16, vI a1, vI a2, vI a3, vI a4, vJ j5] [] S Q Z := q_blk 43 h
-- LM$States.findMade
theorem b_147_0 {Q : q_Q} {Z : q_Z} {S : q_S} (h : q_r 147 2 [vR 16, vI 0] [] S Q Z) : q_c 147 [vR 16] S Q Z := q_blk 2 h
-- LM$States.findMade
theorem b_147_2 {Q : q_Q} {Z : q_Z} {a1 : Int} {S : q_S} (h : (a1 ≥ (S 16 0) →
    Q (-1) S) ∧
  (¬ a1 ≥ (S 16 0) →
    q_c 148 [vR 16, vI a1] S (fun r2 S1 =>
      (r2 = 0 →
        q_rg (a1 + 1) ∧
        q_r 147 2 [vR 16, vI (a1 + 1)] [] S1 Q Z) ∧
      (¬ r2 = 0 →
        Q a1 S1)) Z)) : q_r 147 2 [vR 16, vI a1] [] S Q Z := q_blk 14 h
-- LM$States.isMade
theorem b_148_0 {Q : q_Q} {Z : q_Z} {a1 : Int} {S : q_S} (h : q_r 148 2 [vR 16, vI a1, vI 0] [] S Q Z) : q_c 148 [vR 16, vI a1] S Q Z := q_blk 2 h
-- LM$States.isMade
theorem b_148_2 {Q : q_Q} {Z : q_Z} {a1 a2 : Int} {S : q_S} (h : (a2 > (S 3 4) →
    q_bo 1 ∧ Q 1 S) ∧
  (¬ a2 > (S 3 4) →
    q_rg (a1 * 16) ∧
    q_rg ((a1 * 16) + a2) ∧
    0 ≤ ((a1 * 16) + a2) ∧ ((a1 * 16) + a2) < 640 ∧
    0 ≤ a2 ∧ a2 < 16 ∧
    ((q_and (S 17 ((a1 * 16) + a2)) (-2)) = (S 20 a2) →
      q_rg (a2 + 1) ∧
      q_r 148 2 [vR 16, vI a1, vI (a2 + 1)] [] S Q Z) ∧
    (¬ (q_and (S 17 ((a1 * 16) + a2)) (-2)) = (S 20 a2) →
      q_bo 0 ∧ Q 0 S))) : q_r 148 2 [vR 16, vI a1, vI a2] [] S Q Z := q_blk 26 h
-- LM$States.keepMade
theorem b_149_0 {Q : q_Q} {Z : q_Z} {S : q_S} (h : q_c 150 [vR 16] S (fun _ S1 =>
    q_rg ((S1 16 0) * 16) ∧
    ((0 : Int) ≤ 0 ∧ (0 : Int) ≤ ((S1 16 0) * 16) ∧ (0 : Int) ≤ 16 ∧ (0 : Int) + 16 ≤ 16 ∧ (((S1 16 0) * 16) : Int) + 16 ≤ 640) ∧
    q_rg ((S1 16 0) + 1) ∧
    Q (S1 16 0) (q_up (q_cpy S1 20 0 17 ((S1 16 0) * 16) 16) 16 0 ((S1 16 0) + 1))) Z) : q_c 149 [vR 16] S Q Z := q_blk 23 h
-- LM$States.closeMade
theorem b_150_0 {Q : q_Q} {Z : q_Z} {S : q_S} (h : q_r 150 6 [vR 16, vI 0, vI 1, vI 0, vU, vU] [] S Q Z) : q_c 150 [vR 16] S Q Z := q_blk 6 h
-- LM$States.closeMade
theorem b_150_6 {Q : q_Q} {Z : q_Z} {a1 a2 a3 : Int} {j4 j5 : q_J} {S : q_S} (h : (a2 = 0 →
    Q 0 S) ∧
  (¬ a2 = 0 →
    (a3 > 8 →
      Q 0 S) ∧
    (¬ a3 > 8 →
      q_r 150 22 [vR 16, vI a1, vI a2, vI a3, vI a1, vI 0] [] S Q Z))) : q_r 150 6 [vR 16, vI a1, vI a2, vI a3, vJ j4, vJ j5] [] S Q Z := q_blk 11 h
-- LM$States.closeMade
theorem b_150_22 {Q : q_Q} {Z : q_Z} {a1 a3 a4 a5 : Int} {j2 : q_J} {S : q_S} (h : (a5 ≥ 8 →
    (a1 = a4 →
      q_rg (a3 + 1) ∧
      q_r 150 6 [vR 16, vI a1, vI 0, vI (a3 + 1), vI a4, vI a5] [] S Q Z) ∧
    (¬ a1 = a4 →
      q_rg (a3 + 1) ∧
      q_r 150 6 [vR 16, vI a1, vI 1, vI (a3 + 1), vI a4, vI a5] [] S Q Z)) ∧
  (¬ a5 ≥ 8 →
    ((q_and (q_shr a1 a5) 1) ≠ 0 →
      q_rg (a5 + 1) ∧
      q_r 150 22 [vR 16, vI a1, vJ j2, vI a3, vI a4, vI (a5 + 1)] [] S Q Z) ∧
    (¬ (q_and (q_shr a1 a5) 1) ≠ 0 →
      q_c 151 [vR 16, vI a5] S (fun r2 S1 =>
        (r2 = 0 →
          q_rg (a5 + 1) ∧
          q_r 150 22 [vR 16, vI a1, vJ j2, vI a3, vI a4, vI (a5 + 1)] [] S1 Q Z) ∧
        (¬ r2 = 0 →
          q_c 152 [vR 16, vI a5] S1 (fun _ S3 =>
            q_rg (a5 + 1) ∧
            q_r 150 22 [vR 16, vI (q_or a1 (q_shl 1 a5)), vJ j2, vI a3, vI a4, vI (a5 + 1)] [] S3 Q Z) Z)) Z))) : q_r 150 22 [vR 16, vI a1, vJ j2, vI a3, vI a4, vI a5] [] S Q Z := q_blk 40 h
-- LM$States.standsBehindDot
theorem b_151_0 {Q : q_Q} {Z : q_Z} {a1 : Int} {S : q_S} (h : q_r 151 2 [vR 16, vI a1, vI 0] [] S Q Z) : q_c 151 [vR 16, vI a1] S Q Z := q_blk 2 h
-- LM$States.standsBehindDot
theorem b_151_2 {Q : q_Q} {Z : q_Z} {a1 a2 : Int} {S : q_S} (h : (a2 > (S 3 4) →
    q_bo 0 ∧ Q 0 S) ∧
  (¬ a2 > (S 3 4) →
    0 ≤ a2 ∧ a2 < 16 ∧
    q_rg (a1 * 16) ∧
    q_rg ((a1 * 16) + a2) ∧
    0 ≤ ((a1 * 16) + a2) ∧ ((a1 * 16) + a2) < 256 ∧
    ((q_and (S 20 a2) (S 19 ((a1 * 16) + a2))) = 0 →
      q_rg (a2 + 1) ∧
      q_r 151 2 [vR 16, vI a1, vI (a2 + 1)] [] S Q Z) ∧
    (¬ (q_and (S 20 a2) (S 19 ((a1 * 16) + a2))) = 0 →
      q_bo 1 ∧ Q 1 S))) : q_r 151 2 [vR 16, vI a1, vI a2] [] S Q Z := q_blk 25 h
-- LM$States.addProductions
theorem b_152_0 {Q : q_Q} {Z : q_Z} {a1 : Int} {S : q_S} (h : 0 ≤ a1 ∧ a1 < 8 ∧
  0 ≤ a1 ∧ a1 < 8 ∧
  q_r 152 20 [vR 16, vI a1, vI (S 7 a1), vI (S 6 a1)] [] S Q Z) : q_c 152 [vR 16, vI a1] S Q Z := q_blk 12 h
-- LM$States.addProductions
theorem b_152_20 {Q : q_Q} {Z : q_Z} {a2 a3 : Int} {j1 : q_J} {S : q_S} (h : (a3 > a2 →
    Q 0 S) ∧
  (¬ a3 > a2 →
    0 ≤ a3 ∧ a3 < 16 ∧
    0 ≤ a3 ∧ a3 < 16 ∧
    q_rg (a3 + 1) ∧
    q_r 152 20 [vR 16, vJ j1, vI a2, vI (a3 + 1)] [] (q_up S 20 a3 (q_or (S 20 a3) 1)) Q Z)) : q_r 152 20 [vR 16, vJ j1, vI a2, vI a3] [] S Q Z := q_blk 14 h
-- LM$Text.append
theorem b_153_0 {Q : q_Q} {Z : q_Z} {a1 : Int} {S : q_S} (h : q_c 155 [vR 1, vL a1] S (fun r2 S1 =>
    (r2 ≠ 0 →
      q_r 153 12 [vR 1, vL a1, vU, vI 0, vU] [] S1 Q Z) ∧
    (¬ r2 ≠ 0 →
      Q (-1) S1)) Z) : q_c 153 [vR 1, vL a1] S Q Z := q_blk 8 h
-- LM$Text.append
theorem b_153_12 {Q : q_Q} {Z : q_Z} {a1 a3 : Int} {j2 j4 : q_J} {S : q_S} (h : (a3 ≥ 8 →
    Q (S 1 1) S) ∧
  (¬ a3 ≥ 8 →
    q_c 156 [vL a1, vI a3] S (fun r2 S1 =>
      (r2 = 0 →
        q_rg (a3 + 1) ∧
        q_r 153 12 [vR 1, vL a1, vJ j2, vI (a3 + 1), vI r2] [] S1 Q Z) ∧
      (¬ r2 = 0 →
        0 ≤ (S1 1 1) ∧ (S1 1 1) < 200 ∧
        q_ch (r2 % 65536) ∧
        q_rg ((S1 1 1) + 1) ∧
        q_rg (a3 + 1) ∧
        q_r 153 12 [vR 1, vL a1, vJ j2, vI (a3 + 1), vI r2] [] (q_up (q_up S1 2 (S1 1 1) (r2 % 65536)) 1 1 ((S1 1 1) + 1)) Q Z)) Z)) : q_r 153 12 [vR 1, vL a1, vJ j2, vI a3, vJ j4] [] S Q Z := q_blk 29 h
-- LM$Text.clear
theorem b_154_0 {Q : q_Q} {Z : q_Z} {S : q_S} (h : Q (S 1 1) (q_up S 1 1 0)) : q_c 154 [vR 1] S Q Z := q_blk 8 h
-- LM$Text.fits
theorem b_155_0 {Q : q_Q} {Z : q_Z} {a1 : Int} {S : q_S} (h : q_r 155 5 [vR 1, vL a1, vU, vI 0, vI 0, vU] [] S Q Z) : q_c 155 [vR 1, vL a1] S Q Z := q_blk 4 h
-- LM$Text.fits
theorem b_155_5 {Q : q_Q} {Z : q_Z} {a1 a3 a4 : Int} {j2 j5 : q_J} {S : q_S} (h : (a4 ≥ 8 →
    q_rg ((S 1 1) + a3) ∧
    (((S 1 1) + a3) > 200 →
      q_bo 0 ∧ Q 0 S) ∧
    (¬ ((S 1 1) + a3) > 200 →
      q_bo 1 ∧ Q 1 S)) ∧
  (¬ a4 ≥ 8 →
    q_c 156 [vL a1, vI a4] S (fun r2 S1 =>
      (r2 = 0 →
        q_rg (a4 + 1) ∧
        q_r 155 5 [vR 1, vL a1, vJ j2, vI a3, vI (a4 + 1), vI r2] [] S1 Q Z) ∧
      (¬ r2 = 0 →
        (r2 < 32 →
          q_bo 0 ∧ Q 0 S1) ∧
        (¬ r2 < 32 →
          (r2 ≤ 126 →
            q_rg (a3 + 1) ∧
            q_rg (a4 + 1) ∧
            q_r 155 5 [vR 1, vL a1, vJ j2, vI (a3 + 1), vI (a4 + 1), vI r2] [] S1 Q Z) ∧
          (¬ r2 ≤ 126 →
            q_bo 0 ∧ Q 0 S1)))) Z)) : q_r 155 5 [vR 1, vL a1, vJ j2, vI a3, vI a4, vJ j5] [] S Q Z := q_blk 35 h
-- LM$Text.byteAt
theorem b_156_0 {Q : q_Q} {Z : q_Z} {a0 a2 : Int} {S : q_S} (h : q_rg (8 * a2) ∧
  Q (q_and (q_wint (q_wush a0 (8 * a2))) 255) S) : q_c 156 [vL a0, vI a2] S Q Z := q_blk 9 h
-- LM$Tree.childCount
theorem b_157_0 {Q : q_Q} {Z : q_Z} {a1 : Int} {S : q_S} (h : 0 ≤ a1 ∧ a1 < 60 ∧
  ((S 32 a1) ≠ 0 →
    0 ≤ a1 ∧ a1 < 60 ∧
    0 ≤ (S 32 a1) ∧ (S 32 a1) < 16 ∧
    Q (S 5 (S 32 a1)) S) ∧
  (¬ (S 32 a1) ≠ 0 →
    Q 0 S)) : q_c 157 [vR 30, vI a1] S Q Z := q_blk 17 h
-- LM$Tree.addLeaf
theorem b_158_0 {Q : q_Q} {Z : q_Z} {a1 a2 : Int} {S : q_S} (h : q_rg (8 + a1) ∧
  0 ≤ (S 30 5) ∧ (S 30 5) < 60 ∧
  0 ≤ (S 30 5) ∧ (S 30 5) < 60 ∧
  0 ≤ (S 30 5) ∧ (S 30 5) < 60 ∧
  q_rg (a2 + 1) ∧
  0 ≤ (S 30 5) ∧ (S 30 5) < 60 ∧
  q_rg ((S 30 5) + 1) ∧
  Q (S 30 5) (q_up (q_up (q_up (q_up (q_up S 31 (S 30 5) (8 + a1)) 32 (S 30 5) 0) 33 (S 30 5) a2) 34 (S 30 5) (a2 + 1)) 30 5 ((S 30 5) + 1))) : q_c 158 [vR 30, vI a1, vI a2] S Q Z := q_blk 35 h
-- LM$Tree.addBranch
set_option maxRecDepth 20000 in
theorem b_159_0 {Q : q_Q} {Z : q_Z} {a1 a3 a4 : Int} {S : q_S} (h : 0 ≤ a1 ∧ a1 < 16 ∧
  0 ≤ a1 ∧ a1 < 16 ∧
  0 ≤ (S 30 5) ∧ (S 30 5) < 60 ∧
  0 ≤ (S 30 5) ∧ (S 30 5) < 60 ∧
  q_rg ((S 30 5) * 4) ∧
  ((0 : Int) ≤ a3 ∧ (0 : Int) ≤ ((S 30 5) * 4) ∧ (0 : Int) ≤ (S 5 a1) ∧ (a3 : Int) + (S 5 a1) ≤ 24 ∧ (((S 30 5) * 4) : Int) + (S 5 a1) ≤ 240) ∧
  ((S 5 a1) ≠ 0 →
    0 ≤ a3 ∧ a3 < 24 ∧
    0 ≤ (S 29 a3) ∧ (S 29 a3) < 60 ∧
    0 ≤ (S 30 5) ∧ (S 30 5) < 60 ∧
    ((S 5 a1) ≠ 0 →
      q_rg (a3 + (S 5 a1)) ∧
      q_rg ((a3 + (S 5 a1)) - 1) ∧
      0 ≤ ((a3 + (S 5 a1)) - 1) ∧ ((a3 + (S 5 a1)) - 1) < 24 ∧
      0 ≤ (S 29 ((a3 + (S 5 a1)) - 1)) ∧ (S 29 ((a3 + (S 5 a1)) - 1)) < 60 ∧
      0 ≤ (S 30 5) ∧ (S 30 5) < 60 ∧
      q_rg ((S 30 5) + 1) ∧
      Q (S 30 5) (q_up (q_up (q_up (q_cpy (q_up (q_up S 31 (S 30 5) (S 4 a1)) 32 (S 30 5) a1) 29 a3 35 ((S 30 5) * 4) (S 5 a1)) 33 (S 30 5) (S 33 (S 29 a3))) 34 (S 30 5) (S 34 (S 29 ((a3 + (S 5 a1)) - 1)))) 30 5 ((S 30 5) + 1))) ∧
    (¬ (S 5 a1) ≠ 0 →
      0 ≤ (S 30 5) ∧ (S 30 5) < 60 ∧
      q_rg ((S 30 5) + 1) ∧
      Q (S 30 5) (q_up (q_up (q_up (q_cpy (q_up (q_up S 31 (S 30 5) (S 4 a1)) 32 (S 30 5) a1) 29 a3 35 ((S 30 5) * 4) (S 5 a1)) 33 (S 30 5) (S 33 (S 29 a3))) 34 (S 30 5) a4) 30 5 ((S 30 5) + 1)))) ∧
  (¬ (S 5 a1) ≠ 0 →
    0 ≤ (S 30 5) ∧ (S 30 5) < 60 ∧
    ((S 5 a1) ≠ 0 →
      q_rg (a3 + (S 5 a1)) ∧
      q_rg ((a3 + (S 5 a1)) - 1) ∧
      0 ≤ ((a3 + (S 5 a1)) - 1) ∧ ((a3 + (S 5 a1)) - 1) < 24 ∧
      0 ≤ (S 29 ((a3 + (S 5 a1)) - 1)) ∧ (S 29 ((a3 + (S 5 a1)) - 1)) < 60 ∧
      0 ≤ (S 30 5) ∧ (S 30 5) < 60 ∧
      q_rg ((S 30 5) + 1) ∧
      Q (S 30 5) (q_up (q_up (q_up (q_cpy (q_up (q_up S 31 (S 30 5) (S 4 a1)) 32 (S 30 5) a1) 29 a3 35 ((S 30 5) * 4) (S 5 a1)) 33 (S 30 5) a4) 34 (S 30 5) (S 34 (S 29 ((a3 + (S 5 a1)) - 1)))) 30 5 ((S 30 5) + 1))) ∧
    (¬ (S 5 a1) ≠ 0 →
      0 ≤ (S 30 5) ∧ (S 30 5) < 60 ∧
      q_rg ((S 30 5) + 1) ∧
      Q (S 30 5) (q_up (q_up (q_up (q_cpy (q_up (q_up S 31 (S 30 5) (S 4 a1)) 32 (S 30 5) a1) 29 a3 35 ((S 30 5) * 4) (S 5 a1)) 33 (S 30 5) a4) 34 (S 30 5) a4) 30 5 ((S 30 5) + 1))))) : q_c 159 [vR 30, vI a1, vR 29, vI a3, vI a4] S Q Z := q_blk 117 h
-- LMLaw.bind
theorem b_160_0 {Q : q_Q} {Z : q_Z} {a1 a2 a3 : Int} {S : q_S} (h : q_c 4 [vR 0, vI a1, vI a2, vI a3] S (fun _ S1 =>
    Q 0 S1) (fun e T => bif Nat.beq 0 e then (Q 1 T) else Z e T)) : q_c 160 [vR 0, vI a1, vI a2, vI a3] S Q Z := q_blk 10 h
-- LMLaw.number
theorem b_161_0 {Q : q_Q} {Z : q_Z} {a1 : Int} {S : q_S} (h : q_c 5 [vR 0, vI a1] S (fun r2 S1 =>
    (0 : Int) ≤ 0 ∧ (0 : Int) < 1 ∧
    Q 0 (q_up S1 62 0 r2)) (fun e T => bif Nat.beq 1 e then (Q 1 T) else bif Nat.beq 0 e then (Q 2 T) else Z e T)) : q_c 161 [vR 0, vI a1, vR 62] S Q Z := q_blk 14 h
-- LMLaw.symbol
theorem b_162_0 {Q : q_Q} {Z : q_Z} {a1 a2 : Int} {S : q_S} (h : q_c 6 [vR 0, vI a1, vI a2] S (fun r2 S1 =>
    (0 : Int) ≤ 0 ∧ (0 : Int) < 1 ∧
    Q 0 (q_up S1 62 0 r2)) (fun e T => bif Nat.beq 1 e then (Q 1 T) else bif Nat.beq 2 e then (Q 2 T) else Z e T)) : q_c 162 [vR 0, vI a1, vI a2, vR 62] S Q Z := q_blk 15 h
-- LMLaw.set
theorem b_163_0 {Q : q_Q} {Z : q_Z} {a1 a2 : Int} {S : q_S} (h : q_c 7 [vR 0, vI a1, vI a2] S (fun r2 S1 =>
    (0 : Int) ≤ 0 ∧ (0 : Int) < 1 ∧
    Q 0 (q_up S1 62 0 r2)) (fun e T => bif Nat.beq 1 e then (Q 1 T) else bif Nat.beq 0 e then (Q 2 T) else Z e T)) : q_c 163 [vR 0, vI a1, vI a2, vR 62] S Q Z := q_blk 15 h
-- LMLaw.item
theorem b_164_0 {Q : q_Q} {Z : q_Z} {a1 a2 : Int} {S : q_S} (h : q_c 8 [vR 0, vI a1, vI a2] S (fun r2 S1 =>
    (0 : Int) ≤ 0 ∧ (0 : Int) < 1 ∧
    Q 0 (q_up S1 62 0 r2)) (fun e T => bif Nat.beq 1 e then (Q 1 T) else bif Nat.beq 2 e then (Q 2 T) else Z e T)) : q_c 164 [vR 0, vI a1, vI a2, vR 62] S Q Z := q_blk 15 h
-- LMLaw.go
theorem b_165_0 {Q : q_Q} {Z : q_Z} {a1 a2 : Int} {S : q_S} (h : q_c 9 [vR 0, vI a1, vI a2] S (fun r2 S1 =>
    (0 : Int) ≤ 0 ∧ (0 : Int) < 1 ∧
    Q 0 (q_up S1 62 0 r2)) (fun e T => bif Nat.beq 1 e then (Q 1 T) else bif Nat.beq 2 e then (Q 2 T) else bif Nat.beq 0 e then (Q 3 T) else Z e T)) : q_c 165 [vR 0, vI a1, vI a2, vR 62] S Q Z := q_blk 17 h
-- LMLaw.behind
theorem b_166_0 {Q : q_Q} {Z : q_Z} {a1 a2 a3 : Int} {S : q_S} (h : q_c 10 [vR 0, vI a1, vI a2, vI a3] S (fun r2 S1 =>
    (0 : Int) ≤ 0 ∧ (0 : Int) < 1 ∧
    Q 0 (q_up S1 62 0 r2)) (fun e T => bif Nat.beq 1 e then (Q 1 T) else bif Nat.beq 2 e then (Q 2 T) else bif Nat.beq 0 e then (Q 3 T) else Z e T)) : q_c 166 [vR 0, vI a1, vI a2, vI a3, vR 62] S Q Z := q_blk 18 h
-- LMLaw.action
theorem b_167_0 {Q : q_Q} {Z : q_Z} {a1 a2 : Int} {S : q_S} (h : q_c 11 [vR 0, vI a1, vI a2] S (fun r2 S1 =>
    (0 : Int) ≤ 0 ∧ (0 : Int) < 1 ∧
    Q 0 (q_up S1 62 0 r2)) (fun e T => bif Nat.beq 1 e then (Q 1 T) else bif Nat.beq 2 e then (Q 2 T) else bif Nat.beq 0 e then (Q 3 T) else Z e T)) : q_c 167 [vR 0, vI a1, vI a2, vR 62] S Q Z := q_blk 17 h
-- LMLaw.unsettled
theorem b_168_0 {Q : q_Q} {Z : q_Z} {a1 : Int} {S : q_S} (h : q_c 12 [vR 0, vI a1] S (fun r2 S1 =>
    (0 : Int) ≤ 0 ∧ (0 : Int) < 1 ∧
    Q 0 (q_up S1 62 0 r2)) (fun e T => bif Nat.beq 1 e then (Q 1 T) else Z e T)) : q_c 168 [vR 0, vI a1, vR 62] S Q Z := q_blk 12 h
-- LMLaw.opn
theorem b_169_0 {Q : q_Q} {Z : q_Z} {a1 a2 : Int} {S : q_S} (h : q_c 13 [vR 0, vI a1, vI a2] S (fun _ S1 =>
    Q 0 S1) (fun e T => bif Nat.beq 1 e then (Q 1 T) else bif Nat.beq 0 e then (Q 2 T) else Z e T)) : q_c 169 [vR 0, vI a1, vI a2] S Q Z := q_blk 11 h
-- LMLaw.token
theorem b_170_0 {Q : q_Q} {Z : q_Z} {a1 : Int} {S : q_S} (h : q_c 14 [vR 0, vI a1] S (fun r2 S1 =>
    (0 : Int) ≤ 0 ∧ (0 : Int) < 1 ∧
    Q 0 (q_up S1 62 0 r2)) (fun e T => bif Nat.beq 1 e then (Q 1 T) else bif Nat.beq 0 e then (Q 2 T) else Z e T)) : q_c 170 [vR 0, vI a1, vR 62] S Q Z := q_blk 14 h
-- LMLaw.stack
theorem b_171_0 {Q : q_Q} {Z : q_Z} {a1 : Int} {S : q_S} (h : q_c 16 [vR 0, vI a1] S (fun r2 S1 =>
    (0 : Int) ≤ 0 ∧ (0 : Int) < 1 ∧
    Q 0 (q_up S1 62 0 r2)) (fun e T => bif Nat.beq 2 e then (Q 1 T) else Z e T)) : q_c 171 [vR 0, vI a1, vR 62] S Q Z := q_blk 12 h
-- LMLaw.expected
theorem b_172_0 {Q : q_Q} {Z : q_Z} {S : q_S} (h : q_c 17 [vR 0] S (fun r2 S1 =>
    (0 : Int) ≤ 0 ∧ (0 : Int) < 1 ∧
    Q 0 (q_up S1 62 0 r2)) (fun e T => bif Nat.beq 1 e then (Q 1 T) else Z e T)) : q_c 172 [vR 0, vR 62] S Q Z := q_blk 11 h
-- LMLaw.node
theorem b_173_0 {Q : q_Q} {Z : q_Z} {a1 a2 : Int} {S : q_S} (h : q_c 18 [vR 0, vI a1, vI a2] S (fun r2 S1 =>
    (0 : Int) ≤ 0 ∧ (0 : Int) < 1 ∧
    Q 0 (q_up S1 62 0 r2)) (fun e T => bif Nat.beq 2 e then (Q 1 T) else bif Nat.beq 0 e then (Q 2 T) else Z e T)) : q_c 173 [vR 0, vI a1, vI a2, vR 62] S Q Z := q_blk 15 h
-- LMLaw.child
theorem b_174_0 {Q : q_Q} {Z : q_Z} {a1 a2 : Int} {S : q_S} (h : q_c 19 [vR 0, vI a1, vI a2] S (fun r2 S1 =>
    (0 : Int) ≤ 0 ∧ (0 : Int) < 1 ∧
    Q 0 (q_up S1 62 0 r2)) (fun e T => bif Nat.beq 2 e then (Q 1 T) else Z e T)) : q_c 174 [vR 0, vI a1, vI a2, vR 62] S Q Z := q_blk 13 h
-- LMLaw.law
set_option maxRecDepth 20000 in
theorem b_175_23 {Q : q_Q} {Z : q_Z} {a4 : Int} {j5 j6 : q_J} {S : q_S} (h : q_rg ((S 64 0) - 4) ∧
  (a4 > ((S 64 0) - 4) →
    q_bo 1 ∧ Q 1 S) ∧
  (¬ a4 > ((S 64 0) - 4) →
    0 ≤ a4 ∧ a4 < S 64 0 ∧
    (((q_and (S 63 a4) 31) = 0 →
      q_rg (a4 + 1) ∧
      0 ≤ (a4 + 1) ∧ (a4 + 1) < S 64 0 ∧
      q_rg (a4 + 2) ∧
      0 ≤ (a4 + 2) ∧ (a4 + 2) < S 64 0 ∧
      q_c 0 [vR 0, vL (q_wor (q_wshl (S 63 (a4 + 1)) 32) (q_wand (S 63 (a4 + 2)) 4294967295))] S (fun r2 S1 =>
        q_rg (a4 + 1) ∧
        0 ≤ (a4 + 1) ∧ (a4 + 1) < S1 64 0 ∧
        q_rg (a4 + 2) ∧
        0 ≤ (a4 + 2) ∧ (a4 + 2) < S1 64 0 ∧
        q_c 32 [vR 36, vL (q_wor (q_wshl (S1 63 (a4 + 1)) 32) (q_wand (S1 63 (a4 + 2)) 4294967295))] S1 (fun r4 S3 =>
          (r2 = r4 →
            q_rg (a4 + 4) ∧
            q_r 175 23 [vR 63, vR 0, vR 36, vR 62, vI (a4 + 4), vJ j5, vJ j6] [] S3 Q Z) ∧
          (¬ r2 = r4 →
            q_bo 0 ∧ Q 0 S3)) Z) Z) ∧
    (((q_and (S 63 a4) 31) = 1 →
      q_c 1 [vR 0] S (fun r6 S5 =>
        q_c 33 [vR 36] S5 (fun r8 S7 =>
          (r6 = r8 →
            q_rg (a4 + 4) ∧
            q_r 175 23 [vR 63, vR 0, vR 36, vR 62, vI (a4 + 4), vJ j5, vJ j6] [] S7 Q Z) ∧
          (¬ r6 = r8 →
            q_bo 0 ∧ Q 0 S7)) Z) Z) ∧
    (((q_and (S 63 a4) 31) = 2 →
      q_c 2 [vR 0] S (fun r10 S9 =>
        q_c 40 [vR 36] S9 (fun r12 S11 =>
          (r10 = r12 →
            q_rg (a4 + 4) ∧
            q_r 175 23 [vR 63, vR 0, vR 36, vR 62, vI (a4 + 4), vJ j5, vJ j6] [] S11 Q Z) ∧
          (¬ r10 = r12 →
            q_bo 0 ∧ Q 0 S11)) Z) Z) ∧
    (((q_and (S 63 a4) 31) = 3 →
      q_c 3 [vR 0] S (fun r14 S13 =>
        q_c 41 [vR 36] S13 (fun r16 S15 =>
          (r14 = r16 →
            q_rg (a4 + 4) ∧
            q_r 175 23 [vR 63, vR 0, vR 36, vR 62, vI (a4 + 4), vJ j5, vJ j6] [] S15 Q Z) ∧
          (¬ r14 = r16 →
            q_bo 0 ∧ Q 0 S15)) Z) Z) ∧
    (((q_and (S 63 a4) 31) = 4 →
      q_rg (a4 + 1) ∧
      0 ≤ (a4 + 1) ∧ (a4 + 1) < S 64 0 ∧
      q_rg (a4 + 2) ∧
      0 ≤ (a4 + 2) ∧ (a4 + 2) < S 64 0 ∧
      q_rg (a4 + 3) ∧
      0 ≤ (a4 + 3) ∧ (a4 + 3) < S 64 0 ∧
      q_c 160 [vR 0, vI ((S 63 (a4 + 1)) % 65536), vI (S 63 (a4 + 2)), vI (S 63 (a4 + 3))] S (fun r18 S17 =>
        q_rg (a4 + 1) ∧
        0 ≤ (a4 + 1) ∧ (a4 + 1) < S17 64 0 ∧
        q_rg (a4 + 2) ∧
        0 ≤ (a4 + 2) ∧ (a4 + 2) < S17 64 0 ∧
        q_rg (a4 + 3) ∧
        0 ≤ (a4 + 3) ∧ (a4 + 3) < S17 64 0 ∧
        q_c 61 [vR 36, vI ((S17 63 (a4 + 1)) % 65536), vI (S17 63 (a4 + 2)), vI (S17 63 (a4 + 3))] S17 (fun _ S19 =>
          q_c 28 [vR 36] S19 (fun r22 S21 =>
            (r22 = r18 →
              q_rg (a4 + 4) ∧
              q_r 175 23 [vR 63, vR 0, vR 36, vR 62, vI (a4 + 4), vI r18, vJ j6] [] S21 Q Z) ∧
            (¬ r22 = r18 →
              q_bo 0 ∧ Q 0 S21)) Z) Z) Z) ∧
    (((q_and (S 63 a4) 31) = 5 →
      q_rg (a4 + 1) ∧
      0 ≤ (a4 + 1) ∧ (a4 + 1) < S 64 0 ∧
      q_c 161 [vR 0, vI (S 63 (a4 + 1)), vR 62] S (fun r24 S23 =>
        q_rg (a4 + 1) ∧
        0 ≤ (a4 + 1) ∧ (a4 + 1) < S23 64 0 ∧
        q_c 62 [vR 36, vI (S23 63 (a4 + 1))] S23 (fun r26 S25 =>
          q_c 28 [vR 36] S25 (fun r28 S27 =>
            (r28 = r24 →
              (r24 ≠ 0 →
                q_rg (a4 + 4) ∧
                q_r 175 23 [vR 63, vR 0, vR 36, vR 62, vI (a4 + 4), vI r24, vI r26] [] S27 Q Z) ∧
              (¬ r24 ≠ 0 →
                (0 : Int) ≤ 0 ∧ (0 : Int) < 1 ∧
                ((q_wcmp (S27 62 0) r26) = 0 →
                  q_rg (a4 + 4) ∧
                  q_r 175 23 [vR 63, vR 0, vR 36, vR 62, vI (a4 + 4), vI r24, vI r26] [] S27 Q Z) ∧
                (¬ (q_wcmp (S27 62 0) r26) = 0 →
                  q_bo 0 ∧ Q 0 S27))) ∧
            (¬ r28 = r24 →
              q_bo 0 ∧ Q 0 S27)) Z) Z) Z) ∧
    (((q_and (S 63 a4) 31) = 6 →
      q_rg (a4 + 1) ∧
      0 ≤ (a4 + 1) ∧ (a4 + 1) < S 64 0 ∧
      q_rg (a4 + 2) ∧
      0 ≤ (a4 + 2) ∧ (a4 + 2) < S 64 0 ∧
      q_c 162 [vR 0, vI (S 63 (a4 + 1)), vI (S 63 (a4 + 2)), vR 62] S (fun r30 S29 =>
        q_rg (a4 + 1) ∧
        0 ≤ (a4 + 1) ∧ (a4 + 1) < S29 64 0 ∧
        q_rg (a4 + 2) ∧
        0 ≤ (a4 + 2) ∧ (a4 + 2) < S29 64 0 ∧
        q_c 65 [vR 36, vI (S29 63 (a4 + 1)), vI (S29 63 (a4 + 2))] S29 (fun r32 S31 =>
          q_c 28 [vR 36] S31 (fun r34 S33 =>
            (r34 = r30 →
              (r30 ≠ 0 →
                q_rg (a4 + 4) ∧
                q_r 175 23 [vR 63, vR 0, vR 36, vR 62, vI (a4 + 4), vI r30, vI r32] [] S33 Q Z) ∧
              (¬ r30 ≠ 0 →
                (0 : Int) ≤ 0 ∧ (0 : Int) < 1 ∧
                ((q_wcmp (S33 62 0) r32) = 0 →
                  q_rg (a4 + 4) ∧
                  q_r 175 23 [vR 63, vR 0, vR 36, vR 62, vI (a4 + 4), vI r30, vI r32] [] S33 Q Z) ∧
                (¬ (q_wcmp (S33 62 0) r32) = 0 →
                  q_bo 0 ∧ Q 0 S33))) ∧
            (¬ r34 = r30 →
              q_bo 0 ∧ Q 0 S33)) Z) Z) Z) ∧
    (((q_and (S 63 a4) 31) = 7 →
      q_rg (a4 + 1) ∧
      0 ≤ (a4 + 1) ∧ (a4 + 1) < S 64 0 ∧
      q_rg (a4 + 2) ∧
      0 ≤ (a4 + 2) ∧ (a4 + 2) < S 64 0 ∧
      q_c 163 [vR 0, vI ((S 63 (a4 + 1)) % 65536), vI (S 63 (a4 + 2)), vR 62] S (fun r36 S35 =>
        q_rg (a4 + 1) ∧
        0 ≤ (a4 + 1) ∧ (a4 + 1) < S35 64 0 ∧
        q_rg (a4 + 2) ∧
        0 ≤ (a4 + 2) ∧ (a4 + 2) < S35 64 0 ∧
        q_c 66 [vR 36, vI ((S35 63 (a4 + 1)) % 65536), vI (S35 63 (a4 + 2))] S35 (fun r38 S37 =>
          q_c 28 [vR 36] S37 (fun r40 S39 =>
            (r40 = r36 →
              (r36 ≠ 0 →
                q_rg (a4 + 4) ∧
                q_r 175 23 [vR 63, vR 0, vR 36, vR 62, vI (a4 + 4), vI r36, vI r38] [] S39 Q Z) ∧
              (¬ r36 ≠ 0 →
                (0 : Int) ≤ 0 ∧ (0 : Int) < 1 ∧
                ((q_wcmp (S39 62 0) r38) = 0 →
                  q_rg (a4 + 4) ∧
                  q_r 175 23 [vR 63, vR 0, vR 36, vR 62, vI (a4 + 4), vI r36, vI r38] [] S39 Q Z) ∧
                (¬ (q_wcmp (S39 62 0) r38) = 0 →
                  q_bo 0 ∧ Q 0 S39))) ∧
            (¬ r40 = r36 →
              q_bo 0 ∧ Q 0 S39)) Z) Z) Z) ∧
    (((q_and (S 63 a4) 31) = 8 →
      q_rg (a4 + 1) ∧
      0 ≤ (a4 + 1) ∧ (a4 + 1) < S 64 0 ∧
      q_rg (a4 + 2) ∧
      0 ≤ (a4 + 2) ∧ (a4 + 2) < S 64 0 ∧
      q_c 164 [vR 0, vI (S 63 (a4 + 1)), vI (S 63 (a4 + 2)), vR 62] S (fun r42 S41 =>
        q_rg (a4 + 1) ∧
        0 ≤ (a4 + 1) ∧ (a4 + 1) < S41 64 0 ∧
        q_rg (a4 + 2) ∧
        0 ≤ (a4 + 2) ∧ (a4 + 2) < S41 64 0 ∧
        q_c 67 [vR 36, vI (S41 63 (a4 + 1)), vI (S41 63 (a4 + 2))] S41 (fun r44 S43 =>
          q_c 28 [vR 36] S43 (fun r46 S45 =>
            (r46 = r42 →
              (r42 ≠ 0 →
                q_rg (a4 + 4) ∧
                q_r 175 23 [vR 63, vR 0, vR 36, vR 62, vI (a4 + 4), vI r42, vI r44] [] S45 Q Z) ∧
              (¬ r42 ≠ 0 →
                (0 : Int) ≤ 0 ∧ (0 : Int) < 1 ∧
                ((q_wcmp (S45 62 0) r44) = 0 →
                  q_rg (a4 + 4) ∧
                  q_r 175 23 [vR 63, vR 0, vR 36, vR 62, vI (a4 + 4), vI r42, vI r44] [] S45 Q Z) ∧
                (¬ (q_wcmp (S45 62 0) r44) = 0 →
                  q_bo 0 ∧ Q 0 S45))) ∧
            (¬ r46 = r42 →
              q_bo 0 ∧ Q 0 S45)) Z) Z) Z) ∧
    (((q_and (S 63 a4) 31) = 9 →
      q_rg (a4 + 1) ∧
      0 ≤ (a4 + 1) ∧ (a4 + 1) < S 64 0 ∧
      q_rg (a4 + 2) ∧
      0 ≤ (a4 + 2) ∧ (a4 + 2) < S 64 0 ∧
      q_c 165 [vR 0, vI (S 63 (a4 + 1)), vI ((S 63 (a4 + 2)) % 65536), vR 62] S (fun r48 S47 =>
        q_rg (a4 + 1) ∧
        0 ≤ (a4 + 1) ∧ (a4 + 1) < S47 64 0 ∧
        q_rg (a4 + 2) ∧
        0 ≤ (a4 + 2) ∧ (a4 + 2) < S47 64 0 ∧
        q_c 68 [vR 36, vI (S47 63 (a4 + 1)), vI ((S47 63 (a4 + 2)) % 65536)] S47 (fun r50 S49 =>
          q_c 28 [vR 36] S49 (fun r52 S51 =>
            (r52 = r48 →
              (r48 ≠ 0 →
                q_rg (a4 + 4) ∧
                q_r 175 23 [vR 63, vR 0, vR 36, vR 62, vI (a4 + 4), vI r48, vI r50] [] S51 Q Z) ∧
              (¬ r48 ≠ 0 →
                (0 : Int) ≤ 0 ∧ (0 : Int) < 1 ∧
                ((q_wcmp (S51 62 0) r50) = 0 →
                  q_rg (a4 + 4) ∧
                  q_r 175 23 [vR 63, vR 0, vR 36, vR 62, vI (a4 + 4), vI r48, vI r50] [] S51 Q Z) ∧
                (¬ (q_wcmp (S51 62 0) r50) = 0 →
                  q_bo 0 ∧ Q 0 S51))) ∧
            (¬ r52 = r48 →
              q_bo 0 ∧ Q 0 S51)) Z) Z) Z) ∧
    (((q_and (S 63 a4) 31) = 10 →
      q_rg (a4 + 1) ∧
      0 ≤ (a4 + 1) ∧ (a4 + 1) < S 64 0 ∧
      q_rg (a4 + 2) ∧
      0 ≤ (a4 + 2) ∧ (a4 + 2) < S 64 0 ∧
      q_rg (a4 + 3) ∧
      0 ≤ (a4 + 3) ∧ (a4 + 3) < S 64 0 ∧
      q_c 166 [vR 0, vI (S 63 (a4 + 1)), vI (S 63 (a4 + 2)), vI (S 63 (a4 + 3)), vR 62] S (fun r54 S53 =>
        q_rg (a4 + 1) ∧
        0 ≤ (a4 + 1) ∧ (a4 + 1) < S53 64 0 ∧
        q_rg (a4 + 2) ∧
        0 ≤ (a4 + 2) ∧ (a4 + 2) < S53 64 0 ∧
        q_rg (a4 + 3) ∧
        0 ≤ (a4 + 3) ∧ (a4 + 3) < S53 64 0 ∧
        q_c 69 [vR 36, vI (S53 63 (a4 + 1)), vI (S53 63 (a4 + 2)), vI (S53 63 (a4 + 3))] S53 (fun r56 S55 =>
          q_c 28 [vR 36] S55 (fun r58 S57 =>
            (r58 = r54 →
              (r54 ≠ 0 →
                q_rg (a4 + 4) ∧
                q_r 175 23 [vR 63, vR 0, vR 36, vR 62, vI (a4 + 4), vI r54, vI r56] [] S57 Q Z) ∧
              (¬ r54 ≠ 0 →
                (0 : Int) ≤ 0 ∧ (0 : Int) < 1 ∧
                ((q_wcmp (S57 62 0) r56) = 0 →
                  q_rg (a4 + 4) ∧
                  q_r 175 23 [vR 63, vR 0, vR 36, vR 62, vI (a4 + 4), vI r54, vI r56] [] S57 Q Z) ∧
                (¬ (q_wcmp (S57 62 0) r56) = 0 →
                  q_bo 0 ∧ Q 0 S57))) ∧
            (¬ r58 = r54 →
              q_bo 0 ∧ Q 0 S57)) Z) Z) Z) ∧
    (((q_and (S 63 a4) 31) = 11 →
      q_rg (a4 + 1) ∧
      0 ≤ (a4 + 1) ∧ (a4 + 1) < S 64 0 ∧
      q_rg (a4 + 2) ∧
      0 ≤ (a4 + 2) ∧ (a4 + 2) < S 64 0 ∧
      q_c 167 [vR 0, vI (S 63 (a4 + 1)), vI ((S 63 (a4 + 2)) % 65536), vR 62] S (fun r60 S59 =>
        q_rg (a4 + 1) ∧
        0 ≤ (a4 + 1) ∧ (a4 + 1) < S59 64 0 ∧
        q_rg (a4 + 2) ∧
        0 ≤ (a4 + 2) ∧ (a4 + 2) < S59 64 0 ∧
        q_c 70 [vR 36, vI (S59 63 (a4 + 1)), vI ((S59 63 (a4 + 2)) % 65536)] S59 (fun r62 S61 =>
          q_c 28 [vR 36] S61 (fun r64 S63 =>
            (r64 = r60 →
              (r60 ≠ 0 →
                q_rg (a4 + 4) ∧
                q_r 175 23 [vR 63, vR 0, vR 36, vR 62, vI (a4 + 4), vI r60, vI r62] [] S63 Q Z) ∧
              (¬ r60 ≠ 0 →
                (0 : Int) ≤ 0 ∧ (0 : Int) < 1 ∧
                ((q_wcmp (S63 62 0) r62) = 0 →
                  q_rg (a4 + 4) ∧
                  q_r 175 23 [vR 63, vR 0, vR 36, vR 62, vI (a4 + 4), vI r60, vI r62] [] S63 Q Z) ∧
                (¬ (q_wcmp (S63 62 0) r62) = 0 →
                  q_bo 0 ∧ Q 0 S63))) ∧
            (¬ r64 = r60 →
              q_bo 0 ∧ Q 0 S63)) Z) Z) Z) ∧
    (((q_and (S 63 a4) 31) = 12 →
      q_rg (a4 + 1) ∧
      0 ≤ (a4 + 1) ∧ (a4 + 1) < S 64 0 ∧
      q_c 168 [vR 0, vI (S 63 (a4 + 1)), vR 62] S (fun r66 S65 =>
        q_rg (a4 + 1) ∧
        0 ≤ (a4 + 1) ∧ (a4 + 1) < S65 64 0 ∧
        q_c 71 [vR 36, vI (S65 63 (a4 + 1))] S65 (fun r68 S67 =>
          q_c 28 [vR 36] S67 (fun r70 S69 =>
            (r70 = r66 →
              (r66 ≠ 0 →
                q_rg (a4 + 4) ∧
                q_r 175 23 [vR 63, vR 0, vR 36, vR 62, vI (a4 + 4), vI r66, vI r68] [] S69 Q Z) ∧
              (¬ r66 ≠ 0 →
                (0 : Int) ≤ 0 ∧ (0 : Int) < 1 ∧
                ((q_wcmp (S69 62 0) r68) = 0 →
                  q_rg (a4 + 4) ∧
                  q_r 175 23 [vR 63, vR 0, vR 36, vR 62, vI (a4 + 4), vI r66, vI r68] [] S69 Q Z) ∧
                (¬ (q_wcmp (S69 62 0) r68) = 0 →
                  q_bo 0 ∧ Q 0 S69))) ∧
            (¬ r70 = r66 →
              q_bo 0 ∧ Q 0 S69)) Z) Z) Z) ∧
    (((q_and (S 63 a4) 31) = 13 →
      q_rg (a4 + 1) ∧
      0 ≤ (a4 + 1) ∧ (a4 + 1) < S 64 0 ∧
      q_rg (a4 + 2) ∧
      0 ≤ (a4 + 2) ∧ (a4 + 2) < S 64 0 ∧
      q_c 169 [vR 0, vI (S 63 (a4 + 1)), vI (S 63 (a4 + 2))] S (fun r72 S71 =>
        q_rg (a4 + 1) ∧
        0 ≤ (a4 + 1) ∧ (a4 + 1) < S71 64 0 ∧
        q_rg (a4 + 2) ∧
        0 ≤ (a4 + 2) ∧ (a4 + 2) < S71 64 0 ∧
        q_c 72 [vR 36, vI (S71 63 (a4 + 1)), vI (S71 63 (a4 + 2))] S71 (fun _ S73 =>
          q_c 28 [vR 36] S73 (fun r76 S75 =>
            (r76 = r72 →
              q_rg (a4 + 4) ∧
              q_r 175 23 [vR 63, vR 0, vR 36, vR 62, vI (a4 + 4), vI r72, vJ j6] [] S75 Q Z) ∧
            (¬ r76 = r72 →
              q_bo 0 ∧ Q 0 S75)) Z) Z) Z) ∧
    (((q_and (S 63 a4) 31) = 14 →
      q_rg (a4 + 1) ∧
      0 ≤ (a4 + 1) ∧ (a4 + 1) < S 64 0 ∧
      q_c 170 [vR 0, vI ((S 63 (a4 + 1)) % 65536), vR 62] S (fun r78 S77 =>
        q_rg (a4 + 1) ∧
        0 ≤ (a4 + 1) ∧ (a4 + 1) < S77 64 0 ∧
        q_c 75 [vR 36, vI ((S77 63 (a4 + 1)) % 65536)] S77 (fun r80 S79 =>
          q_c 28 [vR 36] S79 (fun r82 S81 =>
            (r82 = r78 →
              (r78 ≠ 0 →
                q_rg (a4 + 4) ∧
                q_r 175 23 [vR 63, vR 0, vR 36, vR 62, vI (a4 + 4), vI r78, vI r80] [] S81 Q Z) ∧
              (¬ r78 ≠ 0 →
                (0 : Int) ≤ 0 ∧ (0 : Int) < 1 ∧
                ((q_wcmp (S81 62 0) r80) = 0 →
                  q_rg (a4 + 4) ∧
                  q_r 175 23 [vR 63, vR 0, vR 36, vR 62, vI (a4 + 4), vI r78, vI r80] [] S81 Q Z) ∧
                (¬ (q_wcmp (S81 62 0) r80) = 0 →
                  q_bo 0 ∧ Q 0 S81))) ∧
            (¬ r82 = r78 →
              q_bo 0 ∧ Q 0 S81)) Z) Z) Z) ∧
    (((q_and (S 63 a4) 31) = 15 →
      q_rg (a4 + 1) ∧
      0 ≤ (a4 + 1) ∧ (a4 + 1) < S 64 0 ∧
      q_c 15 [vR 0, vI (S 63 (a4 + 1))] S (fun r84 S83 =>
        q_rg (a4 + 1) ∧
        0 ≤ (a4 + 1) ∧ (a4 + 1) < S83 64 0 ∧
        q_c 76 [vR 36, vI (S83 63 (a4 + 1))] S83 (fun r86 S85 =>
          (r84 = r86 →
            q_rg (a4 + 4) ∧
            q_r 175 23 [vR 63, vR 0, vR 36, vR 62, vI (a4 + 4), vJ j5, vJ j6] [] S85 Q Z) ∧
          (¬ r84 = r86 →
            q_bo 0 ∧ Q 0 S85)) Z) Z) ∧
    (((q_and (S 63 a4) 31) = 16 →
      q_rg (a4 + 1) ∧
      0 ≤ (a4 + 1) ∧ (a4 + 1) < S 64 0 ∧
      q_c 171 [vR 0, vI (S 63 (a4 + 1)), vR 62] S (fun r88 S87 =>
        q_rg (a4 + 1) ∧
        0 ≤ (a4 + 1) ∧ (a4 + 1) < S87 64 0 ∧
        q_c 77 [vR 36, vI (S87 63 (a4 + 1))] S87 (fun r90 S89 =>
          q_c 28 [vR 36] S89 (fun r92 S91 =>
            (r92 = r88 →
              (r88 ≠ 0 →
                q_rg (a4 + 4) ∧
                q_r 175 23 [vR 63, vR 0, vR 36, vR 62, vI (a4 + 4), vI r88, vI r90] [] S91 Q Z) ∧
              (¬ r88 ≠ 0 →
                (0 : Int) ≤ 0 ∧ (0 : Int) < 1 ∧
                ((q_wcmp (S91 62 0) r90) = 0 →
                  q_rg (a4 + 4) ∧
                  q_r 175 23 [vR 63, vR 0, vR 36, vR 62, vI (a4 + 4), vI r88, vI r90] [] S91 Q Z) ∧
                (¬ (q_wcmp (S91 62 0) r90) = 0 →
                  q_bo 0 ∧ Q 0 S91))) ∧
            (¬ r92 = r88 →
              q_bo 0 ∧ Q 0 S91)) Z) Z) Z) ∧
    (((q_and (S 63 a4) 31) = 17 →
      q_c 172 [vR 0, vR 62] S (fun r94 S93 =>
        q_c 78 [vR 36] S93 (fun r96 S95 =>
          q_c 28 [vR 36] S95 (fun r98 S97 =>
            (r98 = r94 →
              (r94 ≠ 0 →
                q_rg (a4 + 4) ∧
                q_r 175 23 [vR 63, vR 0, vR 36, vR 62, vI (a4 + 4), vI r94, vI r96] [] S97 Q Z) ∧
              (¬ r94 ≠ 0 →
                (0 : Int) ≤ 0 ∧ (0 : Int) < 1 ∧
                ((q_wcmp (S97 62 0) r96) = 0 →
                  q_rg (a4 + 4) ∧
                  q_r 175 23 [vR 63, vR 0, vR 36, vR 62, vI (a4 + 4), vI r94, vI r96] [] S97 Q Z) ∧
                (¬ (q_wcmp (S97 62 0) r96) = 0 →
                  q_bo 0 ∧ Q 0 S97))) ∧
            (¬ r98 = r94 →
              q_bo 0 ∧ Q 0 S97)) Z) Z) Z) ∧
    (((q_and (S 63 a4) 31) = 18 →
      q_rg (a4 + 1) ∧
      0 ≤ (a4 + 1) ∧ (a4 + 1) < S 64 0 ∧
      q_rg (a4 + 2) ∧
      0 ≤ (a4 + 2) ∧ (a4 + 2) < S 64 0 ∧
      q_c 173 [vR 0, vI (S 63 (a4 + 1)), vI (S 63 (a4 + 2)), vR 62] S (fun r100 S99 =>
        q_rg (a4 + 1) ∧
        0 ≤ (a4 + 1) ∧ (a4 + 1) < S99 64 0 ∧
        q_rg (a4 + 2) ∧
        0 ≤ (a4 + 2) ∧ (a4 + 2) < S99 64 0 ∧
        q_c 79 [vR 36, vI (S99 63 (a4 + 1)), vI (S99 63 (a4 + 2))] S99 (fun r102 S101 =>
          q_c 28 [vR 36] S101 (fun r104 S103 =>
            (r104 = r100 →
              (r100 ≠ 0 →
                q_rg (a4 + 4) ∧
                q_r 175 23 [vR 63, vR 0, vR 36, vR 62, vI (a4 + 4), vI r100, vI r102] [] S103 Q Z) ∧
              (¬ r100 ≠ 0 →
                (0 : Int) ≤ 0 ∧ (0 : Int) < 1 ∧
                ((q_wcmp (S103 62 0) r102) = 0 →
                  q_rg (a4 + 4) ∧
                  q_r 175 23 [vR 63, vR 0, vR 36, vR 62, vI (a4 + 4), vI r100, vI r102] [] S103 Q Z) ∧
                (¬ (q_wcmp (S103 62 0) r102) = 0 →
                  q_bo 0 ∧ Q 0 S103))) ∧
            (¬ r104 = r100 →
              q_bo 0 ∧ Q 0 S103)) Z) Z) Z) ∧
    (((q_and (S 63 a4) 31) = 19 →
      q_rg (a4 + 1) ∧
      0 ≤ (a4 + 1) ∧ (a4 + 1) < S 64 0 ∧
      q_rg (a4 + 2) ∧
      0 ≤ (a4 + 2) ∧ (a4 + 2) < S 64 0 ∧
      q_c 174 [vR 0, vI (S 63 (a4 + 1)), vI (S 63 (a4 + 2)), vR 62] S (fun r106 S105 =>
        q_rg (a4 + 1) ∧
        0 ≤ (a4 + 1) ∧ (a4 + 1) < S105 64 0 ∧
        q_rg (a4 + 2) ∧
        0 ≤ (a4 + 2) ∧ (a4 + 2) < S105 64 0 ∧
        q_c 80 [vR 36, vI (S105 63 (a4 + 1)), vI (S105 63 (a4 + 2))] S105 (fun r108 S107 =>
          q_c 28 [vR 36] S107 (fun r110 S109 =>
            (r110 = r106 →
              (r106 ≠ 0 →
                q_rg (a4 + 4) ∧
                q_r 175 23 [vR 63, vR 0, vR 36, vR 62, vI (a4 + 4), vI r106, vI r108] [] S109 Q Z) ∧
              (¬ r106 ≠ 0 →
                (0 : Int) ≤ 0 ∧ (0 : Int) < 1 ∧
                ((q_wcmp (S109 62 0) r108) = 0 →
                  q_rg (a4 + 4) ∧
                  q_r 175 23 [vR 63, vR 0, vR 36, vR 62, vI (a4 + 4), vI r106, vI r108] [] S109 Q Z) ∧
                (¬ (q_wcmp (S109 62 0) r108) = 0 →
                  q_bo 0 ∧ Q 0 S109))) ∧
            (¬ r110 = r106 →
              q_bo 0 ∧ Q 0 S109)) Z) Z) Z) ∧
    True)))))))))))))))))))) ∧
    (((q_and (S 63 a4) 31) < 0 ∨ 19 < (q_and (S 63 a4) 31)) →
      q_rg (a4 + 4) ∧
      q_r 175 23 [vR 63, vR 0, vR 36, vR 62, vI (a4 + 4), vJ j5, vJ j6] [] S Q Z))) : q_r 175 23 [vR 63, vR 0, vR 36, vR 62, vI a4, vJ j5, vJ j6] [] S Q Z := q_blk 793 h
end
