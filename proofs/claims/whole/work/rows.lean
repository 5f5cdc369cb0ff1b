section
-- ===== PART A: goes FIRST, ahead of the names: the tables' words, and 'selects' of the private methods out of them =====
/-- a private method of a class that the tables say can be made, by its rows of tables_1 -/
def lw_okq (q : MethodName × Nat) : Prop := (q.1.cls ≠ "java/lang/invoke/MethodHandle" ∧ q.1.cls ≠ "java/lang/invoke/VarHandle") ∧ Cond.instantiable q.1.cls q.2 ∈ tables_1 ∧ Cond.privateMethod q.1 ∈ tables_1 ∧ Cond.instanceMethod q.1 ∈ tables_1
theorem lw_p0 : lw_okq (⟨"DeedProofs", "readTape", "(LDeedProofs$Text;)I"⟩, 7) := ⟨⟨by decide +kernel, by decide +kernel⟩, List.mem_of_getElem? (i := 23) (by decide +kernel), List.mem_of_getElem? (i := 349) (by decide +kernel), List.mem_of_getElem? (i := 350) (by decide +kernel)⟩
theorem lw_p1 : lw_okq (⟨"DeedProofs$RuleReader", "read", "([BILDeedProofs$Text;)I"⟩, 5) := ⟨⟨by decide +kernel, by decide +kernel⟩, List.mem_of_getElem? (i := 255) (by decide +kernel), List.mem_of_getElem? (i := 353) (by decide +kernel), List.mem_of_getElem? (i := 354) (by decide +kernel)⟩
theorem lw_p2 : lw_okq (⟨"DeedProofs$RuleReader", "readParts", "()Z"⟩, 5) := ⟨⟨by decide +kernel, by decide +kernel⟩, List.mem_of_getElem? (i := 255) (by decide +kernel), List.mem_of_getElem? (i := 357) (by decide +kernel), List.mem_of_getElem? (i := 358) (by decide +kernel)⟩
theorem lw_p3 : lw_okq (⟨"DeedProofs$RuleReader", "readPart", "()Z"⟩, 5) := ⟨⟨by decide +kernel, by decide +kernel⟩, List.mem_of_getElem? (i := 255) (by decide +kernel), List.mem_of_getElem? (i := 361) (by decide +kernel), List.mem_of_getElem? (i := 362) (by decide +kernel)⟩
theorem lw_p4 : lw_okq (⟨"DeedProofs$RuleReader", "placeIn", "(Ljava/lang/String;)I"⟩, 5) := ⟨⟨by decide +kernel, by decide +kernel⟩, List.mem_of_getElem? (i := 255) (by decide +kernel), List.mem_of_getElem? (i := 366) (by decide +kernel), List.mem_of_getElem? (i := 367) (by decide +kernel)⟩
theorem lw_p5 : lw_okq (⟨"DeedProofs$RuleReader", "readTerm", "(I)Z"⟩, 5) := ⟨⟨by decide +kernel, by decide +kernel⟩, List.mem_of_getElem? (i := 255) (by decide +kernel), List.mem_of_getElem? (i := 418) (by decide +kernel), List.mem_of_getElem? (i := 419) (by decide +kernel)⟩
theorem lw_p6 : lw_okq (⟨"DeedProofs$RuleReader", "skip", "(C)Z"⟩, 5) := ⟨⟨by decide +kernel, by decide +kernel⟩, List.mem_of_getElem? (i := 255) (by decide +kernel), List.mem_of_getElem? (i := 422) (by decide +kernel), List.mem_of_getElem? (i := 423) (by decide +kernel)⟩
theorem lw_p7 : lw_okq (⟨"DeedProofs$RuleReader", "readArg", "(Z)I"⟩, 5) := ⟨⟨by decide +kernel, by decide +kernel⟩, List.mem_of_getElem? (i := 255) (by decide +kernel), List.mem_of_getElem? (i := 426) (by decide +kernel), List.mem_of_getElem? (i := 427) (by decide +kernel)⟩
theorem lw_p8 : lw_okq (⟨"DeedProofs$RuleReader", "readTest", "(I)Z"⟩, 5) := ⟨⟨by decide +kernel, by decide +kernel⟩, List.mem_of_getElem? (i := 255) (by decide +kernel), List.mem_of_getElem? (i := 431) (by decide +kernel), List.mem_of_getElem? (i := 432) (by decide +kernel)⟩
theorem lw_p9 : lw_okq (⟨"DeedProofs$Book", "has", "(II)Z"⟩, 18) := ⟨⟨by decide +kernel, by decide +kernel⟩, List.mem_of_getElem? (i := 31) (by decide +kernel), List.mem_of_getElem? (i := 440) (by decide +kernel), List.mem_of_getElem? (i := 441) (by decide +kernel)⟩
theorem lw_p10 : lw_okq (⟨"DeedProofs$Book", "changeOn", "(II)I"⟩, 18) := ⟨⟨by decide +kernel, by decide +kernel⟩, List.mem_of_getElem? (i := 31) (by decide +kernel), List.mem_of_getElem? (i := 451) (by decide +kernel), List.mem_of_getElem? (i := 452) (by decide +kernel)⟩
theorem lw_p11 : lw_okq (⟨"DeedProofs$Book", "textOn", "(II)LDeedProofs$Text;"⟩, 18) := ⟨⟨by decide +kernel, by decide +kernel⟩, List.mem_of_getElem? (i := 31) (by decide +kernel), List.mem_of_getElem? (i := 455) (by decide +kernel), List.mem_of_getElem? (i := 456) (by decide +kernel)⟩
theorem lw_p12 : lw_okq (⟨"DeedProofs$Book", "isTrue", "(I)Z"⟩, 18) := ⟨⟨by decide +kernel, by decide +kernel⟩, List.mem_of_getElem? (i := 31) (by decide +kernel), List.mem_of_getElem? (i := 474) (by decide +kernel), List.mem_of_getElem? (i := 475) (by decide +kernel)⟩
theorem lw_p13 : lw_okq (⟨"DeedProofs$Reach", "spread", "(IIZ)V"⟩, 8) := ⟨⟨by decide +kernel, by decide +kernel⟩, List.mem_of_getElem? (i := 190) (by decide +kernel), List.mem_of_getElem? (i := 487) (by decide +kernel), List.mem_of_getElem? (i := 488) (by decide +kernel)⟩
theorem lw_p14 : lw_okq (⟨"DeedProofs$Reach", "begin", "(IZ)V"⟩, 8) := ⟨⟨by decide +kernel, by decide +kernel⟩, List.mem_of_getElem? (i := 190) (by decide +kernel), List.mem_of_getElem? (i := 491) (by decide +kernel), List.mem_of_getElem? (i := 492) (by decide +kernel)⟩
theorem lw_p15 : lw_okq (⟨"DeedProofs$Reach", "arrive", "(II)V"⟩, 8) := ⟨⟨by decide +kernel, by decide +kernel⟩, List.mem_of_getElem? (i := 190) (by decide +kernel), List.mem_of_getElem? (i := 495) (by decide +kernel), List.mem_of_getElem? (i := 496) (by decide +kernel)⟩
def lw_privs_1 : List (MethodName × Nat) := [(⟨"DeedProofs", "readTape", "(LDeedProofs$Text;)I"⟩, 7), (⟨"DeedProofs$RuleReader", "read", "([BILDeedProofs$Text;)I"⟩, 5), (⟨"DeedProofs$RuleReader", "readParts", "()Z"⟩, 5), (⟨"DeedProofs$RuleReader", "readPart", "()Z"⟩, 5), (⟨"DeedProofs$RuleReader", "placeIn", "(Ljava/lang/String;)I"⟩, 5), (⟨"DeedProofs$RuleReader", "readTerm", "(I)Z"⟩, 5), (⟨"DeedProofs$RuleReader", "skip", "(C)Z"⟩, 5), (⟨"DeedProofs$RuleReader", "readArg", "(Z)I"⟩, 5), (⟨"DeedProofs$RuleReader", "readTest", "(I)Z"⟩, 5), (⟨"DeedProofs$Book", "has", "(II)Z"⟩, 18), (⟨"DeedProofs$Book", "changeOn", "(II)I"⟩, 18), (⟨"DeedProofs$Book", "textOn", "(II)LDeedProofs$Text;"⟩, 18), (⟨"DeedProofs$Book", "isTrue", "(I)Z"⟩, 18), (⟨"DeedProofs$Reach", "spread", "(IIZ)V"⟩, 8), (⟨"DeedProofs$Reach", "begin", "(IZ)V"⟩, 8), (⟨"DeedProofs$Reach", "arrive", "(II)V"⟩, 8)]
theorem lw_r1 : ∀ q ∈ lw_privs_1, lw_okq q := List.forall_mem_cons.mpr ⟨lw_p0, List.forall_mem_cons.mpr ⟨lw_p1, List.forall_mem_cons.mpr ⟨lw_p2, List.forall_mem_cons.mpr ⟨lw_p3, List.forall_mem_cons.mpr ⟨lw_p4, List.forall_mem_cons.mpr ⟨lw_p5, List.forall_mem_cons.mpr ⟨lw_p6, List.forall_mem_cons.mpr ⟨lw_p7, List.forall_mem_cons.mpr ⟨lw_p8, List.forall_mem_cons.mpr ⟨lw_p9, List.forall_mem_cons.mpr ⟨lw_p10, List.forall_mem_cons.mpr ⟨lw_p11, List.forall_mem_cons.mpr ⟨lw_p12, List.forall_mem_cons.mpr ⟨lw_p13, List.forall_mem_cons.mpr ⟨lw_p14, List.forall_mem_cons.mpr ⟨lw_p15, fun _ h => absurd h List.not_mem_nil⟩⟩⟩⟩⟩⟩⟩⟩⟩⟩⟩⟩⟩⟩⟩⟩
theorem lw_p16 : lw_okq (⟨"DeedProofs$Reach", "bringLeast", "(I)V"⟩, 8) := ⟨⟨by decide +kernel, by decide +kernel⟩, List.mem_of_getElem? (i := 190) (by decide +kernel), List.mem_of_getElem? (i := 500) (by decide +kernel), List.mem_of_getElem? (i := 501) (by decide +kernel)⟩
theorem lw_p17 : lw_okq (⟨"DeedProofs$Reach", "useIn", "(LDeedProofs$Text;I)V"⟩, 8) := ⟨⟨by decide +kernel, by decide +kernel⟩, List.mem_of_getElem? (i := 190) (by decide +kernel), List.mem_of_getElem? (i := 504) (by decide +kernel), List.mem_of_getElem? (i := 505) (by decide +kernel)⟩
theorem lw_p18 : lw_okq (⟨"DeedProofs$Reach", "bind", "(LDeedProofs$Text;II)Z"⟩, 8) := ⟨⟨by decide +kernel, by decide +kernel⟩, List.mem_of_getElem? (i := 190) (by decide +kernel), List.mem_of_getElem? (i := 508) (by decide +kernel), List.mem_of_getElem? (i := 509) (by decide +kernel)⟩
theorem lw_p19 : lw_okq (⟨"DeedProofs$Reach", "bindArg", "(II)Z"⟩, 8) := ⟨⟨by decide +kernel, by decide +kernel⟩, List.mem_of_getElem? (i := 190) (by decide +kernel), List.mem_of_getElem? (i := 512) (by decide +kernel), List.mem_of_getElem? (i := 513) (by decide +kernel)⟩
theorem lw_p20 : lw_okq (⟨"DeedProofs$Reach", "complete", "(LDeedProofs$Text;I)V"⟩, 8) := ⟨⟨by decide +kernel, by decide +kernel⟩, List.mem_of_getElem? (i := 190) (by decide +kernel), List.mem_of_getElem? (i := 516) (by decide +kernel), List.mem_of_getElem? (i := 517) (by decide +kernel)⟩
theorem lw_p21 : lw_okq (⟨"DeedProofs$Text", "hasInTerms", "(I)Z"⟩, 5) := ⟨⟨by decide +kernel, by decide +kernel⟩, List.mem_of_getElem? (i := 38) (by decide +kernel), List.mem_of_getElem? (i := 520) (by decide +kernel), List.mem_of_getElem? (i := 521) (by decide +kernel)⟩
theorem lw_p22 : lw_okq (⟨"DeedProofs$Reach", "conclude", "(LDeedProofs$Text;)V"⟩, 8) := ⟨⟨by decide +kernel, by decide +kernel⟩, List.mem_of_getElem? (i := 190) (by decide +kernel), List.mem_of_getElem? (i := 524) (by decide +kernel), List.mem_of_getElem? (i := 525) (by decide +kernel)⟩
theorem lw_p23 : lw_okq (⟨"DeedProofs$Text", "testsHold", "([I)Z"⟩, 5) := ⟨⟨by decide +kernel, by decide +kernel⟩, List.mem_of_getElem? (i := 38) (by decide +kernel), List.mem_of_getElem? (i := 528) (by decide +kernel), List.mem_of_getElem? (i := 529) (by decide +kernel)⟩
theorem lw_p24 : lw_okq (⟨"DeedProofs$Text", "factOf", "(I[I)I"⟩, 5) := ⟨⟨by decide +kernel, by decide +kernel⟩, List.mem_of_getElem? (i := 38) (by decide +kernel), List.mem_of_getElem? (i := 532) (by decide +kernel), List.mem_of_getElem? (i := 533) (by decide +kernel)⟩
theorem lw_p25 : lw_okq (⟨"DeedProofs$Reach", "has", "(I)Z"⟩, 8) := ⟨⟨by decide +kernel, by decide +kernel⟩, List.mem_of_getElem? (i := 190) (by decide +kernel), List.mem_of_getElem? (i := 543) (by decide +kernel), List.mem_of_getElem? (i := 544) (by decide +kernel)⟩
theorem lw_p26 : lw_okq (⟨"DeedProofs$Book", "isTitled", "(I)Z"⟩, 18) := ⟨⟨by decide +kernel, by decide +kernel⟩, List.mem_of_getElem? (i := 31) (by decide +kernel), List.mem_of_getElem? (i := 562) (by decide +kernel), List.mem_of_getElem? (i := 563) (by decide +kernel)⟩
theorem lw_p27 : lw_okq (⟨"DeedProofs$Book", "isUsed", "(I)Z"⟩, 18) := ⟨⟨by decide +kernel, by decide +kernel⟩, List.mem_of_getElem? (i := 31) (by decide +kernel), List.mem_of_getElem? (i := 566) (by decide +kernel), List.mem_of_getElem? (i := 567) (by decide +kernel)⟩
theorem lw_p28 : lw_okq (⟨"DeedProofs$Book", "takesEnds", "(I)Z"⟩, 18) := ⟨⟨by decide +kernel, by decide +kernel⟩, List.mem_of_getElem? (i := 31) (by decide +kernel), List.mem_of_getElem? (i := 570) (by decide +kernel), List.mem_of_getElem? (i := 571) (by decide +kernel)⟩
theorem lw_p29 : lw_okq (⟨"DeedProofs$Book", "countSources", "(II)I"⟩, 18) := ⟨⟨by decide +kernel, by decide +kernel⟩, List.mem_of_getElem? (i := 31) (by decide +kernel), List.mem_of_getElem? (i := 574) (by decide +kernel), List.mem_of_getElem? (i := 575) (by decide +kernel)⟩
theorem lw_p30 : lw_okq (⟨"DeedProofs$Book", "rowOf", "(II)I"⟩, 18) := ⟨⟨by decide +kernel, by decide +kernel⟩, List.mem_of_getElem? (i := 31) (by decide +kernel), List.mem_of_getElem? (i := 578) (by decide +kernel), List.mem_of_getElem? (i := 579) (by decide +kernel)⟩
theorem lw_p31 : lw_okq (⟨"DeedProofs$Book", "hasStep", "(II)Z"⟩, 18) := ⟨⟨by decide +kernel, by decide +kernel⟩, List.mem_of_getElem? (i := 31) (by decide +kernel), List.mem_of_getElem? (i := 587) (by decide +kernel), List.mem_of_getElem? (i := 588) (by decide +kernel)⟩
def lw_privs_2 : List (MethodName × Nat) := [(⟨"DeedProofs$Reach", "bringLeast", "(I)V"⟩, 8), (⟨"DeedProofs$Reach", "useIn", "(LDeedProofs$Text;I)V"⟩, 8), (⟨"DeedProofs$Reach", "bind", "(LDeedProofs$Text;II)Z"⟩, 8), (⟨"DeedProofs$Reach", "bindArg", "(II)Z"⟩, 8), (⟨"DeedProofs$Reach", "complete", "(LDeedProofs$Text;I)V"⟩, 8), (⟨"DeedProofs$Text", "hasInTerms", "(I)Z"⟩, 5), (⟨"DeedProofs$Reach", "conclude", "(LDeedProofs$Text;)V"⟩, 8), (⟨"DeedProofs$Text", "testsHold", "([I)Z"⟩, 5), (⟨"DeedProofs$Text", "factOf", "(I[I)I"⟩, 5), (⟨"DeedProofs$Reach", "has", "(I)Z"⟩, 8), (⟨"DeedProofs$Book", "isTitled", "(I)Z"⟩, 18), (⟨"DeedProofs$Book", "isUsed", "(I)Z"⟩, 18), (⟨"DeedProofs$Book", "takesEnds", "(I)Z"⟩, 18), (⟨"DeedProofs$Book", "countSources", "(II)I"⟩, 18), (⟨"DeedProofs$Book", "rowOf", "(II)I"⟩, 18), (⟨"DeedProofs$Book", "hasStep", "(II)Z"⟩, 18)]
theorem lw_r2 : ∀ q ∈ lw_privs_2, lw_okq q := List.forall_mem_cons.mpr ⟨lw_p16, List.forall_mem_cons.mpr ⟨lw_p17, List.forall_mem_cons.mpr ⟨lw_p18, List.forall_mem_cons.mpr ⟨lw_p19, List.forall_mem_cons.mpr ⟨lw_p20, List.forall_mem_cons.mpr ⟨lw_p21, List.forall_mem_cons.mpr ⟨lw_p22, List.forall_mem_cons.mpr ⟨lw_p23, List.forall_mem_cons.mpr ⟨lw_p24, List.forall_mem_cons.mpr ⟨lw_p25, List.forall_mem_cons.mpr ⟨lw_p26, List.forall_mem_cons.mpr ⟨lw_p27, List.forall_mem_cons.mpr ⟨lw_p28, List.forall_mem_cons.mpr ⟨lw_p29, List.forall_mem_cons.mpr ⟨lw_p30, List.forall_mem_cons.mpr ⟨lw_p31, fun _ h => absurd h List.not_mem_nil⟩⟩⟩⟩⟩⟩⟩⟩⟩⟩⟩⟩⟩⟩⟩⟩
theorem lw_p32 : lw_okq (⟨"DeedProofs$Judge", "weigh", "(III)V"⟩, 7) := ⟨⟨by decide +kernel, by decide +kernel⟩, List.mem_of_getElem? (i := 157) (by decide +kernel), List.mem_of_getElem? (i := 591) (by decide +kernel), List.mem_of_getElem? (i := 592) (by decide +kernel)⟩
theorem lw_p33 : lw_okq (⟨"DeedProofs$Judge", "factOfStep", "(III)I"⟩, 7) := ⟨⟨by decide +kernel, by decide +kernel⟩, List.mem_of_getElem? (i := 157) (by decide +kernel), List.mem_of_getElem? (i := 595) (by decide +kernel), List.mem_of_getElem? (i := 596) (by decide +kernel)⟩
theorem lw_p34 : lw_okq (⟨"DeedProofs$Judge", "lackOf", "(III)I"⟩, 7) := ⟨⟨by decide +kernel, by decide +kernel⟩, List.mem_of_getElem? (i := 157) (by decide +kernel), List.mem_of_getElem? (i := 605) (by decide +kernel), List.mem_of_getElem? (i := 606) (by decide +kernel)⟩
theorem lw_p35 : lw_okq (⟨"DeedProofs$Judge", "gives", "(IIII)Z"⟩, 7) := ⟨⟨by decide +kernel, by decide +kernel⟩, List.mem_of_getElem? (i := 157) (by decide +kernel), List.mem_of_getElem? (i := 610) (by decide +kernel), List.mem_of_getElem? (i := 611) (by decide +kernel)⟩
theorem lw_p36 : lw_okq (⟨"DeedProofs$Book", "endIn", "(II)I"⟩, 18) := ⟨⟨by decide +kernel, by decide +kernel⟩, List.mem_of_getElem? (i := 31) (by decide +kernel), List.mem_of_getElem? (i := 615) (by decide +kernel), List.mem_of_getElem? (i := 616) (by decide +kernel)⟩
theorem lw_p37 : lw_okq (⟨"DeedProofs$Book", "takesHoles", "(I)Z"⟩, 18) := ⟨⟨by decide +kernel, by decide +kernel⟩, List.mem_of_getElem? (i := 31) (by decide +kernel), List.mem_of_getElem? (i := 619) (by decide +kernel), List.mem_of_getElem? (i := 620) (by decide +kernel)⟩
theorem lw_p38 : lw_okq (⟨"DeedProofs$Book", "holesOf", "(I)I"⟩, 18) := ⟨⟨by decide +kernel, by decide +kernel⟩, List.mem_of_getElem? (i := 31) (by decide +kernel), List.mem_of_getElem? (i := 623) (by decide +kernel), List.mem_of_getElem? (i := 624) (by decide +kernel)⟩
theorem lw_p39 : lw_okq (⟨"DeedProofs$Judge", "papersUnder", "(I)I"⟩, 7) := ⟨⟨by decide +kernel, by decide +kernel⟩, List.mem_of_getElem? (i := 157) (by decide +kernel), List.mem_of_getElem? (i := 641) (by decide +kernel), List.mem_of_getElem? (i := 642) (by decide +kernel)⟩
theorem lw_p40 : lw_okq (⟨"DeedProofs$Judge", "papersUnderStep", "(II)I"⟩, 7) := ⟨⟨by decide +kernel, by decide +kernel⟩, List.mem_of_getElem? (i := 157) (by decide +kernel), List.mem_of_getElem? (i := 645) (by decide +kernel), List.mem_of_getElem? (i := 646) (by decide +kernel)⟩
theorem lw_p41 : lw_okq (⟨"DeedProofs$Book", "placeOfHole", "(II)I"⟩, 18) := ⟨⟨by decide +kernel, by decide +kernel⟩, List.mem_of_getElem? (i := 31) (by decide +kernel), List.mem_of_getElem? (i := 654) (by decide +kernel), List.mem_of_getElem? (i := 655) (by decide +kernel)⟩
theorem lw_p42 : lw_okq (⟨"DeedProofs$Judge", "saidBy", "(III)I"⟩, 7) := ⟨⟨by decide +kernel, by decide +kernel⟩, List.mem_of_getElem? (i := 157) (by decide +kernel), List.mem_of_getElem? (i := 662) (by decide +kernel), List.mem_of_getElem? (i := 663) (by decide +kernel)⟩
theorem lw_p43 : lw_okq (⟨"DeedProofs$Judge", "factOfTerm", "(III)I"⟩, 7) := ⟨⟨by decide +kernel, by decide +kernel⟩, List.mem_of_getElem? (i := 157) (by decide +kernel), List.mem_of_getElem? (i := 667) (by decide +kernel), List.mem_of_getElem? (i := 668) (by decide +kernel)⟩
theorem lw_p44 : lw_okq (⟨"DeedProofs$Book", "isTitleOf", "(I)Z"⟩, 18) := ⟨⟨by decide +kernel, by decide +kernel⟩, List.mem_of_getElem? (i := 31) (by decide +kernel), List.mem_of_getElem? (i := 737) (by decide +kernel), List.mem_of_getElem? (i := 738) (by decide +kernel)⟩
theorem lw_p45 : lw_okq (⟨"DeedProofs", "standsByProof", "(II)Z"⟩, 7) := ⟨⟨by decide +kernel, by decide +kernel⟩, List.mem_of_getElem? (i := 23) (by decide +kernel), List.mem_of_getElem? (i := 745) (by decide +kernel), List.mem_of_getElem? (i := 746) (by decide +kernel)⟩
theorem lw_p46 : lw_okq (⟨"DeedProofs", "standingToday", "(I)I"⟩, 7) := ⟨⟨by decide +kernel, by decide +kernel⟩, List.mem_of_getElem? (i := 23) (by decide +kernel), List.mem_of_getElem? (i := 753) (by decide +kernel), List.mem_of_getElem? (i := 754) (by decide +kernel)⟩
theorem lw_p47 : lw_okq (⟨"DeedProofs", "followsToday", "(II)Z"⟩, 7) := ⟨⟨by decide +kernel, by decide +kernel⟩, List.mem_of_getElem? (i := 23) (by decide +kernel), List.mem_of_getElem? (i := 769) (by decide +kernel), List.mem_of_getElem? (i := 770) (by decide +kernel)⟩
def lw_privs_3 : List (MethodName × Nat) := [(⟨"DeedProofs$Judge", "weigh", "(III)V"⟩, 7), (⟨"DeedProofs$Judge", "factOfStep", "(III)I"⟩, 7), (⟨"DeedProofs$Judge", "lackOf", "(III)I"⟩, 7), (⟨"DeedProofs$Judge", "gives", "(IIII)Z"⟩, 7), (⟨"DeedProofs$Book", "endIn", "(II)I"⟩, 18), (⟨"DeedProofs$Book", "takesHoles", "(I)Z"⟩, 18), (⟨"DeedProofs$Book", "holesOf", "(I)I"⟩, 18), (⟨"DeedProofs$Judge", "papersUnder", "(I)I"⟩, 7), (⟨"DeedProofs$Judge", "papersUnderStep", "(II)I"⟩, 7), (⟨"DeedProofs$Book", "placeOfHole", "(II)I"⟩, 18), (⟨"DeedProofs$Judge", "saidBy", "(III)I"⟩, 7), (⟨"DeedProofs$Judge", "factOfTerm", "(III)I"⟩, 7), (⟨"DeedProofs$Book", "isTitleOf", "(I)Z"⟩, 18), (⟨"DeedProofs", "standsByProof", "(II)Z"⟩, 7), (⟨"DeedProofs", "standingToday", "(I)I"⟩, 7), (⟨"DeedProofs", "followsToday", "(II)Z"⟩, 7)]
theorem lw_r3 : ∀ q ∈ lw_privs_3, lw_okq q := List.forall_mem_cons.mpr ⟨lw_p32, List.forall_mem_cons.mpr ⟨lw_p33, List.forall_mem_cons.mpr ⟨lw_p34, List.forall_mem_cons.mpr ⟨lw_p35, List.forall_mem_cons.mpr ⟨lw_p36, List.forall_mem_cons.mpr ⟨lw_p37, List.forall_mem_cons.mpr ⟨lw_p38, List.forall_mem_cons.mpr ⟨lw_p39, List.forall_mem_cons.mpr ⟨lw_p40, List.forall_mem_cons.mpr ⟨lw_p41, List.forall_mem_cons.mpr ⟨lw_p42, List.forall_mem_cons.mpr ⟨lw_p43, List.forall_mem_cons.mpr ⟨lw_p44, List.forall_mem_cons.mpr ⟨lw_p45, List.forall_mem_cons.mpr ⟨lw_p46, List.forall_mem_cons.mpr ⟨lw_p47, fun _ h => absurd h List.not_mem_nil⟩⟩⟩⟩⟩⟩⟩⟩⟩⟩⟩⟩⟩⟩⟩⟩
theorem lw_p48 : lw_okq (⟨"DeedProofs", "fewest", "(III)I"⟩, 7) := ⟨⟨by decide +kernel, by decide +kernel⟩, List.mem_of_getElem? (i := 23) (by decide +kernel), List.mem_of_getElem? (i := 783) (by decide +kernel), List.mem_of_getElem? (i := 784) (by decide +kernel)⟩
theorem lw_p49 : lw_okq (⟨"DeedProofs$Tactician", "play", "(II)V"⟩, 6) := ⟨⟨by decide +kernel, by decide +kernel⟩, List.mem_of_getElem? (i := 229) (by decide +kernel), List.mem_of_getElem? (i := 805) (by decide +kernel), List.mem_of_getElem? (i := 806) (by decide +kernel)⟩
theorem lw_p50 : lw_okq (⟨"DeedProofs$Reach", "settleFrom", "(I)V"⟩, 8) := ⟨⟨by decide +kernel, by decide +kernel⟩, List.mem_of_getElem? (i := 190) (by decide +kernel), List.mem_of_getElem? (i := 810) (by decide +kernel), List.mem_of_getElem? (i := 811) (by decide +kernel)⟩
theorem lw_p51 : lw_okq (⟨"DeedProofs$Tactician", "playPieces", "(II)V"⟩, 6) := ⟨⟨by decide +kernel, by decide +kernel⟩, List.mem_of_getElem? (i := 229) (by decide +kernel), List.mem_of_getElem? (i := 814) (by decide +kernel), List.mem_of_getElem? (i := 815) (by decide +kernel)⟩
theorem lw_p52 : lw_okq (⟨"DeedProofs$Tactician", "endOfTry", "(I)I"⟩, 6) := ⟨⟨by decide +kernel, by decide +kernel⟩, List.mem_of_getElem? (i := 229) (by decide +kernel), List.mem_of_getElem? (i := 818) (by decide +kernel), List.mem_of_getElem? (i := 819) (by decide +kernel)⟩
theorem lw_p53 : lw_okq (⟨"DeedProofs$Tactician", "signAt", "(I)I"⟩, 6) := ⟨⟨by decide +kernel, by decide +kernel⟩, List.mem_of_getElem? (i := 229) (by decide +kernel), List.mem_of_getElem? (i := 822) (by decide +kernel), List.mem_of_getElem? (i := 823) (by decide +kernel)⟩
theorem lw_p54 : lw_okq (⟨"DeedProofs$Tactician", "playTry", "(III)Z"⟩, 6) := ⟨⟨by decide +kernel, by decide +kernel⟩, List.mem_of_getElem? (i := 229) (by decide +kernel), List.mem_of_getElem? (i := 826) (by decide +kernel), List.mem_of_getElem? (i := 827) (by decide +kernel)⟩
theorem lw_p55 : lw_okq (⟨"DeedProofs$Reach", "useOnce", "(LDeedProofs$Text;)V"⟩, 8) := ⟨⟨by decide +kernel, by decide +kernel⟩, List.mem_of_getElem? (i := 190) (by decide +kernel), List.mem_of_getElem? (i := 832) (by decide +kernel), List.mem_of_getElem? (i := 833) (by decide +kernel)⟩
theorem lw_p56 : lw_okq (⟨"DeedProofs$Book", "become", "(LDeedProofs$Book;)V"⟩, 18) := ⟨⟨by decide +kernel, by decide +kernel⟩, List.mem_of_getElem? (i := 31) (by decide +kernel), List.mem_of_getElem? (i := 845) (by decide +kernel), List.mem_of_getElem? (i := 846) (by decide +kernel)⟩
theorem lw_p57 : lw_okq (⟨"DeedProofs$Text", "become", "(LDeedProofs$Text;)V"⟩, 5) := ⟨⟨by decide +kernel, by decide +kernel⟩, List.mem_of_getElem? (i := 38) (by decide +kernel), List.mem_of_getElem? (i := 850) (by decide +kernel), List.mem_of_getElem? (i := 851) (by decide +kernel)⟩
theorem lw_p58 : lw_okq (⟨"DeedProofsModel", "reads", "()I"⟩, 15) := ⟨⟨by decide +kernel, by decide +kernel⟩, List.mem_of_getElem? (i := 863) (by decide +kernel), List.mem_of_getElem? (i := 931) (by decide +kernel), List.mem_of_getElem? (i := 932) (by decide +kernel)⟩
theorem lw_p59 : lw_okq (⟨"DeedProofsModel", "part", "(I)V"⟩, 15) := ⟨⟨by decide +kernel, by decide +kernel⟩, List.mem_of_getElem? (i := 863) (by decide +kernel), List.mem_of_getElem? (i := 935) (by decide +kernel), List.mem_of_getElem? (i := 936) (by decide +kernel)⟩
theorem lw_p60 : lw_okq (⟨"DeedProofsModel", "here", "()I"⟩, 15) := ⟨⟨by decide +kernel, by decide +kernel⟩, List.mem_of_getElem? (i := 863) (by decide +kernel), List.mem_of_getElem? (i := 939) (by decide +kernel), List.mem_of_getElem? (i := 940) (by decide +kernel)⟩
theorem lw_p61 : lw_okq (⟨"DeedProofsModel", "term", "(I)V"⟩, 15) := ⟨⟨by decide +kernel, by decide +kernel⟩, List.mem_of_getElem? (i := 863) (by decide +kernel), List.mem_of_getElem? (i := 946) (by decide +kernel), List.mem_of_getElem? (i := 947) (by decide +kernel)⟩
theorem lw_p62 : lw_okq (⟨"DeedProofsModel", "eats", "(I)V"⟩, 15) := ⟨⟨by decide +kernel, by decide +kernel⟩, List.mem_of_getElem? (i := 863) (by decide +kernel), List.mem_of_getElem? (i := 950) (by decide +kernel), List.mem_of_getElem? (i := 951) (by decide +kernel)⟩
theorem lw_p63 : lw_okq (⟨"DeedProofsModel", "argument", "()I"⟩, 15) := ⟨⟨by decide +kernel, by decide +kernel⟩, List.mem_of_getElem? (i := 863) (by decide +kernel), List.mem_of_getElem? (i := 954) (by decide +kernel), List.mem_of_getElem? (i := 955) (by decide +kernel)⟩
def lw_privs_4 : List (MethodName × Nat) := [(⟨"DeedProofs", "fewest", "(III)I"⟩, 7), (⟨"DeedProofs$Tactician", "play", "(II)V"⟩, 6), (⟨"DeedProofs$Reach", "settleFrom", "(I)V"⟩, 8), (⟨"DeedProofs$Tactician", "playPieces", "(II)V"⟩, 6), (⟨"DeedProofs$Tactician", "endOfTry", "(I)I"⟩, 6), (⟨"DeedProofs$Tactician", "signAt", "(I)I"⟩, 6), (⟨"DeedProofs$Tactician", "playTry", "(III)Z"⟩, 6), (⟨"DeedProofs$Reach", "useOnce", "(LDeedProofs$Text;)V"⟩, 8), (⟨"DeedProofs$Book", "become", "(LDeedProofs$Book;)V"⟩, 18), (⟨"DeedProofs$Text", "become", "(LDeedProofs$Text;)V"⟩, 5), (⟨"DeedProofsModel", "reads", "()I"⟩, 15), (⟨"DeedProofsModel", "part", "(I)V"⟩, 15), (⟨"DeedProofsModel", "here", "()I"⟩, 15), (⟨"DeedProofsModel", "term", "(I)V"⟩, 15), (⟨"DeedProofsModel", "eats", "(I)V"⟩, 15), (⟨"DeedProofsModel", "argument", "()I"⟩, 15)]
theorem lw_r4 : ∀ q ∈ lw_privs_4, lw_okq q := List.forall_mem_cons.mpr ⟨lw_p48, List.forall_mem_cons.mpr ⟨lw_p49, List.forall_mem_cons.mpr ⟨lw_p50, List.forall_mem_cons.mpr ⟨lw_p51, List.forall_mem_cons.mpr ⟨lw_p52, List.forall_mem_cons.mpr ⟨lw_p53, List.forall_mem_cons.mpr ⟨lw_p54, List.forall_mem_cons.mpr ⟨lw_p55, List.forall_mem_cons.mpr ⟨lw_p56, List.forall_mem_cons.mpr ⟨lw_p57, List.forall_mem_cons.mpr ⟨lw_p58, List.forall_mem_cons.mpr ⟨lw_p59, List.forall_mem_cons.mpr ⟨lw_p60, List.forall_mem_cons.mpr ⟨lw_p61, List.forall_mem_cons.mpr ⟨lw_p62, List.forall_mem_cons.mpr ⟨lw_p63, fun _ h => absurd h List.not_mem_nil⟩⟩⟩⟩⟩⟩⟩⟩⟩⟩⟩⟩⟩⟩⟩⟩
theorem lw_p64 : lw_okq (⟨"DeedProofsModel", "test", "(I)V"⟩, 15) := ⟨⟨by decide +kernel, by decide +kernel⟩, List.mem_of_getElem? (i := 863) (by decide +kernel), List.mem_of_getElem? (i := 958) (by decide +kernel), List.mem_of_getElem? (i := 959) (by decide +kernel)⟩
theorem lw_p65 : lw_okq (⟨"DeedProofsModel", "lettersIn", "(II)I"⟩, 15) := ⟨⟨by decide +kernel, by decide +kernel⟩, List.mem_of_getElem? (i := 863) (by decide +kernel), List.mem_of_getElem? (i := 962) (by decide +kernel), List.mem_of_getElem? (i := 963) (by decide +kernel)⟩
theorem lw_p66 : lw_okq (⟨"DeedProofsModel", "termLetters", "(I)I"⟩, 15) := ⟨⟨by decide +kernel, by decide +kernel⟩, List.mem_of_getElem? (i := 863) (by decide +kernel), List.mem_of_getElem? (i := 966) (by decide +kernel), List.mem_of_getElem? (i := 967) (by decide +kernel)⟩
theorem lw_p67 : lw_okq (⟨"DeedProofsModel", "isRule", "(I)Z"⟩, 15) := ⟨⟨by decide +kernel, by decide +kernel⟩, List.mem_of_getElem? (i := 863) (by decide +kernel), List.mem_of_getElem? (i := 974) (by decide +kernel), List.mem_of_getElem? (i := 975) (by decide +kernel)⟩
theorem lw_p68 : lw_okq (⟨"DeedProofsModel", "changeOn", "(II)I"⟩, 15) := ⟨⟨by decide +kernel, by decide +kernel⟩, List.mem_of_getElem? (i := 863) (by decide +kernel), List.mem_of_getElem? (i := 985) (by decide +kernel), List.mem_of_getElem? (i := 986) (by decide +kernel)⟩
theorem lw_p69 : lw_okq (⟨"DeedProofsModel", "textOn", "(II)I"⟩, 15) := ⟨⟨by decide +kernel, by decide +kernel⟩, List.mem_of_getElem? (i := 863) (by decide +kernel), List.mem_of_getElem? (i := 989) (by decide +kernel), List.mem_of_getElem? (i := 990) (by decide +kernel)⟩
theorem lw_p70 : lw_okq (⟨"DeedProofsModel", "isPaper", "(I)Z"⟩, 15) := ⟨⟨by decide +kernel, by decide +kernel⟩, List.mem_of_getElem? (i := 863) (by decide +kernel), List.mem_of_getElem? (i := 1004) (by decide +kernel), List.mem_of_getElem? (i := 1005) (by decide +kernel)⟩
theorem lw_p71 : lw_okq (⟨"DeedProofsModel", "works", "(I)V"⟩, 15) := ⟨⟨by decide +kernel, by decide +kernel⟩, List.mem_of_getElem? (i := 863) (by decide +kernel), List.mem_of_getElem? (i := 1016) (by decide +kernel), List.mem_of_getElem? (i := 1017) (by decide +kernel)⟩
theorem lw_p72 : lw_okq (⟨"DeedProofsModel", "begins", "()V"⟩, 15) := ⟨⟨by decide +kernel, by decide +kernel⟩, List.mem_of_getElem? (i := 863) (by decide +kernel), List.mem_of_getElem? (i := 1020) (by decide +kernel), List.mem_of_getElem? (i := 1021) (by decide +kernel)⟩
theorem lw_p73 : lw_okq (⟨"DeedProofsModel", "sets", "(I)V"⟩, 15) := ⟨⟨by decide +kernel, by decide +kernel⟩, List.mem_of_getElem? (i := 863) (by decide +kernel), List.mem_of_getElem? (i := 1025) (by decide +kernel), List.mem_of_getElem? (i := 1026) (by decide +kernel)⟩
theorem lw_p74 : lw_okq (⟨"DeedProofsModel", "isPlain", "(I)Z"⟩, 15) := ⟨⟨by decide +kernel, by decide +kernel⟩, List.mem_of_getElem? (i := 863) (by decide +kernel), List.mem_of_getElem? (i := 1029) (by decide +kernel), List.mem_of_getElem? (i := 1030) (by decide +kernel)⟩
theorem lw_p75 : lw_okq (⟨"DeedProofsModel", "areBelow", "(II)Z"⟩, 15) := ⟨⟨by decide +kernel, by decide +kernel⟩, List.mem_of_getElem? (i := 863) (by decide +kernel), List.mem_of_getElem? (i := 1033) (by decide +kernel), List.mem_of_getElem? (i := 1034) (by decide +kernel)⟩
theorem lw_p76 : lw_okq (⟨"DeedProofsModel", "factAt", "(I)I"⟩, 15) := ⟨⟨by decide +kernel, by decide +kernel⟩, List.mem_of_getElem? (i := 863) (by decide +kernel), List.mem_of_getElem? (i := 1037) (by decide +kernel), List.mem_of_getElem? (i := 1038) (by decide +kernel)⟩
theorem lw_p77 : lw_okq (⟨"DeedProofsModel", "value", "(I)I"⟩, 15) := ⟨⟨by decide +kernel, by decide +kernel⟩, List.mem_of_getElem? (i := 863) (by decide +kernel), List.mem_of_getElem? (i := 1041) (by decide +kernel), List.mem_of_getElem? (i := 1042) (by decide +kernel)⟩
theorem lw_p78 : lw_okq (⟨"DeedProofsModel", "testsHold", "(I)Z"⟩, 15) := ⟨⟨by decide +kernel, by decide +kernel⟩, List.mem_of_getElem? (i := 863) (by decide +kernel), List.mem_of_getElem? (i := 1045) (by decide +kernel), List.mem_of_getElem? (i := 1046) (by decide +kernel)⟩
theorem lw_p79 : lw_okq (⟨"DeedProofsModel", "sizes", "(I)V"⟩, 15) := ⟨⟨by decide +kernel, by decide +kernel⟩, List.mem_of_getElem? (i := 863) (by decide +kernel), List.mem_of_getElem? (i := 1049) (by decide +kernel), List.mem_of_getElem? (i := 1050) (by decide +kernel)⟩
def lw_privs_5 : List (MethodName × Nat) := [(⟨"DeedProofsModel", "test", "(I)V"⟩, 15), (⟨"DeedProofsModel", "lettersIn", "(II)I"⟩, 15), (⟨"DeedProofsModel", "termLetters", "(I)I"⟩, 15), (⟨"DeedProofsModel", "isRule", "(I)Z"⟩, 15), (⟨"DeedProofsModel", "changeOn", "(II)I"⟩, 15), (⟨"DeedProofsModel", "textOn", "(II)I"⟩, 15), (⟨"DeedProofsModel", "isPaper", "(I)Z"⟩, 15), (⟨"DeedProofsModel", "works", "(I)V"⟩, 15), (⟨"DeedProofsModel", "begins", "()V"⟩, 15), (⟨"DeedProofsModel", "sets", "(I)V"⟩, 15), (⟨"DeedProofsModel", "isPlain", "(I)Z"⟩, 15), (⟨"DeedProofsModel", "areBelow", "(II)Z"⟩, 15), (⟨"DeedProofsModel", "factAt", "(I)I"⟩, 15), (⟨"DeedProofsModel", "value", "(I)I"⟩, 15), (⟨"DeedProofsModel", "testsHold", "(I)Z"⟩, 15), (⟨"DeedProofsModel", "sizes", "(I)V"⟩, 15)]
theorem lw_r5 : ∀ q ∈ lw_privs_5, lw_okq q := List.forall_mem_cons.mpr ⟨lw_p64, List.forall_mem_cons.mpr ⟨lw_p65, List.forall_mem_cons.mpr ⟨lw_p66, List.forall_mem_cons.mpr ⟨lw_p67, List.forall_mem_cons.mpr ⟨lw_p68, List.forall_mem_cons.mpr ⟨lw_p69, List.forall_mem_cons.mpr ⟨lw_p70, List.forall_mem_cons.mpr ⟨lw_p71, List.forall_mem_cons.mpr ⟨lw_p72, List.forall_mem_cons.mpr ⟨lw_p73, List.forall_mem_cons.mpr ⟨lw_p74, List.forall_mem_cons.mpr ⟨lw_p75, List.forall_mem_cons.mpr ⟨lw_p76, List.forall_mem_cons.mpr ⟨lw_p77, List.forall_mem_cons.mpr ⟨lw_p78, List.forall_mem_cons.mpr ⟨lw_p79, fun _ h => absurd h List.not_mem_nil⟩⟩⟩⟩⟩⟩⟩⟩⟩⟩⟩⟩⟩⟩⟩⟩
theorem lw_p80 : lw_okq (⟨"DeedProofsModel", "isProof", "(I)Z"⟩, 15) := ⟨⟨by decide +kernel, by decide +kernel⟩, List.mem_of_getElem? (i := 863) (by decide +kernel), List.mem_of_getElem? (i := 1065) (by decide +kernel), List.mem_of_getElem? (i := 1066) (by decide +kernel)⟩
theorem lw_p81 : lw_okq (⟨"DeedProofsModel", "isUsed", "(I)Z"⟩, 15) := ⟨⟨by decide +kernel, by decide +kernel⟩, List.mem_of_getElem? (i := 863) (by decide +kernel), List.mem_of_getElem? (i := 1069) (by decide +kernel), List.mem_of_getElem? (i := 1070) (by decide +kernel)⟩
theorem lw_p82 : lw_okq (⟨"DeedProofsModel", "usesEnds", "(I)Z"⟩, 15) := ⟨⟨by decide +kernel, by decide +kernel⟩, List.mem_of_getElem? (i := 863) (by decide +kernel), List.mem_of_getElem? (i := 1073) (by decide +kernel), List.mem_of_getElem? (i := 1074) (by decide +kernel)⟩
theorem lw_p83 : lw_okq (⟨"DeedProofsModel", "isStep", "(II)Z"⟩, 15) := ⟨⟨by decide +kernel, by decide +kernel⟩, List.mem_of_getElem? (i := 863) (by decide +kernel), List.mem_of_getElem? (i := 1084) (by decide +kernel), List.mem_of_getElem? (i := 1085) (by decide +kernel)⟩
theorem lw_p84 : lw_okq (⟨"DeedProofsModel", "lacksOn", "(III)I"⟩, 15) := ⟨⟨by decide +kernel, by decide +kernel⟩, List.mem_of_getElem? (i := 863) (by decide +kernel), List.mem_of_getElem? (i := 1088) (by decide +kernel), List.mem_of_getElem? (i := 1089) (by decide +kernel)⟩
theorem lw_p85 : lw_okq (⟨"DeedProofsModel", "isFrom", "(IIII)Z"⟩, 15) := ⟨⟨by decide +kernel, by decide +kernel⟩, List.mem_of_getElem? (i := 863) (by decide +kernel), List.mem_of_getElem? (i := 1092) (by decide +kernel), List.mem_of_getElem? (i := 1093) (by decide +kernel)⟩
theorem lw_p86 : lw_okq (⟨"DeedProofsModel", "termOn", "(IIII)I"⟩, 15) := ⟨⟨by decide +kernel, by decide +kernel⟩, List.mem_of_getElem? (i := 863) (by decide +kernel), List.mem_of_getElem? (i := 1096) (by decide +kernel), List.mem_of_getElem? (i := 1097) (by decide +kernel)⟩
theorem lw_p87 : lw_okq (⟨"DeedProofsModel", "saysOn", "(III)I"⟩, 15) := ⟨⟨by decide +kernel, by decide +kernel⟩, List.mem_of_getElem? (i := 863) (by decide +kernel), List.mem_of_getElem? (i := 1100) (by decide +kernel), List.mem_of_getElem? (i := 1101) (by decide +kernel)⟩
theorem lw_p88 : lw_okq (⟨"DeedProofsModel", "isTaken", "(II)Z"⟩, 15) := ⟨⟨by decide +kernel, by decide +kernel⟩, List.mem_of_getElem? (i := 863) (by decide +kernel), List.mem_of_getElem? (i := 1104) (by decide +kernel), List.mem_of_getElem? (i := 1105) (by decide +kernel)⟩
theorem lw_p89 : lw_okq (⟨"DeedProofsModel", "holesOf", "(II)I"⟩, 15) := ⟨⟨by decide +kernel, by decide +kernel⟩, List.mem_of_getElem? (i := 863) (by decide +kernel), List.mem_of_getElem? (i := 1108) (by decide +kernel), List.mem_of_getElem? (i := 1109) (by decide +kernel)⟩
theorem lw_p90 : lw_okq (⟨"DeedProofsModel", "leansOf", "(I)I"⟩, 15) := ⟨⟨by decide +kernel, by decide +kernel⟩, List.mem_of_getElem? (i := 863) (by decide +kernel), List.mem_of_getElem? (i := 1124) (by decide +kernel), List.mem_of_getElem? (i := 1125) (by decide +kernel)⟩
theorem lw_p91 : lw_okq (⟨"DeedProofsModel", "leansFrom", "(III)I"⟩, 15) := ⟨⟨by decide +kernel, by decide +kernel⟩, List.mem_of_getElem? (i := 863) (by decide +kernel), List.mem_of_getElem? (i := 1140) (by decide +kernel), List.mem_of_getElem? (i := 1141) (by decide +kernel)⟩
theorem lw_p92 : lw_okq (⟨"DeedProofsModel", "showsFrom", "(III)I"⟩, 15) := ⟨⟨by decide +kernel, by decide +kernel⟩, List.mem_of_getElem? (i := 863) (by decide +kernel), List.mem_of_getElem? (i := 1147) (by decide +kernel), List.mem_of_getElem? (i := 1148) (by decide +kernel)⟩
theorem lw_p93 : lw_okq (⟨"DeedProofsModel", "endsFrom", "(III)I"⟩, 15) := ⟨⟨by decide +kernel, by decide +kernel⟩, List.mem_of_getElem? (i := 863) (by decide +kernel), List.mem_of_getElem? (i := 1151) (by decide +kernel), List.mem_of_getElem? (i := 1152) (by decide +kernel)⟩
theorem lw_p94 : lw_okq (⟨"DeedProofsModel", "isTitle", "(I)Z"⟩, 15) := ⟨⟨by decide +kernel, by decide +kernel⟩, List.mem_of_getElem? (i := 863) (by decide +kernel), List.mem_of_getElem? (i := 1167) (by decide +kernel), List.mem_of_getElem? (i := 1168) (by decide +kernel)⟩
theorem lw_p95 : lw_okq (⟨"DeedProofsModel", "standsOn", "(II)I"⟩, 15) := ⟨⟨by decide +kernel, by decide +kernel⟩, List.mem_of_getElem? (i := 863) (by decide +kernel), List.mem_of_getElem? (i := 1171) (by decide +kernel), List.mem_of_getElem? (i := 1172) (by decide +kernel)⟩
def lw_privs_6 : List (MethodName × Nat) := [(⟨"DeedProofsModel", "isProof", "(I)Z"⟩, 15), (⟨"DeedProofsModel", "isUsed", "(I)Z"⟩, 15), (⟨"DeedProofsModel", "usesEnds", "(I)Z"⟩, 15), (⟨"DeedProofsModel", "isStep", "(II)Z"⟩, 15), (⟨"DeedProofsModel", "lacksOn", "(III)I"⟩, 15), (⟨"DeedProofsModel", "isFrom", "(IIII)Z"⟩, 15), (⟨"DeedProofsModel", "termOn", "(IIII)I"⟩, 15), (⟨"DeedProofsModel", "saysOn", "(III)I"⟩, 15), (⟨"DeedProofsModel", "isTaken", "(II)Z"⟩, 15), (⟨"DeedProofsModel", "holesOf", "(II)I"⟩, 15), (⟨"DeedProofsModel", "leansOf", "(I)I"⟩, 15), (⟨"DeedProofsModel", "leansFrom", "(III)I"⟩, 15), (⟨"DeedProofsModel", "showsFrom", "(III)I"⟩, 15), (⟨"DeedProofsModel", "endsFrom", "(III)I"⟩, 15), (⟨"DeedProofsModel", "isTitle", "(I)Z"⟩, 15), (⟨"DeedProofsModel", "standsOn", "(II)I"⟩, 15)]
theorem lw_r6 : ∀ q ∈ lw_privs_6, lw_okq q := List.forall_mem_cons.mpr ⟨lw_p80, List.forall_mem_cons.mpr ⟨lw_p81, List.forall_mem_cons.mpr ⟨lw_p82, List.forall_mem_cons.mpr ⟨lw_p83, List.forall_mem_cons.mpr ⟨lw_p84, List.forall_mem_cons.mpr ⟨lw_p85, List.forall_mem_cons.mpr ⟨lw_p86, List.forall_mem_cons.mpr ⟨lw_p87, List.forall_mem_cons.mpr ⟨lw_p88, List.forall_mem_cons.mpr ⟨lw_p89, List.forall_mem_cons.mpr ⟨lw_p90, List.forall_mem_cons.mpr ⟨lw_p91, List.forall_mem_cons.mpr ⟨lw_p92, List.forall_mem_cons.mpr ⟨lw_p93, List.forall_mem_cons.mpr ⟨lw_p94, List.forall_mem_cons.mpr ⟨lw_p95, fun _ h => absurd h List.not_mem_nil⟩⟩⟩⟩⟩⟩⟩⟩⟩⟩⟩⟩⟩⟩⟩⟩
theorem lw_p96 : lw_okq (⟨"DeedProofsModel", "followsOn", "(II)Z"⟩, 15) := ⟨⟨by decide +kernel, by decide +kernel⟩, List.mem_of_getElem? (i := 863) (by decide +kernel), List.mem_of_getElem? (i := 1175) (by decide +kernel), List.mem_of_getElem? (i := 1176) (by decide +kernel)⟩
theorem lw_p97 : lw_okq (⟨"DeedProofsModel", "fewest", "(III)I"⟩, 15) := ⟨⟨by decide +kernel, by decide +kernel⟩, List.mem_of_getElem? (i := 863) (by decide +kernel), List.mem_of_getElem? (i := 1202) (by decide +kernel), List.mem_of_getElem? (i := 1203) (by decide +kernel)⟩
theorem lw_p98 : lw_okq (⟨"DeedProofsModel", "readsTactic", "()V"⟩, 15) := ⟨⟨by decide +kernel, by decide +kernel⟩, List.mem_of_getElem? (i := 863) (by decide +kernel), List.mem_of_getElem? (i := 1214) (by decide +kernel), List.mem_of_getElem? (i := 1215) (by decide +kernel)⟩
theorem lw_p99 : lw_okq (⟨"DeedProofsModel", "readsPiece", "()V"⟩, 15) := ⟨⟨by decide +kernel, by decide +kernel⟩, List.mem_of_getElem? (i := 863) (by decide +kernel), List.mem_of_getElem? (i := 1218) (by decide +kernel), List.mem_of_getElem? (i := 1219) (by decide +kernel)⟩
theorem lw_p100 : lw_okq (⟨"DeedProofsModel", "readsTry", "()V"⟩, 15) := ⟨⟨by decide +kernel, by decide +kernel⟩, List.mem_of_getElem? (i := 863) (by decide +kernel), List.mem_of_getElem? (i := 1222) (by decide +kernel), List.mem_of_getElem? (i := 1223) (by decide +kernel)⟩
theorem lw_p101 : lw_okq (⟨"DeedProofsModel", "runsTactic", "(I)Z"⟩, 15) := ⟨⟨by decide +kernel, by decide +kernel⟩, List.mem_of_getElem? (i := 863) (by decide +kernel), List.mem_of_getElem? (i := 1230) (by decide +kernel), List.mem_of_getElem? (i := 1231) (by decide +kernel)⟩
theorem lw_p102 : lw_okq (⟨"DeedProofsModel", "runsTry", "(I)Z"⟩, 15) := ⟨⟨by decide +kernel, by decide +kernel⟩, List.mem_of_getElem? (i := 863) (by decide +kernel), List.mem_of_getElem? (i := 1234) (by decide +kernel), List.mem_of_getElem? (i := 1235) (by decide +kernel)⟩
theorem lw_p103 : lw_okq (⟨"DeedProofsModel", "behindTry", "(I)I"⟩, 15) := ⟨⟨by decide +kernel, by decide +kernel⟩, List.mem_of_getElem? (i := 863) (by decide +kernel), List.mem_of_getElem? (i := 1238) (by decide +kernel), List.mem_of_getElem? (i := 1239) (by decide +kernel)⟩
theorem lw_p104 : lw_okq (⟨"DeedProofsModel", "byteAt", "(I)I"⟩, 15) := ⟨⟨by decide +kernel, by decide +kernel⟩, List.mem_of_getElem? (i := 863) (by decide +kernel), List.mem_of_getElem? (i := 1242) (by decide +kernel), List.mem_of_getElem? (i := 1243) (by decide +kernel)⟩
theorem lw_p105 : lw_okq (⟨"DeedProofsModel", "runsOnce", "(I)Z"⟩, 15) := ⟨⟨by decide +kernel, by decide +kernel⟩, List.mem_of_getElem? (i := 863) (by decide +kernel), List.mem_of_getElem? (i := 1246) (by decide +kernel), List.mem_of_getElem? (i := 1247) (by decide +kernel)⟩
theorem lw_p106 : lw_okq (⟨"DeedProofsModel", "runs", "(I)Z"⟩, 15) := ⟨⟨by decide +kernel, by decide +kernel⟩, List.mem_of_getElem? (i := 863) (by decide +kernel), List.mem_of_getElem? (i := 1250) (by decide +kernel), List.mem_of_getElem? (i := 1251) (by decide +kernel)⟩
def lw_privs_7 : List (MethodName × Nat) := [(⟨"DeedProofsModel", "followsOn", "(II)Z"⟩, 15), (⟨"DeedProofsModel", "fewest", "(III)I"⟩, 15), (⟨"DeedProofsModel", "readsTactic", "()V"⟩, 15), (⟨"DeedProofsModel", "readsPiece", "()V"⟩, 15), (⟨"DeedProofsModel", "readsTry", "()V"⟩, 15), (⟨"DeedProofsModel", "runsTactic", "(I)Z"⟩, 15), (⟨"DeedProofsModel", "runsTry", "(I)Z"⟩, 15), (⟨"DeedProofsModel", "behindTry", "(I)I"⟩, 15), (⟨"DeedProofsModel", "byteAt", "(I)I"⟩, 15), (⟨"DeedProofsModel", "runsOnce", "(I)Z"⟩, 15), (⟨"DeedProofsModel", "runs", "(I)Z"⟩, 15)]
theorem lw_r7 : ∀ q ∈ lw_privs_7, lw_okq q := List.forall_mem_cons.mpr ⟨lw_p96, List.forall_mem_cons.mpr ⟨lw_p97, List.forall_mem_cons.mpr ⟨lw_p98, List.forall_mem_cons.mpr ⟨lw_p99, List.forall_mem_cons.mpr ⟨lw_p100, List.forall_mem_cons.mpr ⟨lw_p101, List.forall_mem_cons.mpr ⟨lw_p102, List.forall_mem_cons.mpr ⟨lw_p103, List.forall_mem_cons.mpr ⟨lw_p104, List.forall_mem_cons.mpr ⟨lw_p105, List.forall_mem_cons.mpr ⟨lw_p106, fun _ h => absurd h List.not_mem_nil⟩⟩⟩⟩⟩⟩⟩⟩⟩⟩⟩
def lw_privs : List (MethodName × Nat) := lw_privs_1 ++ (lw_privs_2 ++ (lw_privs_3 ++ (lw_privs_4 ++ (lw_privs_5 ++ (lw_privs_6 ++ (lw_privs_7))))))
def lw_tbl : List Cond := k2_sels lw_privs ++ tables_1
theorem lw_privs_ok : ∀ q ∈ lw_privs, lw_okq q := by
  show ∀ q ∈ lw_privs_1 ++ (lw_privs_2 ++ (lw_privs_3 ++ (lw_privs_4 ++ (lw_privs_5 ++ (lw_privs_6 ++ (lw_privs_7)))))), lw_okq q
  exact List.forall_mem_append.mpr ⟨lw_r1, List.forall_mem_append.mpr ⟨lw_r2, List.forall_mem_append.mpr ⟨lw_r3, List.forall_mem_append.mpr ⟨lw_r4, List.forall_mem_append.mpr ⟨lw_r5, List.forall_mem_append.mpr ⟨lw_r6, lw_r7⟩⟩⟩⟩⟩⟩
end
section
/-! names of the classes: fields in the order of the slots; printed by program from the claim (NAMES) -/
def RX0 : String := "DeedProofs$Book"
def TX0 : u_T := fun k => match k with
  | 0 => ("DeedProofs$Book", "counts", "[I", true)
  | 1 => ("DeedProofs$Book", "tape", "[B", true)
  | 2 => ("DeedProofs$Book", "texts", "[LDeedProofs$Text;", true)
  | 3 => ("DeedProofs$Book", "changeRule", "[I", true)
  | 4 => ("DeedProofs$Book", "changeDay", "[I", true)
  | 5 => ("DeedProofs$Book", "paperFact", "[I", true)
  | 6 => ("DeedProofs$Book", "paperPerson", "[I", true)
  | 7 => ("DeedProofs$Book", "truePapers", "I", false)
  | 8 => ("DeedProofs$Book", "proofKind", "[I", true)
  | 9 => ("DeedProofs$Book", "stepCount", "[I", true)
  | 10 => ("DeedProofs$Book", "stepRows", "[I", true)
  | 11 => ("DeedProofs$Book", "titleProof", "[I", true)
  | 12 => ("DeedProofs$Book", "titleFact", "[I", true)
  | 13 => ("DeedProofs$Book", "titleDay", "[I", true)
  | 14 => ("DeedProofs$Book", "tacticSize", "[I", true)
  | 15 => ("DeedProofs$Book", "tacticBytes", "[B", true)
  | 16 => ("DeedProofs$Book", "found", "[Z", true)
  | _ => ("DeedProofs$Book", "hasRun", "Z", false)
def tyX0 : Nat → FieldType := fun k => match k with
  | 0 => .array .int
  | 1 => .array .byte
  | 2 => .array (.object "DeedProofs$Text")
  | 3 => .array .int
  | 4 => .array .int
  | 5 => .array .int
  | 6 => .array .int
  | 7 => .int
  | 8 => .array .int
  | 9 => .array .int
  | 10 => .array .int
  | 11 => .array .int
  | 12 => .array .int
  | 13 => .array .int
  | 14 => .array .int
  | 15 => .array .byte
  | 16 => .array .boolean
  | _ => .boolean
theorem nmX0 : ∀ a, a < 18 → ∀ b, b < 18 → a ≠ b → (TX0 a).2.1 ≠ (TX0 b).2.1 := by decide +kernel
theorem tyX0_ok : ∀ k, k < 18 → parseFieldDescriptor (TX0 k).2.2.1 = some (tyX0 k) := by decide +kernel
abbrev cX0_init : ByteArray := prog_2_method_1_code
def yX0_init : MethodName := ⟨RX0, "<init>", "()V"⟩
abbrev cX0_become : ByteArray := prog_2_method_2_code
def yX0_become : MethodName := ⟨RX0, "become", "(LDeedProofs$Book;)V"⟩
abbrev cX0_has : ByteArray := prog_2_method_3_code
def yX0_has : MethodName := ⟨RX0, "has", "(II)Z"⟩
abbrev cX0_hasStep : ByteArray := prog_2_method_4_code
def yX0_hasStep : MethodName := ⟨RX0, "hasStep", "(II)Z"⟩
abbrev cX0_isTrue : ByteArray := prog_2_method_5_code
def yX0_isTrue : MethodName := ⟨RX0, "isTrue", "(I)Z"⟩
abbrev cX0_changeOn : ByteArray := prog_2_method_6_code
def yX0_changeOn : MethodName := ⟨RX0, "changeOn", "(II)I"⟩
abbrev cX0_textOn : ByteArray := prog_2_method_7_code
def yX0_textOn : MethodName := ⟨RX0, "textOn", "(II)LDeedProofs$Text;"⟩
abbrev cX0_rowOf : ByteArray := prog_2_method_8_code
def yX0_rowOf : MethodName := ⟨RX0, "rowOf", "(II)I"⟩
abbrev cX0_takesHoles : ByteArray := prog_2_method_9_code
def yX0_takesHoles : MethodName := ⟨RX0, "takesHoles", "(I)Z"⟩
abbrev cX0_takesEnds : ByteArray := prog_2_method_10_code
def yX0_takesEnds : MethodName := ⟨RX0, "takesEnds", "(I)Z"⟩
abbrev cX0_endIn : ByteArray := prog_2_method_11_code
def yX0_endIn : MethodName := ⟨RX0, "endIn", "(II)I"⟩
abbrev cX0_isTitled : ByteArray := prog_2_method_12_code
def yX0_isTitled : MethodName := ⟨RX0, "isTitled", "(I)Z"⟩
abbrev cX0_isTitleOf : ByteArray := prog_2_method_13_code
def yX0_isTitleOf : MethodName := ⟨RX0, "isTitleOf", "(I)Z"⟩
abbrev cX0_isUsed : ByteArray := prog_2_method_14_code
def yX0_isUsed : MethodName := ⟨RX0, "isUsed", "(I)Z"⟩
abbrev cX0_holesOf : ByteArray := prog_2_method_15_code
def yX0_holesOf : MethodName := ⟨RX0, "holesOf", "(I)I"⟩
abbrev cX0_countSources : ByteArray := prog_2_method_16_code
def yX0_countSources : MethodName := ⟨RX0, "countSources", "(II)I"⟩
abbrev cX0_placeOfHole : ByteArray := prog_2_method_17_code
def yX0_placeOfHole : MethodName := ⟨RX0, "placeOfHole", "(II)I"⟩
def RX1 : String := "DeedProofs$Cut"
def TX1 : u_T := fun k => match k with
  | _ => ("", "", "", false)
def tyX1 : Nat → FieldType := fun k => match k with
  | _ => .int
theorem nmX1 : ∀ a, a < 0 → ∀ b, b < 0 → a ≠ b → (TX1 a).2.1 ≠ (TX1 b).2.1 := by decide +kernel
theorem tyX1_ok : ∀ k, k < 0 → parseFieldDescriptor (TX1 k).2.2.1 = some (tyX1 k) := by decide +kernel
abbrev cX1_init : ByteArray := prog_3_method_1_code
def yX1_init : MethodName := ⟨RX1, "<init>", "()V"⟩
abbrev cX1_actEnds : ByteArray := prog_3_method_2_code
def yX1_actEnds : MethodName := ⟨RX1, "actEnds", "(III)I"⟩
def RX2 : String := "DeedProofs$Judge"
def TX2 : u_T := fun k => match k with
  | 0 => ("DeedProofs$Judge", "book", "LDeedProofs$Book;", true)
  | 1 => ("DeedProofs$Judge", "lack", "[I", true)
  | 2 => ("DeedProofs$Judge", "fact", "[I", true)
  | 3 => ("DeedProofs$Judge", "taken", "[Z", true)
  | 4 => ("DeedProofs$Judge", "under", "[I", true)
  | 5 => ("DeedProofs$Judge", "values", "[I", true)
  | _ => ("DeedProofs$Judge", "papers", "I", false)
def tyX2 : Nat → FieldType := fun k => match k with
  | 0 => .object "DeedProofs$Book"
  | 1 => .array .int
  | 2 => .array .int
  | 3 => .array .boolean
  | 4 => .array .int
  | 5 => .array .int
  | _ => .int
theorem nmX2 : ∀ a, a < 7 → ∀ b, b < 7 → a ≠ b → (TX2 a).2.1 ≠ (TX2 b).2.1 := by decide +kernel
theorem tyX2_ok : ∀ k, k < 7 → parseFieldDescriptor (TX2 k).2.2.1 = some (tyX2 k) := by decide +kernel
abbrev cX2_init : ByteArray := prog_4_method_1_code
def yX2_init : MethodName := ⟨RX2, "<init>", "(LDeedProofs$Book;)V"⟩
abbrev cX2_weigh : ByteArray := prog_4_method_2_code
def yX2_weigh : MethodName := ⟨RX2, "weigh", "(III)V"⟩
abbrev cX2_lackOf : ByteArray := prog_4_method_3_code
def yX2_lackOf : MethodName := ⟨RX2, "lackOf", "(III)I"⟩
abbrev cX2_gives : ByteArray := prog_4_method_4_code
def yX2_gives : MethodName := ⟨RX2, "gives", "(IIII)Z"⟩
abbrev cX2_factOfStep : ByteArray := prog_4_method_5_code
def yX2_factOfStep : MethodName := ⟨RX2, "factOfStep", "(III)I"⟩
abbrev cX2_factOfTerm : ByteArray := prog_4_method_6_code
def yX2_factOfTerm : MethodName := ⟨RX2, "factOfTerm", "(III)I"⟩
abbrev cX2_saidBy : ByteArray := prog_4_method_7_code
def yX2_saidBy : MethodName := ⟨RX2, "saidBy", "(III)I"⟩
abbrev cX2_papersUnder : ByteArray := prog_4_method_8_code
def yX2_papersUnder : MethodName := ⟨RX2, "papersUnder", "(I)I"⟩
abbrev cX2_papersUnderStep : ByteArray := prog_4_method_9_code
def yX2_papersUnderStep : MethodName := ⟨RX2, "papersUnderStep", "(II)I"⟩
def RX3 : String := "DeedProofs$Line"
def TX3 : u_T := fun k => match k with
  | _ => ("", "", "", false)
def tyX3 : Nat → FieldType := fun k => match k with
  | _ => .int
theorem nmX3 : ∀ a, a < 0 → ∀ b, b < 0 → a ≠ b → (TX3 a).2.1 ≠ (TX3 b).2.1 := by decide +kernel
theorem tyX3_ok : ∀ k, k < 0 → parseFieldDescriptor (TX3 k).2.2.1 = some (tyX3 k) := by decide +kernel
abbrev cX3_init : ByteArray := prog_5_method_1_code
def yX3_init : MethodName := ⟨RX3, "<init>", "()V"⟩
abbrev cX3_actLeans : ByteArray := prog_5_method_2_code
def yX3_actLeans : MethodName := ⟨RX3, "actLeans", "(III)I"⟩
abbrev cX3_actShows : ByteArray := prog_5_method_3_code
def yX3_actShows : MethodName := ⟨RX3, "actShows", "(III)I"⟩
abbrev cX3_actEnds : ByteArray := prog_5_method_4_code
def yX3_actEnds : MethodName := ⟨RX3, "actEnds", "(III)I"⟩
def RX4 : String := "DeedProofs$Open"
def TX4 : u_T := fun k => match k with
  | _ => ("", "", "", false)
def tyX4 : Nat → FieldType := fun k => match k with
  | _ => .int
theorem nmX4 : ∀ a, a < 0 → ∀ b, b < 0 → a ≠ b → (TX4 a).2.1 ≠ (TX4 b).2.1 := by decide +kernel
theorem tyX4_ok : ∀ k, k < 0 → parseFieldDescriptor (TX4 k).2.2.1 = some (tyX4 k) := by decide +kernel
abbrev cX4_init : ByteArray := prog_6_method_1_code
def yX4_init : MethodName := ⟨RX4, "<init>", "()V"⟩
abbrev cX4_actShows : ByteArray := prog_6_method_2_code
def yX4_actShows : MethodName := ⟨RX4, "actShows", "(III)I"⟩
abbrev cX4_actEnds : ByteArray := prog_6_method_3_code
def yX4_actEnds : MethodName := ⟨RX4, "actEnds", "(III)I"⟩
def RX5 : String := "DeedProofs$Piece"
def TX5 : u_T := fun k => match k with
  | _ => ("", "", "", false)
def tyX5 : Nat → FieldType := fun k => match k with
  | _ => .int
theorem nmX5 : ∀ a, a < 0 → ∀ b, b < 0 → a ≠ b → (TX5 a).2.1 ≠ (TX5 b).2.1 := by decide +kernel
theorem tyX5_ok : ∀ k, k < 0 → parseFieldDescriptor (TX5 k).2.2.1 = some (tyX5 k) := by decide +kernel
abbrev cX5_init : ByteArray := prog_7_method_1_code
def yX5_init : MethodName := ⟨RX5, "<init>", "()V"⟩
abbrev cX5_actLeans : ByteArray := prog_7_method_2_code
def yX5_actLeans : MethodName := ⟨RX5, "actLeans", "(III)I"⟩
def RX6 : String := "DeedProofs$Reach"
def TX6 : u_T := fun k => match k with
  | 0 => ("DeedProofs$Reach", "book", "LDeedProofs$Book;", true)
  | 1 => ("DeedProofs$Reach", "cost", "[I", true)
  | 2 => ("DeedProofs$Reach", "reached", "[I", true)
  | 3 => ("DeedProofs$Reach", "size", "I", false)
  | 4 => ("DeedProofs$Reach", "settled", "[Z", true)
  | 5 => ("DeedProofs$Reach", "bySize", "Z", false)
  | 6 => ("DeedProofs$Reach", "inForce", "[LDeedProofs$Text;", true)
  | _ => ("DeedProofs$Reach", "values", "[I", true)
def tyX6 : Nat → FieldType := fun k => match k with
  | 0 => .object "DeedProofs$Book"
  | 1 => .array .int
  | 2 => .array .int
  | 3 => .int
  | 4 => .array .boolean
  | 5 => .boolean
  | 6 => .array (.object "DeedProofs$Text")
  | _ => .array .int
theorem nmX6 : ∀ a, a < 8 → ∀ b, b < 8 → a ≠ b → (TX6 a).2.1 ≠ (TX6 b).2.1 := by decide +kernel
theorem tyX6_ok : ∀ k, k < 8 → parseFieldDescriptor (TX6 k).2.2.1 = some (tyX6 k) := by decide +kernel
abbrev cX6_init : ByteArray := prog_8_method_1_code
def yX6_init : MethodName := ⟨RX6, "<init>", "(LDeedProofs$Book;)V"⟩
abbrev cX6_has : ByteArray := prog_8_method_2_code
def yX6_has : MethodName := ⟨RX6, "has", "(I)Z"⟩
abbrev cX6_begin : ByteArray := prog_8_method_3_code
def yX6_begin : MethodName := ⟨RX6, "begin", "(IZ)V"⟩
abbrev cX6_spread : ByteArray := prog_8_method_4_code
def yX6_spread : MethodName := ⟨RX6, "spread", "(IIZ)V"⟩
abbrev cX6_bringLeast : ByteArray := prog_8_method_5_code
def yX6_bringLeast : MethodName := ⟨RX6, "bringLeast", "(I)V"⟩
abbrev cX6_useIn : ByteArray := prog_8_method_6_code
def yX6_useIn : MethodName := ⟨RX6, "useIn", "(LDeedProofs$Text;I)V"⟩
abbrev cX6_useOnce : ByteArray := prog_8_method_7_code
def yX6_useOnce : MethodName := ⟨RX6, "useOnce", "(LDeedProofs$Text;)V"⟩
abbrev cX6_settleFrom : ByteArray := prog_8_method_8_code
def yX6_settleFrom : MethodName := ⟨RX6, "settleFrom", "(I)V"⟩
abbrev cX6_bind : ByteArray := prog_8_method_9_code
def yX6_bind : MethodName := ⟨RX6, "bind", "(LDeedProofs$Text;II)Z"⟩
abbrev cX6_bindArg : ByteArray := prog_8_method_10_code
def yX6_bindArg : MethodName := ⟨RX6, "bindArg", "(II)Z"⟩
abbrev cX6_complete : ByteArray := prog_8_method_11_code
def yX6_complete : MethodName := ⟨RX6, "complete", "(LDeedProofs$Text;I)V"⟩
abbrev cX6_conclude : ByteArray := prog_8_method_12_code
def yX6_conclude : MethodName := ⟨RX6, "conclude", "(LDeedProofs$Text;)V"⟩
abbrev cX6_arrive : ByteArray := prog_8_method_13_code
def yX6_arrive : MethodName := ⟨RX6, "arrive", "(II)V"⟩
def RX7 : String := "DeedProofs$RuleReader"
def TX7 : u_T := fun k => match k with
  | 0 => ("DeedProofs$RuleReader", "tape", "[B", false)
  | 1 => ("DeedProofs$RuleReader", "size", "I", false)
  | 2 => ("DeedProofs$RuleReader", "at", "I", false)
  | 3 => ("DeedProofs$RuleReader", "text", "LDeedProofs$Text;", false)
  | _ => ("DeedProofs$RuleReader", "askedLetters", "I", false)
def tyX7 : Nat → FieldType := fun k => match k with
  | 0 => .array .byte
  | 1 => .int
  | 2 => .int
  | 3 => .object "DeedProofs$Text"
  | _ => .int
theorem nmX7 : ∀ a, a < 5 → ∀ b, b < 5 → a ≠ b → (TX7 a).2.1 ≠ (TX7 b).2.1 := by decide +kernel
theorem tyX7_ok : ∀ k, k < 5 → parseFieldDescriptor (TX7 k).2.2.1 = some (tyX7 k) := by decide +kernel
abbrev cX7_init : ByteArray := prog_9_method_1_code
def yX7_init : MethodName := ⟨RX7, "<init>", "()V"⟩
abbrev cX7_read : ByteArray := prog_9_method_2_code
def yX7_read : MethodName := ⟨RX7, "read", "([BILDeedProofs$Text;)I"⟩
abbrev cX7_readParts : ByteArray := prog_9_method_3_code
def yX7_readParts : MethodName := ⟨RX7, "readParts", "()Z"⟩
abbrev cX7_readPart : ByteArray := prog_9_method_4_code
def yX7_readPart : MethodName := ⟨RX7, "readPart", "()Z"⟩
abbrev cX7_readTerm : ByteArray := prog_9_method_5_code
def yX7_readTerm : MethodName := ⟨RX7, "readTerm", "(I)Z"⟩
abbrev cX7_readTest : ByteArray := prog_9_method_6_code
def yX7_readTest : MethodName := ⟨RX7, "readTest", "(I)Z"⟩
abbrev cX7_readArg : ByteArray := prog_9_method_7_code
def yX7_readArg : MethodName := ⟨RX7, "readArg", "(Z)I"⟩
abbrev cX7_placeIn : ByteArray := prog_9_method_8_code
def yX7_placeIn : MethodName := ⟨RX7, "placeIn", "(Ljava/lang/String;)I"⟩
abbrev cX7_skip : ByteArray := prog_9_method_9_code
def yX7_skip : MethodName := ⟨RX7, "skip", "(C)Z"⟩
def RX8 : String := "DeedProofs$Shared"
def TX8 : u_T := fun k => match k with
  | _ => ("", "", "", false)
def tyX8 : Nat → FieldType := fun k => match k with
  | _ => .int
theorem nmX8 : ∀ a, a < 0 → ∀ b, b < 0 → a ≠ b → (TX8 a).2.1 ≠ (TX8 b).2.1 := by decide +kernel
theorem tyX8_ok : ∀ k, k < 0 → parseFieldDescriptor (TX8 k).2.2.1 = some (tyX8 k) := by decide +kernel
abbrev cX8_init : ByteArray := prog_10_method_1_code
def yX8_init : MethodName := ⟨RX8, "<init>", "()V"⟩
abbrev cX8_actShows : ByteArray := prog_10_method_2_code
def yX8_actShows : MethodName := ⟨RX8, "actShows", "(III)I"⟩
def RX9 : String := "DeedProofs$Tactician"
def TX9 : u_T := fun k => match k with
  | 0 => ("DeedProofs$Tactician", "book", "LDeedProofs$Book;", true)
  | 1 => ("DeedProofs$Tactician", "reach", "LDeedProofs$Reach;", true)
  | 2 => ("DeedProofs$Tactician", "spent", "I", false)
  | 3 => ("DeedProofs$Tactician", "limit", "I", false)
  | 4 => ("DeedProofs$Tactician", "start", "I", false)
  | _ => ("DeedProofs$Tactician", "size", "I", false)
def tyX9 : Nat → FieldType := fun k => match k with
  | 0 => .object "DeedProofs$Book"
  | 1 => .object "DeedProofs$Reach"
  | 2 => .int
  | 3 => .int
  | 4 => .int
  | _ => .int
theorem nmX9 : ∀ a, a < 6 → ∀ b, b < 6 → a ≠ b → (TX9 a).2.1 ≠ (TX9 b).2.1 := by decide +kernel
theorem tyX9_ok : ∀ k, k < 6 → parseFieldDescriptor (TX9 k).2.2.1 = some (tyX9 k) := by decide +kernel
abbrev cX9_init : ByteArray := prog_11_method_1_code
def yX9_init : MethodName := ⟨RX9, "<init>", "(LDeedProofs$Book;LDeedProofs$Reach;)V"⟩
abbrev cX9_faultOf : ByteArray := prog_11_method_2_code
def yX9_faultOf : MethodName := ⟨RX9, "faultOf", "([BI)I"⟩
abbrev cX9_play : ByteArray := prog_11_method_3_code
def yX9_play : MethodName := ⟨RX9, "play", "(II)V"⟩
abbrev cX9_signAt : ByteArray := prog_11_method_4_code
def yX9_signAt : MethodName := ⟨RX9, "signAt", "(I)I"⟩
abbrev cX9_playPieces : ByteArray := prog_11_method_5_code
def yX9_playPieces : MethodName := ⟨RX9, "playPieces", "(II)V"⟩
abbrev cX9_playTry : ByteArray := prog_11_method_6_code
def yX9_playTry : MethodName := ⟨RX9, "playTry", "(III)Z"⟩
abbrev cX9_endOfTry : ByteArray := prog_11_method_7_code
def yX9_endOfTry : MethodName := ⟨RX9, "endOfTry", "(I)I"⟩
def RX10 : String := "DeedProofs$Text"
def TX10 : u_T := fun k => match k with
  | 0 => ("DeedProofs$Text", "terms", "I", false)
  | 1 => ("DeedProofs$Text", "tests", "I", false)
  | 2 => ("DeedProofs$Text", "termLetters", "I", false)
  | 3 => ("DeedProofs$Text", "parts", "[I", true)
  | _ => ("DeedProofs$Text", "checks", "[I", true)
def tyX10 : Nat → FieldType := fun k => match k with
  | 0 => .int
  | 1 => .int
  | 2 => .int
  | 3 => .array .int
  | _ => .array .int
theorem nmX10 : ∀ a, a < 5 → ∀ b, b < 5 → a ≠ b → (TX10 a).2.1 ≠ (TX10 b).2.1 := by decide +kernel
theorem tyX10_ok : ∀ k, k < 5 → parseFieldDescriptor (TX10 k).2.2.1 = some (tyX10 k) := by decide +kernel
abbrev cX10_init : ByteArray := prog_12_method_1_code
def yX10_init : MethodName := ⟨RX10, "<init>", "()V"⟩
abbrev cX10_newValues : ByteArray := prog_12_method_2_code
def yX10_newValues : MethodName := ⟨RX10, "newValues", "()[I"⟩
abbrev cX10_putLetters : ByteArray := prog_12_method_3_code
def yX10_putLetters : MethodName := ⟨RX10, "putLetters", "(I[I)V"⟩
abbrev cX10_hasInTerms : ByteArray := prog_12_method_4_code
def yX10_hasInTerms : MethodName := ⟨RX10, "hasInTerms", "(I)Z"⟩
abbrev cX10_factOf : ByteArray := prog_12_method_5_code
def yX10_factOf : MethodName := ⟨RX10, "factOf", "(I[I)I"⟩
abbrev cX10_testsHold : ByteArray := prog_12_method_6_code
def yX10_testsHold : MethodName := ⟨RX10, "testsHold", "([I)Z"⟩
abbrev cX10_become : ByteArray := prog_12_method_7_code
def yX10_become : MethodName := ⟨RX10, "become", "(LDeedProofs$Text;)V"⟩
def RX11 : String := "DeedProofs"
def TX11 : u_T := fun k => match k with
  | 0 => ("DeedProofs", "book", "LDeedProofs$Book;", true)
  | 1 => ("DeedProofs", "judge", "LDeedProofs$Judge;", true)
  | 2 => ("DeedProofs", "reach", "LDeedProofs$Reach;", true)
  | 3 => ("DeedProofs", "tactician", "LDeedProofs$Tactician;", true)
  | 4 => ("DeedProofs", "reader", "LDeedProofs$RuleReader;", true)
  | 5 => ("DeedProofs", "kinds", "[LDeedProofs$Line;", true)
  | _ => ("DeedProofs", "kept", "LDeedProofs$Book;", false)
def tyX11 : Nat → FieldType := fun k => match k with
  | 0 => .object "DeedProofs$Book"
  | 1 => .object "DeedProofs$Judge"
  | 2 => .object "DeedProofs$Reach"
  | 3 => .object "DeedProofs$Tactician"
  | 4 => .object "DeedProofs$RuleReader"
  | 5 => .array (.object "DeedProofs$Line")
  | _ => .object "DeedProofs$Book"
theorem nmX11 : ∀ a, a < 7 → ∀ b, b < 7 → a ≠ b → (TX11 a).2.1 ≠ (TX11 b).2.1 := by decide +kernel
theorem tyX11_ok : ∀ k, k < 7 → parseFieldDescriptor (TX11 k).2.2.1 = some (tyX11 k) := by decide +kernel
abbrev cX11_init : ByteArray := prog_1_method_1_code
def yX11_init : MethodName := ⟨RX11, "<init>", "()V"⟩
abbrev cX11_day : ByteArray := prog_1_method_2_code
def yX11_day : MethodName := ⟨RX11, "day", "(I)I"⟩
abbrev cX11_feed : ByteArray := prog_1_method_3_code
def yX11_feed : MethodName := ⟨RX11, "feed", "(JI)I"⟩
abbrev cX11_rule : ByteArray := prog_1_method_4_code
def yX11_rule : MethodName := ⟨RX11, "rule", "()I"⟩
abbrev cX11_change : ByteArray := prog_1_method_5_code
def yX11_change : MethodName := ⟨RX11, "change", "(II)I"⟩
abbrev cX11_told : ByteArray := prog_1_method_6_code
def yX11_told : MethodName := ⟨RX11, "told", "(III)I"⟩
abbrev cX11_paper : ByteArray := prog_1_method_7_code
def yX11_paper : MethodName := ⟨RX11, "paper", "(II)I"⟩
abbrev cX11_shown : ByteArray := prog_1_method_8_code
def yX11_shown : MethodName := ⟨RX11, "shown", "(IZ)I"⟩
abbrev cX11_of : ByteArray := prog_1_method_9_code
def yX11_of : MethodName := ⟨RX11, "of", "(II)I"⟩
abbrev cX11_follows : ByteArray := prog_1_method_10_code
def yX11_follows : MethodName := ⟨RX11, "follows", "(III)I"⟩
abbrev cX11_many : ByteArray := prog_1_method_11_code
def yX11_many : MethodName := ⟨RX11, "many", "(I)I"⟩
abbrev cX11_proof : ByteArray := prog_1_method_12_code
def yX11_proof : MethodName := ⟨RX11, "proof", "(I)I"⟩
abbrev cX11_step : ByteArray := prog_1_method_13_code
def yX11_step : MethodName := ⟨RX11, "step", "(IIIIIII)I"⟩
abbrev cX11_lacks : ByteArray := prog_1_method_14_code
def yX11_lacks : MethodName := ⟨RX11, "lacks", "(III)I"⟩
abbrev cX11_says : ByteArray := prog_1_method_15_code
def yX11_says : MethodName := ⟨RX11, "says", "(III)I"⟩
abbrev cX11_check : ByteArray := prog_1_method_16_code
def yX11_check : MethodName := ⟨RX11, "check", "(II)I"⟩
abbrev cX11_leans : ByteArray := prog_1_method_17_code
def yX11_leans : MethodName := ⟨RX11, "leans", "(I)I"⟩
abbrev cX11_hole : ByteArray := prog_1_method_18_code
def yX11_hole : MethodName := ⟨RX11, "hole", "(II)I"⟩
abbrev cX11_fill : ByteArray := prog_1_method_19_code
def yX11_fill : MethodName := ⟨RX11, "fill", "(II)I"⟩
abbrev cX11_act : ByteArray := prog_1_method_20_code
def yX11_act : MethodName := ⟨RX11, "act", "(III)I"⟩
abbrev cX11_as : ByteArray := prog_1_method_21_code
def yX11_as : MethodName := ⟨RX11, "as", "(II)I"⟩
abbrev cX11_title : ByteArray := prog_1_method_22_code
def yX11_title : MethodName := ⟨RX11, "title", "(I)I"⟩
abbrev cX11_stand : ByteArray := prog_1_method_23_code
def yX11_stand : MethodName := ⟨RX11, "stand", "(II)I"⟩
abbrev cX11_fall : ByteArray := prog_1_method_24_code
def yX11_fall : MethodName := ⟨RX11, "fall", "(I)I"⟩
abbrev cX11_carry : ByteArray := prog_1_method_25_code
def yX11_carry : MethodName := ⟨RX11, "carry", "(II)I"⟩
abbrev cX11_clash : ByteArray := prog_1_method_26_code
def yX11_clash : MethodName := ⟨RX11, "clash", "(II)I"⟩
abbrev cX11_every : ByteArray := prog_1_method_27_code
def yX11_every : MethodName := ⟨RX11, "every", "(I)I"⟩
abbrev cX11_enough : ByteArray := prog_1_method_28_code
def yX11_enough : MethodName := ⟨RX11, "enough", "(II)I"⟩
abbrev cX11_could : ByteArray := prog_1_method_29_code
def yX11_could : MethodName := ⟨RX11, "could", "(II)I"⟩
abbrev cX11_tactic : ByteArray := prog_1_method_30_code
def yX11_tactic : MethodName := ⟨RX11, "tactic", "()I"⟩
abbrev cX11_run : ByteArray := prog_1_method_31_code
def yX11_run : MethodName := ⟨RX11, "run", "(III)I"⟩
abbrev cX11_found : ByteArray := prog_1_method_32_code
def yX11_found : MethodName := ⟨RX11, "found", "(I)I"⟩
abbrev cX11_image : ByteArray := prog_1_method_33_code
def yX11_image : MethodName := ⟨RX11, "image", "()I"⟩
abbrev cX11_undo : ByteArray := prog_1_method_34_code
def yX11_undo : MethodName := ⟨RX11, "undo", "()I"⟩
abbrev cX11_count : ByteArray := prog_1_method_35_code
def yX11_count : MethodName := ⟨RX11, "count", "(I)I"⟩
abbrev cX11_isDay : ByteArray := prog_1_method_36_code
def yX11_isDay : MethodName := ⟨RX11, "isDay", "(I)Z"⟩
abbrev cX11_isFact : ByteArray := prog_1_method_37_code
def yX11_isFact : MethodName := ⟨RX11, "isFact", "(I)Z"⟩
abbrev cX11_isPerson : ByteArray := prog_1_method_38_code
def yX11_isPerson : MethodName := ⟨RX11, "isPerson", "(I)Z"⟩
abbrev cX11_isKind : ByteArray := prog_1_method_39_code
def yX11_isKind : MethodName := ⟨RX11, "isKind", "(I)Z"⟩
abbrev cX11_readTape : ByteArray := prog_1_method_40_code
def yX11_readTape : MethodName := ⟨RX11, "readTape", "(LDeedProofs$Text;)I"⟩
abbrev cX11_followsToday : ByteArray := prog_1_method_41_code
def yX11_followsToday : MethodName := ⟨RX11, "followsToday", "(II)Z"⟩
abbrev cX11_standsByProof : ByteArray := prog_1_method_42_code
def yX11_standsByProof : MethodName := ⟨RX11, "standsByProof", "(II)Z"⟩
abbrev cX11_standingToday : ByteArray := prog_1_method_43_code
def yX11_standingToday : MethodName := ⟨RX11, "standingToday", "(I)I"⟩
abbrev cX11_fewest : ByteArray := prog_1_method_44_code
def yX11_fewest : MethodName := ⟨RX11, "fewest", "(III)I"⟩
def RX12 : String := "DeedProofsModel"
def TX12 : u_T := fun k => match k with
  | 0 => ("DeedProofsModel", "p", "[I", true)
  | 1 => ("DeedProofsModel", "imaged", "[I", true)
  | 2 => ("DeedProofsModel", "hasImage", "Z", false)
  | 3 => ("DeedProofsModel", "at", "I", false)
  | 4 => ("DeedProofsModel", "isFaulty", "Z", false)
  | 5 => ("DeedProofsModel", "height", "[I", true)
  | 6 => ("DeedProofsModel", "size", "[I", true)
  | 7 => ("DeedProofsModel", "letters", "[I", true)
  | 8 => ("DeedProofsModel", "keptFalse", "[I", true)
  | 9 => ("DeedProofsModel", "asked", "[I", true)
  | 10 => ("DeedProofsModel", "opens", "I", false)
  | 11 => ("DeedProofsModel", "running", "I", false)
  | 12 => ("DeedProofsModel", "pays", "I", false)
  | 13 => ("DeedProofsModel", "spent", "I", false)
  | _ => ("DeedProofsModel", "news", "[I", true)
def tyX12 : Nat → FieldType := fun k => match k with
  | 0 => .array .int
  | 1 => .array .int
  | 2 => .boolean
  | 3 => .int
  | 4 => .boolean
  | 5 => .array .int
  | 6 => .array .int
  | 7 => .array .int
  | 8 => .array .int
  | 9 => .array .int
  | 10 => .int
  | 11 => .int
  | 12 => .int
  | 13 => .int
  | _ => .array .int
theorem nmX12 : ∀ a, a < 15 → ∀ b, b < 15 → a ≠ b → (TX12 a).2.1 ≠ (TX12 b).2.1 := by decide +kernel
theorem tyX12_ok : ∀ k, k < 15 → parseFieldDescriptor (TX12 k).2.2.1 = some (tyX12 k) := by decide +kernel
abbrev cX12_init : ByteArray := prog_14_method_1_code
def yX12_init : MethodName := ⟨RX12, "<init>", "()V"⟩
abbrev cX12_in : ByteArray := prog_14_method_3_code
def yX12_in : MethodName := ⟨RX12, "in", "(III)Z"⟩
abbrev cX12_isDay : ByteArray := prog_14_method_4_code
def yX12_isDay : MethodName := ⟨RX12, "isDay", "(I)Z"⟩
abbrev cX12_isFact : ByteArray := prog_14_method_5_code
def yX12_isFact : MethodName := ⟨RX12, "isFact", "(I)Z"⟩
abbrev cX12_day : ByteArray := prog_14_method_6_code
def yX12_day : MethodName := ⟨RX12, "day", "(I)I"⟩
abbrev cX12_feed : ByteArray := prog_14_method_7_code
def yX12_feed : MethodName := ⟨RX12, "feed", "(JI)I"⟩
abbrev cX12_here : ByteArray := prog_14_method_8_code
def yX12_here : MethodName := ⟨RX12, "here", "()I"⟩
abbrev cX12_eats : ByteArray := prog_14_method_9_code
def yX12_eats : MethodName := ⟨RX12, "eats", "(I)V"⟩
abbrev cX12_shapeOf : ByteArray := prog_14_method_10_code
def yX12_shapeOf : MethodName := ⟨RX12, "shapeOf", "(I)I"⟩
abbrev cX12_argument : ByteArray := prog_14_method_11_code
def yX12_argument : MethodName := ⟨RX12, "argument", "()I"⟩
abbrev cX12_term : ByteArray := prog_14_method_12_code
def yX12_term : MethodName := ⟨RX12, "term", "(I)V"⟩
abbrev cX12_test : ByteArray := prog_14_method_13_code
def yX12_test : MethodName := ⟨RX12, "test", "(I)V"⟩
abbrev cX12_part : ByteArray := prog_14_method_14_code
def yX12_part : MethodName := ⟨RX12, "part", "(I)V"⟩
abbrev cX12_lettersIn : ByteArray := prog_14_method_15_code
def yX12_lettersIn : MethodName := ⟨RX12, "lettersIn", "(II)I"⟩
abbrev cX12_termLetters : ByteArray := prog_14_method_16_code
def yX12_termLetters : MethodName := ⟨RX12, "termLetters", "(I)I"⟩
abbrev cX12_reads : ByteArray := prog_14_method_17_code
def yX12_reads : MethodName := ⟨RX12, "reads", "()I"⟩
abbrev cX12_rule : ByteArray := prog_14_method_18_code
def yX12_rule : MethodName := ⟨RX12, "rule", "()I"⟩
abbrev cX12_isRule : ByteArray := prog_14_method_19_code
def yX12_isRule : MethodName := ⟨RX12, "isRule", "(I)Z"⟩
abbrev cX12_change : ByteArray := prog_14_method_20_code
def yX12_change : MethodName := ⟨RX12, "change", "(II)I"⟩
abbrev cX12_changeOn : ByteArray := prog_14_method_21_code
def yX12_changeOn : MethodName := ⟨RX12, "changeOn", "(II)I"⟩
abbrev cX12_textOn : ByteArray := prog_14_method_22_code
def yX12_textOn : MethodName := ⟨RX12, "textOn", "(II)I"⟩
abbrev cX12_told : ByteArray := prog_14_method_23_code
def yX12_told : MethodName := ⟨RX12, "told", "(III)I"⟩
abbrev cX12_paper : ByteArray := prog_14_method_24_code
def yX12_paper : MethodName := ⟨RX12, "paper", "(II)I"⟩
abbrev cX12_isPaper : ByteArray := prog_14_method_25_code
def yX12_isPaper : MethodName := ⟨RX12, "isPaper", "(I)Z"⟩
abbrev cX12_shown : ByteArray := prog_14_method_26_code
def yX12_shown : MethodName := ⟨RX12, "shown", "(IZ)I"⟩
abbrev cX12_of : ByteArray := prog_14_method_27_code
def yX12_of : MethodName := ⟨RX12, "of", "(II)I"⟩
abbrev cX12_sets : ByteArray := prog_14_method_28_code
def yX12_sets : MethodName := ⟨RX12, "sets", "(I)V"⟩
abbrev cX12_value : ByteArray := prog_14_method_29_code
def yX12_value : MethodName := ⟨RX12, "value", "(I)I"⟩
abbrev cX12_factAt : ByteArray := prog_14_method_30_code
def yX12_factAt : MethodName := ⟨RX12, "factAt", "(I)I"⟩
abbrev cX12_testsHold : ByteArray := prog_14_method_31_code
def yX12_testsHold : MethodName := ⟨RX12, "testsHold", "(I)Z"⟩
abbrev cX12_isPlain : ByteArray := prog_14_method_32_code
def yX12_isPlain : MethodName := ⟨RX12, "isPlain", "(I)Z"⟩
abbrev cX12_areBelow : ByteArray := prog_14_method_33_code
def yX12_areBelow : MethodName := ⟨RX12, "areBelow", "(II)Z"⟩
abbrev cX12_begins : ByteArray := prog_14_method_34_code
def yX12_begins : MethodName := ⟨RX12, "begins", "()V"⟩
abbrev cX12_works : ByteArray := prog_14_method_35_code
def yX12_works : MethodName := ⟨RX12, "works", "(I)V"⟩
abbrev cX12_sizes : ByteArray := prog_14_method_36_code
def yX12_sizes : MethodName := ⟨RX12, "sizes", "(I)V"⟩
abbrev cX12_followsOn : ByteArray := prog_14_method_37_code
def yX12_followsOn : MethodName := ⟨RX12, "followsOn", "(II)Z"⟩
abbrev cX12_follows : ByteArray := prog_14_method_38_code
def yX12_follows : MethodName := ⟨RX12, "follows", "(III)I"⟩
abbrev cX12_many : ByteArray := prog_14_method_39_code
def yX12_many : MethodName := ⟨RX12, "many", "(I)I"⟩
abbrev cX12_isProof : ByteArray := prog_14_method_40_code
def yX12_isProof : MethodName := ⟨RX12, "isProof", "(I)Z"⟩
abbrev cX12_stepAt : ByteArray := prog_14_method_41_code
def yX12_stepAt : MethodName := ⟨RX12, "stepAt", "(II)I"⟩
abbrev cX12_proof : ByteArray := prog_14_method_42_code
def yX12_proof : MethodName := ⟨RX12, "proof", "(I)I"⟩
abbrev cX12_isUsed : ByteArray := prog_14_method_43_code
def yX12_isUsed : MethodName := ⟨RX12, "isUsed", "(I)Z"⟩
abbrev cX12_step : ByteArray := prog_14_method_44_code
def yX12_step : MethodName := ⟨RX12, "step", "(IIIIIII)I"⟩
abbrev cX12_saysOn : ByteArray := prog_14_method_45_code
def yX12_saysOn : MethodName := ⟨RX12, "saysOn", "(III)I"⟩
abbrev cX12_termOn : ByteArray := prog_14_method_46_code
def yX12_termOn : MethodName := ⟨RX12, "termOn", "(IIII)I"⟩
abbrev cX12_isFrom : ByteArray := prog_14_method_47_code
def yX12_isFrom : MethodName := ⟨RX12, "isFrom", "(IIII)Z"⟩
abbrev cX12_lacksOn : ByteArray := prog_14_method_48_code
def yX12_lacksOn : MethodName := ⟨RX12, "lacksOn", "(III)I"⟩
abbrev cX12_holesOf : ByteArray := prog_14_method_49_code
def yX12_holesOf : MethodName := ⟨RX12, "holesOf", "(II)I"⟩
abbrev cX12_isTaken : ByteArray := prog_14_method_50_code
def yX12_isTaken : MethodName := ⟨RX12, "isTaken", "(II)Z"⟩
abbrev cX12_isStep : ByteArray := prog_14_method_51_code
def yX12_isStep : MethodName := ⟨RX12, "isStep", "(II)Z"⟩
abbrev cX12_lacks : ByteArray := prog_14_method_52_code
def yX12_lacks : MethodName := ⟨RX12, "lacks", "(III)I"⟩
abbrev cX12_says : ByteArray := prog_14_method_53_code
def yX12_says : MethodName := ⟨RX12, "says", "(III)I"⟩
abbrev cX12_check : ByteArray := prog_14_method_54_code
def yX12_check : MethodName := ⟨RX12, "check", "(II)I"⟩
abbrev cX12_usesEnds : ByteArray := prog_14_method_55_code
def yX12_usesEnds : MethodName := ⟨RX12, "usesEnds", "(I)Z"⟩
abbrev cX12_leansOf : ByteArray := prog_14_method_56_code
def yX12_leansOf : MethodName := ⟨RX12, "leansOf", "(I)I"⟩
abbrev cX12_leans : ByteArray := prog_14_method_57_code
def yX12_leans : MethodName := ⟨RX12, "leans", "(I)I"⟩
abbrev cX12_hole : ByteArray := prog_14_method_58_code
def yX12_hole : MethodName := ⟨RX12, "hole", "(II)I"⟩
abbrev cX12_fill : ByteArray := prog_14_method_59_code
def yX12_fill : MethodName := ⟨RX12, "fill", "(II)I"⟩
abbrev cX12_aboveOf : ByteArray := prog_14_method_60_code
def yX12_aboveOf : MethodName := ⟨RX12, "aboveOf", "(I)I"⟩
abbrev cX12_leansFrom : ByteArray := prog_14_method_61_code
def yX12_leansFrom : MethodName := ⟨RX12, "leansFrom", "(III)I"⟩
abbrev cX12_showsFrom : ByteArray := prog_14_method_62_code
def yX12_showsFrom : MethodName := ⟨RX12, "showsFrom", "(III)I"⟩
abbrev cX12_endsFrom : ByteArray := prog_14_method_63_code
def yX12_endsFrom : MethodName := ⟨RX12, "endsFrom", "(III)I"⟩
abbrev cX12_act : ByteArray := prog_14_method_64_code
def yX12_act : MethodName := ⟨RX12, "act", "(III)I"⟩
abbrev cX12_as : ByteArray := prog_14_method_65_code
def yX12_as : MethodName := ⟨RX12, "as", "(II)I"⟩
abbrev cX12_isTitle : ByteArray := prog_14_method_66_code
def yX12_isTitle : MethodName := ⟨RX12, "isTitle", "(I)Z"⟩
abbrev cX12_title : ByteArray := prog_14_method_67_code
def yX12_title : MethodName := ⟨RX12, "title", "(I)I"⟩
abbrev cX12_standsOn : ByteArray := prog_14_method_68_code
def yX12_standsOn : MethodName := ⟨RX12, "standsOn", "(II)I"⟩
abbrev cX12_stand : ByteArray := prog_14_method_69_code
def yX12_stand : MethodName := ⟨RX12, "stand", "(II)I"⟩
abbrev cX12_fall : ByteArray := prog_14_method_70_code
def yX12_fall : MethodName := ⟨RX12, "fall", "(I)I"⟩
abbrev cX12_carry : ByteArray := prog_14_method_71_code
def yX12_carry : MethodName := ⟨RX12, "carry", "(II)I"⟩
abbrev cX12_clash : ByteArray := prog_14_method_72_code
def yX12_clash : MethodName := ⟨RX12, "clash", "(II)I"⟩
abbrev cX12_every : ByteArray := prog_14_method_73_code
def yX12_every : MethodName := ⟨RX12, "every", "(I)I"⟩
abbrev cX12_many0 : ByteArray := prog_14_method_74_code
def yX12_many0 : MethodName := ⟨RX12, "many0", "(I)I"⟩
abbrev cX12_fewest : ByteArray := prog_14_method_75_code
def yX12_fewest : MethodName := ⟨RX12, "fewest", "(III)I"⟩
abbrev cX12_enough : ByteArray := prog_14_method_76_code
def yX12_enough : MethodName := ⟨RX12, "enough", "(II)I"⟩
abbrev cX12_could : ByteArray := prog_14_method_77_code
def yX12_could : MethodName := ⟨RX12, "could", "(II)I"⟩
abbrev cX12_readsTactic : ByteArray := prog_14_method_78_code
def yX12_readsTactic : MethodName := ⟨RX12, "readsTactic", "()V"⟩
abbrev cX12_readsPiece : ByteArray := prog_14_method_79_code
def yX12_readsPiece : MethodName := ⟨RX12, "readsPiece", "()V"⟩
abbrev cX12_readsTry : ByteArray := prog_14_method_80_code
def yX12_readsTry : MethodName := ⟨RX12, "readsTry", "()V"⟩
abbrev cX12_tactic : ByteArray := prog_14_method_81_code
def yX12_tactic : MethodName := ⟨RX12, "tactic", "()I"⟩
abbrev cX12_byteAt : ByteArray := prog_14_method_82_code
def yX12_byteAt : MethodName := ⟨RX12, "byteAt", "(I)I"⟩
abbrev cX12_runs : ByteArray := prog_14_method_83_code
def yX12_runs : MethodName := ⟨RX12, "runs", "(I)Z"⟩
abbrev cX12_behindTry : ByteArray := prog_14_method_84_code
def yX12_behindTry : MethodName := ⟨RX12, "behindTry", "(I)I"⟩
abbrev cX12_runsTry : ByteArray := prog_14_method_85_code
def yX12_runsTry : MethodName := ⟨RX12, "runsTry", "(I)Z"⟩
abbrev cX12_runsOnce : ByteArray := prog_14_method_86_code
def yX12_runsOnce : MethodName := ⟨RX12, "runsOnce", "(I)Z"⟩
abbrev cX12_runsTactic : ByteArray := prog_14_method_87_code
def yX12_runsTactic : MethodName := ⟨RX12, "runsTactic", "(I)Z"⟩
abbrev cX12_run : ByteArray := prog_14_method_88_code
def yX12_run : MethodName := ⟨RX12, "run", "(III)I"⟩
abbrev cX12_found : ByteArray := prog_14_method_89_code
def yX12_found : MethodName := ⟨RX12, "found", "(I)I"⟩
abbrev cX12_image : ByteArray := prog_14_method_90_code
def yX12_image : MethodName := ⟨RX12, "image", "()I"⟩
abbrev cX12_undo : ByteArray := prog_14_method_91_code
def yX12_undo : MethodName := ⟨RX12, "undo", "()I"⟩
abbrev cX12_count : ByteArray := prog_14_method_92_code
def yX12_count : MethodName := ⟨RX12, "count", "(I)I"⟩
end
section
/-! THE ABSTRACT MACHINE: cells by their places (numbers from 0 on), what is on stack and in locals as values whose references are places; 'ad' says at which address a place lies. A step of it is a step of the machine (part 04). -/
def am_nth {α : Type} : List α → Nat → Option α
  | [], _ => none
  | a :: _, 0 => some a
  | _ :: l, n + 1 => am_nth l n
def am_put {α : Type} : List α → Nat → α → List α
  | [], _, _ => []
  | _ :: l, 0, v => v :: l
  | a :: l, n + 1, v => a :: am_put l n v
theorem am_nth_eq {α : Type} : ∀ (l : List α) (n : Nat), am_nth l n = l[n]?
  | [], n => by simp [am_nth]
  | a :: l, 0 => by simp [am_nth]
  | a :: l, n + 1 => by rw [am_nth, am_nth_eq l n]; simp
theorem am_put_eq {α : Type} : ∀ (l : List α) (n : Nat) (v : α), am_put l n v = l.set n v
  | [], n, v => by simp [am_put]
  | a :: l, 0, v => by simp [am_put]
  | a :: l, n + 1, v => by rw [am_put, am_put_eq l n v]; simp
/-- instruction, its length, three numbers (a local's place, a target, a field ..), a constant -/
abbrev am_I : Type := Instr × Nat × Nat × Nat × Nat × Int32
/-- a method: its name, its bytes, its locals, what it returns, its instructions by their places -/
abbrev am_MI : Type := MethodName × ByteArray × Nat × Option FieldType × List (Option am_I)
/-- a cell: an array of ints (bytes, booleans), an array of references, an object -/
abbrev am_C : Type := (Nat × Nat × (Nat → Int32)) ⊕ (Nat × Nat × (Nat → Option Nat)) ⊕ (Nat × List Value)
abbrev am_H : Type := List am_C
abbrev am_L : Type := List (Option Value)
def am_v (ad : Nat → Nat) : Value → Value
  | .ref i => .ref (ad i)
  | v => v
def am_e (ad : Nat → Nat) (tc : Nat → ClassId) : am_C → va_E
  | .inl (t, n, f) => .inl (tc t, n, .inl f)
  | .inr (.inl (t, n, f)) => .inl (tc t, n, .inr (.inr (.inr (.inr (fun j => (f j).map ad)))))
  | .inr (.inr (ci, fs)) => .inr (ci, fs.map (am_v ad))
def am_w (ad : Nat → Nat) (tc : Nat → ClassId) (h : am_H) : va_W := h.mapIdx (fun i c => (ad i, am_e ad tc c))
theorem am_w_at {ad : Nat → Nat} {tc : Nat → ClassId} {h : am_H} {i : Nat} {c : am_C} (hi : am_nth h i = some c) : (am_w ad tc h)[i]? = some (ad i, am_e ad tc c) := by
  rw [am_nth_eq] at hi
  simp [am_w, List.getElem?_mapIdx, hi]
theorem am_w_len {ad : Nat → Nat} {tc : Nat → ClassId} {h : am_H} : (am_w ad tc h).length = h.length := by simp [am_w]
theorem am_w_put {ad : Nat → Nat} {tc : Nat → ClassId} {h : am_H} {i : Nat} {c : am_C} : am_w ad tc (am_put h i c) = (am_w ad tc h).set i (ad i, am_e ad tc c) := by
  rw [am_put_eq]
  apply List.ext_getElem?
  intro j
  by_cases hj : i = j
  · subst hj
    by_cases hl : i < h.length
    · simp [am_w, List.getElem?_mapIdx, hl]
    · have h1 : h.length ≤ i := by omega
      simp [am_w, List.getElem?_mapIdx, h1]
  · simp [am_w, List.getElem?_mapIdx, List.getElem?_set_ne hj]
theorem am_put_len {α : Type} (l : List α) (n : Nat) (v : α) : (am_put l n v).length = l.length := by rw [am_put_eq]; simp
/-- the classes whose objects the worlds hold, and the arrays' types -/
abbrev am_cls : List vw_C := [(RX0, TX0, 18), (RX1, TX1, 0), (RX2, TX2, 7), (RX3, TX3, 0), (RX4, TX4, 0), (RX5, TX5, 0), (RX6, TX6, 8), (RX7, TX7, 5), (RX8, TX8, 0), (RX9, TX9, 6), (RX10, TX10, 5), (RX11, TX11, 7), (RX12, TX12, 15)]
abbrev am_tys (tc : Nat → ClassId) : List (ClassId × FieldType) := [(tc 0, .int), (tc 1, .byte), (tc 2, .boolean), (tc 3, .object "DeedProofs$Text"), (tc 4, .object "DeedProofs$Line")]
/-- the words that every state has: those of the tables that a warmed state keeps -/
def am_good : Cond → Bool
  | .fieldLinkNest .. => true
  | .methodLinkNest .. => true
  | .declares _ => true
  | .castable .. => true
  | w => goodWord w
def am_gt : List Cond := lw_tbl.filter am_good
def am_T (U : State) : Prop := ∀ w ∈ am_gt, ∀ a : Array Value, w.before a U = true
theorem am_T.warm {s U : State} (hW : s.WarmedH U.vm) (h : am_T s) : am_T U := by
  intro w hw a
  have hg := (List.mem_filter.mp hw).2
  have h0 := h w hw
  cases w <;> first
    | exact va_Nw.use rfl (va_Nw.warmF hW (h0 #[]))
    | exact va_Nw.use rfl (va_Nw.warmM hW (h0 #[]))
    | exact va_Nw.use rfl (va_Nw.warmD hW (h0 #[]))
    | exact va_Nw.use rfl (va_Nw.warmC hW (h0 #[]))
    | exact word_at hW (good_of_word hg) (h0 #[])
theorem am_T.use {s : State} (h : am_T s) (args : Array Value) : ∀ w ∈ am_gt, w.before args s = true := fun w hw => h w hw args
/-- what lies outside the worlds and stays: the texts and the row ABOVE; places from 100000 on -/
def am_len : List Nat := [6, 9, 3]
def am_byt : List (List Int32) := [[111, 115, 104, 109, 108, 119], [48, 49, 50, 51, 52, 97, 98, 99, 100], [60, 61, 35]]
def am_abv (j : Nat) : Int32 := [-1, 0, 0, 0, 1].getD j 0
def am_Ev (ad : Nat → Nat) (A : Nat → Prop) (U : State) (H : Heap) : Prop :=
  (va_AO "DeedProofs$Text" U ∧ va_AO "DeedProofs$Line" U) ∧
  (vk_R "DeedProofs$RuleReader" 56 "oshmlw" (ad 100000) U ∧ vk_R "DeedProofs$RuleReader" 62 "01234abcd" (ad 100001) U ∧ vk_R "DeedProofs$RuleReader" 75 "<=#" (ad 100002) U) ∧
  (∃ adV : Nat → Nat, vk_S 3 am_len am_byt (fun i => ad (100000 + i)) adV A U H) ∧
  va_Z "java/lang/String" "COMPACT_STRINGS" "Z" (.int 1) A U H ∧
  va_Z "DeedProofs" "ABOVE" "[I" (.ref (ad 100003)) A U H ∧ va_T .int (ad 100003) 5 (fun j => .int (am_abv j)) A U H
theorem am_Ev.warm {ad : Nat → Nat} {A : Nat → Prop} {s U : State} {H : Heap} (hW : s.WarmedH U.vm) (h : am_Ev ad A s H) : am_Ev ad A U H := by
  obtain ⟨⟨a1, a2⟩, ⟨b1, b2, b3⟩, ⟨adV, c1⟩, d1, d2, d3⟩ := h
  exact ⟨⟨a1.moved hW.alike, a2.moved hW.alike⟩, ⟨b1.warm hW, b2.warm hW, b3.warm hW⟩, ⟨adV, c1.moved hW.alike⟩, d1.moved hW.alike, d2.moved hW.alike, d3.moved hW.alike⟩
theorem am_Ev.kept {ad : Nat → Nat} {A : Nat → Prop} {U : State} {H H1 : Heap} (h : am_Ev ad A U H) (hq : ∀ a : Nat, a < H.size → ¬ A a → H1[a]? = H[a]?) : am_Ev ad A U H1 := by
  obtain ⟨a, b, ⟨adV, c1⟩, d1, d2, d3⟩ := h
  exact ⟨a, b, ⟨adV, c1.kept hq⟩, d1.kept hq, d2.kept hq, d3.kept hq⟩
theorem am_Ev.narrow {ad : Nat → Nat} {A B : Nat → Prop} {U : State} {H : Heap} (h : am_Ev ad A U H) (hAB : ∀ q, B q → A q) : am_Ev ad B U H := by
  obtain ⟨a, b, ⟨adV, c1⟩, d1, d2, d3⟩ := h
  exact ⟨a, b, ⟨adV, c1.narrow hAB⟩, d1.narrow hAB, d2.narrow hAB, d3.narrow hAB⟩
theorem am_Ev.ads {ad ad' : Nat → Nat} {A : Nat → Prop} {U : State} {H : Heap} (h : am_Ev ad A U H) (e : ∀ i, 100000 ≤ i → ad' i = ad i) : am_Ev ad' A U H := by
  unfold am_Ev at h ⊢
  have e1 : (fun i => ad' (100000 + i)) = (fun i => ad (100000 + i)) := funext fun i => e _ (by omega)
  rw [e 100000 (by omega), e 100001 (by omega), e 100002 (by omega), e 100003 (by omega), e1]
  exact h
/-- locals -/
def am_al (ad : Nat → Nat) : Nat → am_L → List (Nat × Value)
  | _, [] => []
  | i, none :: l => am_al ad (i + 1) l
  | i, some v :: l => (i, am_v ad v) :: am_al ad (i + 1) l
theorem am_al_mem {ad : Nat → Nat} : ∀ (ls : am_L) (i : Nat) (q : Nat × Value), q ∈ am_al ad i ls ↔ ∃ (k : Nat) (v : Value), q = (i + k, am_v ad v) ∧ am_nth ls k = some (some v)
  | [], i, q => by simp [am_al, am_nth]
  | none :: l, i, q => by
    rw [am_al, am_al_mem l (i + 1) q]
    constructor
    · rintro ⟨k, v, h1, h2⟩
      exact ⟨k + 1, v, by rw [h1]; congr 1; omega, h2⟩
    · rintro ⟨k, v, h1, h2⟩
      cases k with
      | zero => cases h2
      | succ k => exact ⟨k, v, by rw [h1]; congr 1; omega, h2⟩
  | some w :: l, i, q => by
    rw [am_al, List.mem_cons, am_al_mem l (i + 1) q]
    constructor
    · rintro (h | ⟨k, v, h1, h2⟩)
      · exact ⟨0, w, h, rfl⟩
      · exact ⟨k + 1, v, by rw [h1]; congr 1; omega, h2⟩
    · rintro ⟨k, v, h1, h2⟩
      cases k with
      | zero => cases h2; exact Or.inl h1
      | succ k => exact Or.inr ⟨k, v, by rw [h1]; congr 1; omega, h2⟩
def am_lv (ad : Nat → Nat) (ls : am_L) (n : Nat) (lsC : Array Slot) : Prop := lv_has lsC n (am_al ad 0 ls)
theorem am_lv.get {ad : Nat → Nat} {ls : am_L} {n : Nat} {lsC : Array Slot} (h : am_lv ad ls n lsC) {i : Nat} {v : Value} (hi : am_nth ls i = some (some v)) : lsC[i]? = some (.val (am_v ad v)) :=
  h.2.2 (i, am_v ad v) ((am_al_mem ls 0 _).mpr ⟨i, v, by simp, hi⟩)
/-- no long stands in the place ahead -/
def am_nl (ls : am_L) : Nat → Bool
  | 0 => true
  | i + 1 => match am_nth ls i with
    | some (some (.long _)) => false
    | some (some (.double _)) => false
    | _ => true
theorem am_nth_put {α : Type} : ∀ (l : List α) (i j : Nat) (v : α), am_nth (am_put l i v) j = if j = i then (if i < l.length then some v else none) else am_nth l j := by
  intro l i j v
  rw [am_nth_eq, am_put_eq, am_nth_eq, List.getElem?_set]
  by_cases h : i = j
  · subst h; simp
  · have h' : ¬ j = i := fun e => h e.symm
    simp [h, h']
theorem am_lv.put {ad : Nat → Nat} {ls : am_L} {n : Nat} {lsC : Array Slot} {i : Nat} {v : Value} (hn : am_nl ls i = true)
    (h : lv_has lsC n ((i, am_v ad v) :: (am_al ad 0 ls).filter (fun q => !(q.1 == i) && !(q.1 + 1 == i && q.2.category == 2)))) : am_lv ad (am_put ls i (some v)) n lsC := by
  refine ⟨h.1, h.2.1, fun q hq => ?_⟩
  obtain ⟨k, w, rfl, hk⟩ := (am_al_mem _ 0 q).mp hq
  rw [am_nth_put] at hk
  rw [Nat.zero_add]
  by_cases hki : k = i
  · rw [if_pos hki] at hk
    by_cases hl : i < ls.length
    · rw [if_pos hl] at hk
      cases hk
      subst hki
      exact h.2.2 _ List.mem_cons_self
    · rw [if_neg hl] at hk; cases hk
  · rw [if_neg hki] at hk
    refine h.2.2 (k, am_v ad w) (List.mem_cons_of_mem _ (List.mem_filter.mpr ⟨(am_al_mem ls 0 _).mpr ⟨k, w, by simp, hk⟩, ?_⟩))
    have h2 : ¬ (k + 1 = i ∧ (am_v ad w).category = 2) := by
      rintro ⟨e, hc⟩
      subst e
      simp only [am_nl, hk] at hn
      cases w <;> simp_all [am_v, Value.category]
    simp only [Bool.and_eq_true, Bool.not_eq_true', beq_eq_false_iff_ne, ne_eq, Bool.and_eq_false_iff]
    refine ⟨hki, ?_⟩
    by_cases he : k + 1 = i
    · exact Or.inr fun hc => h2 ⟨he, hc⟩
    · exact Or.inl he
end
section
/-! THE ABSTRACT MACHINE: what a step asks, and what it says of the real machine -/
abbrev am_y (mi : am_MI) : MethodName := mi.1
abbrev am_code (mi : am_MI) : ByteArray := mi.2.1
abbrev am_mL (mi : am_MI) : Nat := mi.2.2.1
abbrev am_ret (mi : am_MI) : Option FieldType := mi.2.2.2.1
abbrev am_ins (mi : am_MI) : List (Option am_I) := mi.2.2.2.2
def am_X (p : Program) (s : State) (m : MethodId) (meth : Method) (c : Code) (mi : am_MI) (D : va_G) (tc : Nat → ClassId) : Prop :=
  p.tables.exec = Jvm.exec ∧ c.code = am_code mi ∧ meth.sig.returnType = am_ret mi ∧ c.maxLocals = am_mL mi ∧ s.vm.findClass (am_y mi).cls = some m.cls ∧ meth.locks = false ∧ meth.name = (am_y mi).name ∧ am_T s ∧ va_K D am_cls (am_tys tc) s
/-- the room: d frames, kc cells and ks slots are left -/
def am_G (d kc ks cells slots mc ms : Nat) (R : Room) : Prop := d ≤ R.frames ∧ 64 * d ≤ R.locals ∧ cells + kc ≤ mc ∧ slots + ks ≤ ms ∧ mc ≤ R.cells ∧ ms ≤ R.slots
/-- the places that the method began with lie where they lay -/
def am_ag (h0 : am_H) (ad0 ad : Nat → Nat) (h : am_H) : Prop := h0.length ≤ h.length ∧ h.length < 100000 ∧ ∀ i, (i < h0.length ∨ h.length ≤ i) → ad i = ad0 i
def am_Q (D : va_G) (tc : Nat → ClassId) (A : Nat → Prop) (h0 : am_H) (ad0 : Nat → Nat) (Q : Option Value → am_H → Prop) : Array Value → State → Outcome → State → Prop := fun _ st oc t =>
  (∃ (r : Option Value) (h : am_H) (ad : Nat → Nat), oc = .returned (r.map (am_v ad)) ∧ Q r h ∧ am_ag h0 ad0 ad h ∧ va_P D am_cls (am_w ad tc h) t.heap ∧ va_K D am_cls (am_tys tc) t ∧ va_D A (am_w ad tc h)) ∧ va_F A st t
/-- from this frame over this heap the method comes to its end, with Q -/
def am_W (mi : am_MI) (d : Nat) (Q : Option Value → am_H → Prop) (kc ks pc : Nat) (ls : am_L) (st : List Value) (h : am_H) : Prop :=
  ∀ (p : Program) (l : Launch) (e : Env) (R : Room) (s : State) (m : MethodId) (args : Array Value) (below : List Frame) (meth : Method) (c : Code) (D : va_G) (tc : Nat → ClassId) (ad ad0 : Nat → Nat) (h0 : am_H) (A : Nat → Prop) (H : Heap) (locs : List Loc) (cells slots mc ms : Nat) (lsC : Array Slot),
    am_X p s m meth c mi D tc → am_Ev ad0 A s s.heap → (∀ q, s.heap.size ≤ q → A q) → am_G d kc ks cells slots mc ms R → am_ag h0 ad0 ad h →
    va_P D am_cls (am_w ad tc h) H → va_D A (am_w ad tc h) → va_S A s.heap H locs → am_lv ad ls (am_mL mi) lsC →
    W p l e R s m args below meth c H locs cells slots (MQ below (am_Q D tc A h0 ad0 Q) args s mc ms A) (F0 m pc lsC (st.map (am_v ad)))
def am_R (d kc ks : Nat) : Room := { frames := d, cells := kc, slots := ks, locals := 64 * d }
def am_ws (mi : am_MI) : List Cond := [Cond.code (am_y mi) (am_code mi) (am_mL mi) (am_ret mi)]
def am_Pre (D : va_G) (tc : Nat → ClassId) (ad : Nat → Nat) (h : am_H) (sz : Nat) (U : State) : Prop :=
  U.heap.size = sz ∧ am_T U ∧ am_Ev ad (va_A (am_w ad tc h) sz) U U.heap ∧ va_P D am_cls (am_w ad tc h) U.heap ∧ va_K D am_cls (am_tys tc) U ∧ va_D (fun _ => True) (am_w ad tc h) ∧ h.length < 100000
/-- a method's contract -/
def am_Met (mi : am_MI) (d kc ks : Nat) (args : List Value) (h : am_H) (Q : Option Value → am_H → Prop) : Prop :=
  ∀ (l : Launch) (D : va_G) (tc : Nat → ClassId) (ad : Nat → Nat) (sz : Nat),
    Met l (am_y mi) (am_ws mi) (am_R d kc ks) (va_Pc (args.map (am_v ad)) (am_Pre D tc ad h sz)) (am_Q D tc (va_A (am_w ad tc h) sz) h ad Q) kc ks (va_A (am_w ad tc h) sz)
/-- locals at a method's entry -/
def am_in : List Value → am_L
  | [] => []
  | .long v :: l => some (.long v) :: none :: am_in l
  | .double v :: l => some (.double v) :: none :: am_in l
  | v :: l => some v :: am_in l
def am_nones : Nat → am_L
  | 0 => []
  | n + 1 => none :: am_nones n
def am_ent (n : Nat) (args : List Value) : am_L := am_in args ++ am_nones (n - (am_in args).length)
/-- the last n of the stack, in their order, and the rest -/
def am_pop : Nat → List Value → List Value → Option (List Value × List Value)
  | 0, st, acc => some (acc, st)
  | n + 1, v :: st, acc => am_pop n st (v :: acc)
  | _ + 1, [], _ => none
theorem am_pop_eq : ∀ (n : Nat) (st acc As rest : List Value), am_pop n st acc = some (As, rest) → acc.reverse ++ st = As.reverse ++ rest ∧ As.length = acc.length + n
  | 0, st, acc, As, rest, h => by cases h; exact ⟨rfl, rfl⟩
  | n + 1, [], acc, As, rest, h => by cases h
  | n + 1, v :: st, acc, As, rest, h => by
    obtain ⟨h1, h2⟩ := am_pop_eq n st (v :: acc) As rest h
    refine ⟨?_, ?_⟩
    · rw [← h1]; simp
    · rw [h2]; simp; omega
def am_cat (st : List Value) : Nat := (st.map fun v => v.category).sum
/-- types of an array's number, of a field -/
def am_aty : Nat → FieldType
  | 0 => .int
  | 1 => .byte
  | _ => .boolean
def am_fty (ci k : Nat) : FieldType := match ci with
  | 0 => tyX0 k
  | 2 => tyX2 k
  | 6 => tyX6 k
  | 7 => tyX7 k
  | 9 => tyX9 k
  | 10 => tyX10 k
  | 11 => tyX11 k
  | 12 => tyX12 k
  | _ => .int
def am_fit : FieldType → Value → Prop
  | .int, .int _ => True
  | .boolean, .int x => narrow .boolean (.int x) = .int x ∧ fits .boolean (.int x) = true
  | .object _, .ref _ => True
  | .object _, .null => True
  | .array _, .ref _ => True
  | .array _, .null => True
  | _, _ => False
/-- a new object's fields -/
def am_new : Nat → List Value
  | 0 => [.null, .null, .null, .null, .null, .null, .null, .int 0, .null, .null, .null, .null, .null, .null, .null, .null, .null, .int 0]
  | 2 => [.null, .null, .null, .null, .null, .null, .int 0]
  | 6 => (List.range 8).map (fun k => defaultValue (tyX6 k))
  | 7 => (List.range 5).map (fun k => defaultValue (tyX7 k))
  | 9 => (List.range 6).map (fun k => defaultValue (tyX9 k))
  | 10 => (List.range 5).map (fun k => defaultValue (tyX10 k))
  | 11 => (List.range 7).map (fun k => defaultValue (tyX11 k))
  | 12 => (List.range 15).map (fun k => defaultValue (tyX12 k))
  | _ => []
/-- the place n is named nowhere -/
def am_nrV (n : Nat) : Value → Prop
  | .ref i => i ≠ n
  | _ => True
def am_nrC (n : Nat) : am_C → Prop
  | .inl _ => True
  | .inr (.inl (_, _, f)) => ∀ j, f j ≠ some n
  | .inr (.inr (_, fs)) => ∀ v ∈ fs, am_nrV n v
def am_nr (n : Nat) (ls : am_L) (st : List Value) (h : am_H) : Prop := (∀ v, some v ∈ ls → am_nrV n v) ∧ (∀ v ∈ st, am_nrV n v) ∧ ∀ c ∈ h, am_nrC n c
abbrev am_K : Type := Nat → Nat → Nat → am_L → List Value → am_H → Prop
/-- no reference to a place from lo on and ahead of hi -/
def am_nsV (lo hi : Nat) : Value → Prop
  | .ref i => i < lo ∨ hi ≤ i
  | _ => True
def am_ns (lo hi : Nat) (ls : am_L) (st : List Value) : Prop := (∀ v, some v ∈ ls → am_nsV lo hi v) ∧ ∀ v ∈ st, am_nsV lo hi v
/-- a call: by a contract of the callee -/
def am_call (mi : am_MI) (d kc ks : Nat) (args rest : List Value) (ls : am_L) (h : am_H) (go : Nat → Nat → Option Value → am_H → Prop) : Prop :=
  ∃ (d' kc' ks' : Nat) (P : Option Value → am_H → Prop), d' + 1 ≤ d ∧ kc' ≤ kc ∧ ks' ≤ ks ∧ am_cat rest ≤ 8 ∧ am_Met mi d' kc' ks' args h P ∧ ∀ (r : Option Value) (h' : am_H), P r h' → (h'.length = h.length ∨ am_ns h.length h'.length ls rest) ∧ go (kc - kc') (ks - ks') r h'
/-- a branch: its two ways -/
def am_br (co : ClassFile.Cond) (x y : Int32) (T F : Prop) : Prop := match co with
  | .eq => (x = y → T) ∧ (¬ x = y → F)
  | .ne => (¬ x = y → T) ∧ (x = y → F)
  | .lt => (x < y → T) ∧ (¬ x < y → F)
  | .ge => (y ≤ x → T) ∧ (¬ y ≤ x → F)
  | .gt => (y < x → T) ∧ (¬ y < x → F)
  | .le => (x ≤ y → T) ∧ (¬ x ≤ y → F)
/-- the method that a receiver of class ci has for an act that Line tells: by the callee's number -/
def am_sel (a ci : Nat) : Nat := a + ci
def am_do (tab : Nat → am_MI) (mi : am_MI) (d : Nat) (Q : Option Value → am_H → Prop) (K : am_K) (kc ks pc : Nat) (ls : am_L) (st : List Value) (h : am_H) (len a b c : Nat) (k : Int32) (i : Instr) : Prop :=
  match i with
  | .iconst _ => K kc ks (pc + len) ls (.int k :: st) h
  | .bipush _ => K kc ks (pc + len) ls (.int k :: st) h
  | .sipush _ => K kc ks (pc + len) ls (.int k :: st) h
  | .ldc _ => match c with
    | 0 => K kc ks (pc + len) ls (.int k :: st) h
    | _ => K kc ks (pc + len) ls (.ref (100000 + a) :: st) h
  | .ldc_w _ => K kc ks (pc + len) ls (.int k :: st) h
  | .ldc2_w _ => K kc ks (pc + len) ls (.long k.toInt64 :: st) h
  | .aconst_null => K kc ks (pc + len) ls (.null :: st) h
  | .iload _ => match am_nth ls a with
    | some (some (.int x)) => K kc ks (pc + len) ls (.int x :: st) h
    | _ => False
  | .iload_n _ => match am_nth ls a with
    | some (some (.int x)) => K kc ks (pc + len) ls (.int x :: st) h
    | _ => False
  | .lload_n _ => match am_nth ls a with
    | some (some (.long x)) => K kc ks (pc + len) ls (.long x :: st) h
    | _ => False
  | .aload _ => match am_nth ls a with
    | some (some (.ref x)) => K kc ks (pc + len) ls (.ref x :: st) h
    | some (some .null) => K kc ks (pc + len) ls (.null :: st) h
    | _ => False
  | .aload_n _ => match am_nth ls a with
    | some (some (.ref x)) => K kc ks (pc + len) ls (.ref x :: st) h
    | some (some .null) => K kc ks (pc + len) ls (.null :: st) h
    | _ => False
  | .istore _ => match am_nl ls a, st with
    | true, .int x :: st => K kc ks (pc + len) (am_put ls a (some (.int x))) st h
    | _, _ => False
  | .istore_n _ => match am_nl ls a, st with
    | true, .int x :: st => K kc ks (pc + len) (am_put ls a (some (.int x))) st h
    | _, _ => False
  | .astore _ => match am_nl ls a, st with
    | true, .ref x :: st => K kc ks (pc + len) (am_put ls a (some (.ref x))) st h
    | _, _ => False
  | .astore_n _ => match am_nl ls a, st with
    | true, .ref x :: st => K kc ks (pc + len) (am_put ls a (some (.ref x))) st h
    | _, _ => False
  | .iinc _ _ => match am_nl ls a, am_nth ls a with
    | true, some (some (.int x)) => K kc ks (pc + len) (am_put ls a (some (.int (x + k)))) st h
    | _, _ => False
  | .iadd => match st with
    | .int y :: .int x :: st => K kc ks (pc + len) ls (.int (x + y) :: st) h
    | _ => False
  | .isub => match st with
    | .int y :: .int x :: st => K kc ks (pc + len) ls (.int (x - y) :: st) h
    | _ => False
  | .imul => match st with
    | .int y :: .int x :: st => K kc ks (pc + len) ls (.int (x * y) :: st) h
    | _ => False
  | .idiv => match st with
    | .int y :: .int x :: st => ¬ y = 0 ∧ K kc ks (pc + len) ls (.int (x / y) :: st) h
    | _ => False
  | .irem => match st with
    | .int y :: .int x :: st => ¬ y = 0 ∧ K kc ks (pc + len) ls (.int (x - x / y * y) :: st) h
    | _ => False
  | .ineg => match st with
    | .int x :: st => K kc ks (pc + len) ls (.int (-x) :: st) h
    | _ => False
  | .iand => match st with
    | .int y :: .int x :: st => K kc ks (pc + len) ls (.int (x &&& y) :: st) h
    | _ => False
  | .ior => match st with
    | .int y :: .int x :: st => K kc ks (pc + len) ls (.int (x ||| y) :: st) h
    | _ => False
  | .ixor => match st with
    | .int y :: .int x :: st => K kc ks (pc + len) ls (.int (x ^^^ y) :: st) h
    | _ => False
  | .ishl => match st with
    | .int y :: .int x :: st => K kc ks (pc + len) ls (.int (x <<< (y &&& 31)) :: st) h
    | _ => False
  | .ishr => match st with
    | .int y :: .int x :: st => K kc ks (pc + len) ls (.int (x >>> (y &&& 31)) :: st) h
    | _ => False
  | .iushr => match st with
    | .int y :: .int x :: st => K kc ks (pc + len) ls (.int (x.toUInt32 >>> (y.toUInt32 &&& Int32.toUInt32 31)).toInt32 :: st) h
    | _ => False
  | .land => match st with
    | .long y :: .long x :: st => K kc ks (pc + len) ls (.long (x &&& y) :: st) h
    | _ => False
  | .lshr => match st with
    | .int y :: .long x :: st => K kc ks (pc + len) ls (.long (x >>> (y.toInt64 &&& 63)) :: st) h
    | _ => False
  | .lushr => match st with
    | .int y :: .long x :: st => K kc ks (pc + len) ls (.long (x.toUInt64 >>> (y.toInt64.toUInt64 &&& Int64.toUInt64 63)).toInt64 :: st) h
    | _ => False
  | .l2i => match st with
    | .long x :: st => K kc ks (pc + len) ls (.int x.toInt32 :: st) h
    | _ => False
  | .i2b => match st with
    | .int x :: st => K kc ks (pc + len) ls (.int x.toInt8.toInt32 :: st) h
    | _ => False
  | .i2c => match st with
    | .int x :: st => K kc ks (pc + len) ls (.int (x.toUInt32 % 65536).toInt32 :: st) h
    | _ => False
  | .dup => match st with
    | .int x :: st => K kc ks (pc + len) ls (.int x :: .int x :: st) h
    | .ref x :: st => K kc ks (pc + len) ls (.ref x :: .ref x :: st) h
    | _ => False
  | .dup2 => match st with
    | .int y :: .ref x :: st => K kc ks (pc + len) ls (.int y :: .ref x :: .int y :: .ref x :: st) h
    | _ => False
  | .pop => match st with
    | .int _ :: st => K kc ks (pc + len) ls st h
    | .ref _ :: st => K kc ks (pc + len) ls st h
    | _ => False
  | .goto _ => K kc ks a ls st h
  | .ifCond co _ => match st with
    | .int x :: st => am_br co x 0 (K kc ks a ls st h) (K kc ks (pc + len) ls st h)
    | _ => False
  | .if_icmp co _ => match st with
    | .int y :: .int x :: st => am_br co x y (K kc ks a ls st h) (K kc ks (pc + len) ls st h)
    | _ => False
  | .ifnonnull _ => match st with
    | .ref _ :: st => K kc ks a ls st h
    | .null :: st => K kc ks (pc + len) ls st h
    | _ => False
  | .tableswitch dflt lo hi offs => match st with
    | .int x :: st => ∃ tgt : Nat, ((x.toInt < lo ∨ hi < x.toInt) ∧ (pc : Int) + dflt = (tgt : Int) ∨ ¬ x.toInt < lo ∧ ¬ hi < x.toInt ∧ ∃ off, offs[(x.toInt - lo).toNat]? = some off ∧ (pc : Int) + off = (tgt : Int)) ∧ K kc ks tgt ls st h
    | _ => False
  | .lookupswitch dflt ps => match st with
    | .int x :: st => ∃ tgt : Nat, (pc : Int) + Op.lookupswitch.offset ps.toList dflt x.toInt = (tgt : Int) ∧ K kc ks tgt ls st h
    | _ => False
  | .getstatic _ => K kc ks (pc + len) ls (.ref 100003 :: st) h
  | .getfield _ => match st with
    | .ref o :: st => ∃ (fs : List Value) (v : Value), am_nth h o = some (.inr (.inr (a, fs))) ∧ am_nth fs b = some v ∧ K kc ks (pc + len) ls (v :: st) h
    | _ => False
  | .putfield _ => match st with
    | v :: .ref o :: st => ∃ (fs : List Value), am_nth h o = some (.inr (.inr (a, fs))) ∧ b < fs.length ∧ am_fit (am_fty a b) v ∧ K kc ks (pc + len) ls st (am_put h o (.inr (.inr (a, am_put fs b v))))
    | _ => False
  | .arraylength => match st with
    | .ref o :: st => match c with
      | 0 => ∃ (n : Nat) (f : Nat → Int32), am_nth h o = some (.inl (a, n, f)) ∧ K kc ks (pc + len) ls (.int (Int32.ofNat n) :: st) h
      | _ => ∃ (n : Nat) (f : Nat → Option Nat), am_nth h o = some (.inr (.inl (a, n, f))) ∧ K kc ks (pc + len) ls (.int (Int32.ofNat n) :: st) h
    | _ => False
  | .iaload => match st with
    | .int i :: .ref o :: st => match c with
      | 0 => ∃ (n : Nat) (f : Nat → Int32), am_nth h o = some (.inl (0, n, f)) ∧ vp_in i n ∧ K kc ks (pc + len) ls (.int (f i.toNatClampNeg) :: st) h
      | _ => o = 100003 ∧ vp_in i 5 ∧ K kc ks (pc + len) ls (.int (am_abv i.toNatClampNeg) :: st) h
    | _ => False
  | .baload => match st with
    | .int i :: .ref o :: st => ∃ (n : Nat) (f : Nat → Int32), am_nth h o = some (.inl (a, n, f)) ∧ vp_in i n ∧ K kc ks (pc + len) ls (.int (f i.toNatClampNeg) :: st) h
    | _ => False
  | .iastore => match st with
    | .int x :: .int i :: .ref o :: st => ∃ (n : Nat) (f : Nat → Int32), am_nth h o = some (.inl (0, n, f)) ∧ vp_in i n ∧ K kc ks (pc + len) ls st (am_put h o (.inl (0, n, upd f i.toNatClampNeg x)))
    | _ => False
  | .bastore => match st with
    | .int x :: .int i :: .ref o :: st => ∃ (n : Nat) (f : Nat → Int32), am_nth h o = some (.inl (a, n, f)) ∧ vp_in i n ∧ K kc ks (pc + len) ls st (am_put h o (.inl (a, n, upd f i.toNatClampNeg (vp_nar (am_aty a) x))))
    | _ => False
  | .aaload => match st with
    | .int i :: .ref o :: st => ∃ (n : Nat) (f : Nat → Option Nat) (j : Nat), am_nth h o = some (.inr (.inl (a, n, f))) ∧ vp_in i n ∧ f i.toNatClampNeg = some j ∧ K kc ks (pc + len) ls (.ref j :: st) h
    | _ => False
  | .aastore => match st with
    | .ref v :: .int i :: .ref o :: st => ∃ (n : Nat) (f : Nat → Option Nat) (ci : Nat) (fs : List Value), am_nth h o = some (.inr (.inl (a, n, f))) ∧ am_nth h v = some (.inr (.inr (ci, fs))) ∧ (a = 3 ∧ ci = 10 ∨ a = 4 ∧ (ci = 1 ∨ ci = 3 ∨ ci = 4 ∨ ci = 5 ∨ ci = 8)) ∧ vp_in i n ∧ K kc ks (pc + len) ls st (am_put h o (.inr (.inl (a, n, va_up f i.toNatClampNeg (some v)))))
    | _ => False
  | .new _ => 1 ≤ kc ∧ (am_new a).length ≤ ks ∧ h.length + 1 < 100000 ∧ am_nr h.length ls st h ∧ K (kc - 1) (ks - (am_new a).length) (pc + len) ls (.ref h.length :: st) (h ++ [.inr (.inr (a, am_new a))])
  | .newarray _ => match st with
    | .int n :: st => 1 ≤ kc ∧ n.toNatClampNeg ≤ ks ∧ ¬ n < 0 ∧ n.toNatClampNeg < 100000 ∧ h.length + 1 < 100000 ∧ am_nr h.length ls st h ∧ K (kc - 1) (ks - n.toNatClampNeg) (pc + len) ls (.ref h.length :: st) (h ++ [.inl (a, n.toNatClampNeg, fun _ => 0)])
    | _ => False
  | .anewarray _ => match st with
    | .int n :: st => 1 ≤ kc ∧ n.toNatClampNeg ≤ ks ∧ ¬ n < 0 ∧ n.toNatClampNeg < 100000 ∧ h.length + 1 < 100000 ∧ am_nr h.length ls st h ∧ K (kc - 1) (ks - n.toNatClampNeg) (pc + len) ls (.ref h.length :: st) (h ++ [.inr (.inl (a, n.toNatClampNeg, fun _ => none))])
    | _ => False
  | .ireturn => match st with
    | [.int v] => (match am_ret mi with
      | some .int => True
      | some ty => narrow ty (.int v) = .int v
      | none => False) ∧ Q (some (.int v)) h
    | _ => False
  | .areturn => match st with
    | [.ref o] => Q (some (.ref o)) h
    | _ => False
  | .return_ => match st with
    | [] => Q none h
    | _ => False
  | .invokevirtual _ => match am_pop b st [] with
    | some (As, .ref o :: rest) => match c with
      | 0 => ∃ fs : List Value, am_nth h o = some (.inr (.inr (k.toInt.toNat, fs))) ∧ am_call (tab a) d kc ks (.ref o :: As) rest ls h (fun kc ks r h => K kc ks (pc + 3) ls (r.toList ++ rest) h)
      | 1 => ∃ fs : List Value, am_nth h o = some (.inr (.inr (k.toInt.toNat, fs))) ∧ am_call (tab a) d kc ks (.ref o :: As) rest ls h (fun kc ks r h => K kc ks (pc + 3) ls (r.toList ++ rest) h)
      | 2 => o < 100003 ∧ 100000 ≤ o ∧ am_call (tab a) d kc ks (.ref o :: As) rest ls h (fun kc ks r h => K kc ks (pc + 3) ls (r.toList ++ rest) h)
      | 3 => ∃ (ci : Nat) (fs : List Value), am_nth h o = some (.inr (.inr (ci, fs))) ∧ (ci = 1 ∨ ci = 3 ∨ ci = 4 ∨ ci = 5 ∨ ci = 8) ∧ am_call (tab (am_sel a ci)) d kc ks (.ref o :: As) rest ls h (fun kc ks r h => K kc ks (pc + 3) ls (r.toList ++ rest) h)
      | _ => ∃ fs : List Value, am_nth h o = some (.inr (.inr (k.toInt.toNat, fs))) ∧ am_call (tab a) d kc ks (.ref o :: As) rest ls h (fun kc ks r h => K kc ks (pc + 3) ls (r.toList ++ rest) h)
    | _ => False
  | .invokestatic _ => match c with
    | 2 => match st with
      | .int n :: .int dp :: .ref o1 :: .int sp :: .ref o0 :: rest => ∃ (n0 n1 : Nat) (f g : Nat → Int32), am_nth h o0 = some (.inl (a, n0, f)) ∧ am_nth h o1 = some (.inl (a, n1, g)) ∧ ¬ sp < 0 ∧ ¬ dp < 0 ∧ ¬ n < 0 ∧ sp.toNatClampNeg + n.toNatClampNeg ≤ n0 ∧ dp.toNatClampNeg + n.toNatClampNeg ≤ n1 ∧ (∀ i, i < n.toNatClampNeg → fits (am_aty a) (.int (f (sp.toNatClampNeg + i))) = true) ∧ 1 ≤ d ∧ am_cat rest ≤ 8 ∧
          K kc ks (pc + 3) ls rest (am_put h o1 (.inl (a, n1, va_cpy f g sp.toNatClampNeg dp.toNatClampNeg n.toNatClampNeg)))
      | _ => False
    | _ => match am_pop b st [] with
      | some (As, rest) => am_call (tab a) d kc ks As rest ls h (fun kc ks r h => K kc ks (pc + 3) ls (r.toList ++ rest) h)
      | _ => False
  | .invokespecial _ => match am_pop b st [] with
    | some (As, .ref o :: rest) => match c with
      | 0 => am_call (tab a) d kc ks (.ref o :: As) rest ls h (fun kc ks r h => K kc ks (pc + 3) ls (r.toList ++ rest) h)
      | 1 => am_call (tab a) d kc ks (.ref o :: As) rest ls h (fun kc ks r h => K kc ks (pc + 3) ls (r.toList ++ rest) h)
      | 2 => 1 ≤ d ∧ am_cat rest ≤ 8 ∧ K kc ks (pc + 3) ls rest h
      | _ => ∃ (ci : Nat) (fs : List Value) (q : vw_C), am_cls[ci]? = some q ∧ am_nth h o = some (.inr (.inr (ci, fs))) ∧ am_call (tab a) d kc ks (.ref o :: As) rest ls h (fun kc ks r h => K kc ks (pc + 3) ls (r.toList ++ rest) h)
    | _ => False
  | _ => False
/-- n steps; then K -/
def am_wp (tab : Nat → am_MI) (mi : am_MI) (d : Nat) (Q : Option Value → am_H → Prop) : Nat → am_K
  | 0 => am_W mi d Q
  | n + 1 => fun kc ks pc ls st h => match am_nth (am_ins mi) pc with
    | some (some (i, len, a, b, c, k)) => am_do tab mi d Q (am_wp tab mi d Q n) kc ks pc ls st h len a b c k i
    | _ => False
end
section
/-! facts of the classes, by program -/
theorem am_in0 : ∀ w ∈ u_ws RX0 TX0 18, w ∈ am_gt := by decide +kernel
theorem am_df0 : ∀ j, j < 18 → defaultValue (am_fty 0 j) = vp_V (am_new 0) j := by decide +kernel
theorem am_dl0 : (am_new 0).length = 18 := by decide +kernel
theorem am_ow0 : ∀ k, k < 18 → (TX0 k).1 = RX0 := by decide +kernel
theorem am_ty0 : ∀ k, k < 18 → parseFieldDescriptor (TX0 k).2.2.1 = some (am_fty 0 k) := by decide +kernel
theorem am_in1 : ∀ w ∈ u_ws RX1 TX1 0, w ∈ am_gt := by decide +kernel
theorem am_df1 : ∀ j, j < 0 → defaultValue (am_fty 1 j) = vp_V (am_new 1) j := by decide +kernel
theorem am_dl1 : (am_new 1).length = 0 := by decide +kernel
theorem am_ow1 : ∀ k, k < 0 → (TX1 k).1 = RX1 := by decide +kernel
theorem am_ty1 : ∀ k, k < 0 → parseFieldDescriptor (TX1 k).2.2.1 = some (am_fty 1 k) := by decide +kernel
theorem am_in2 : ∀ w ∈ u_ws RX2 TX2 7, w ∈ am_gt := by decide +kernel
theorem am_df2 : ∀ j, j < 7 → defaultValue (am_fty 2 j) = vp_V (am_new 2) j := by decide +kernel
theorem am_dl2 : (am_new 2).length = 7 := by decide +kernel
theorem am_ow2 : ∀ k, k < 7 → (TX2 k).1 = RX2 := by decide +kernel
theorem am_ty2 : ∀ k, k < 7 → parseFieldDescriptor (TX2 k).2.2.1 = some (am_fty 2 k) := by decide +kernel
theorem am_in3 : ∀ w ∈ u_ws RX3 TX3 0, w ∈ am_gt := by decide +kernel
theorem am_df3 : ∀ j, j < 0 → defaultValue (am_fty 3 j) = vp_V (am_new 3) j := by decide +kernel
theorem am_dl3 : (am_new 3).length = 0 := by decide +kernel
theorem am_ow3 : ∀ k, k < 0 → (TX3 k).1 = RX3 := by decide +kernel
theorem am_ty3 : ∀ k, k < 0 → parseFieldDescriptor (TX3 k).2.2.1 = some (am_fty 3 k) := by decide +kernel
theorem am_in4 : ∀ w ∈ u_ws RX4 TX4 0, w ∈ am_gt := by decide +kernel
theorem am_df4 : ∀ j, j < 0 → defaultValue (am_fty 4 j) = vp_V (am_new 4) j := by decide +kernel
theorem am_dl4 : (am_new 4).length = 0 := by decide +kernel
theorem am_ow4 : ∀ k, k < 0 → (TX4 k).1 = RX4 := by decide +kernel
theorem am_ty4 : ∀ k, k < 0 → parseFieldDescriptor (TX4 k).2.2.1 = some (am_fty 4 k) := by decide +kernel
theorem am_in5 : ∀ w ∈ u_ws RX5 TX5 0, w ∈ am_gt := by decide +kernel
theorem am_df5 : ∀ j, j < 0 → defaultValue (am_fty 5 j) = vp_V (am_new 5) j := by decide +kernel
theorem am_dl5 : (am_new 5).length = 0 := by decide +kernel
theorem am_ow5 : ∀ k, k < 0 → (TX5 k).1 = RX5 := by decide +kernel
theorem am_ty5 : ∀ k, k < 0 → parseFieldDescriptor (TX5 k).2.2.1 = some (am_fty 5 k) := by decide +kernel
theorem am_in6 : ∀ w ∈ u_ws RX6 TX6 8, w ∈ am_gt := by decide +kernel
theorem am_df6 : ∀ j, j < 8 → defaultValue (am_fty 6 j) = vp_V (am_new 6) j := by decide +kernel
theorem am_dl6 : (am_new 6).length = 8 := by decide +kernel
theorem am_ow6 : ∀ k, k < 8 → (TX6 k).1 = RX6 := by decide +kernel
theorem am_ty6 : ∀ k, k < 8 → parseFieldDescriptor (TX6 k).2.2.1 = some (am_fty 6 k) := by decide +kernel
theorem am_in7 : ∀ w ∈ u_ws RX7 TX7 5, w ∈ am_gt := by decide +kernel
theorem am_df7 : ∀ j, j < 5 → defaultValue (am_fty 7 j) = vp_V (am_new 7) j := by decide +kernel
theorem am_dl7 : (am_new 7).length = 5 := by decide +kernel
theorem am_ow7 : ∀ k, k < 5 → (TX7 k).1 = RX7 := by decide +kernel
theorem am_ty7 : ∀ k, k < 5 → parseFieldDescriptor (TX7 k).2.2.1 = some (am_fty 7 k) := by decide +kernel
theorem am_in8 : ∀ w ∈ u_ws RX8 TX8 0, w ∈ am_gt := by decide +kernel
theorem am_df8 : ∀ j, j < 0 → defaultValue (am_fty 8 j) = vp_V (am_new 8) j := by decide +kernel
theorem am_dl8 : (am_new 8).length = 0 := by decide +kernel
theorem am_ow8 : ∀ k, k < 0 → (TX8 k).1 = RX8 := by decide +kernel
theorem am_ty8 : ∀ k, k < 0 → parseFieldDescriptor (TX8 k).2.2.1 = some (am_fty 8 k) := by decide +kernel
theorem am_in9 : ∀ w ∈ u_ws RX9 TX9 6, w ∈ am_gt := by decide +kernel
theorem am_df9 : ∀ j, j < 6 → defaultValue (am_fty 9 j) = vp_V (am_new 9) j := by decide +kernel
theorem am_dl9 : (am_new 9).length = 6 := by decide +kernel
theorem am_ow9 : ∀ k, k < 6 → (TX9 k).1 = RX9 := by decide +kernel
theorem am_ty9 : ∀ k, k < 6 → parseFieldDescriptor (TX9 k).2.2.1 = some (am_fty 9 k) := by decide +kernel
theorem am_in10 : ∀ w ∈ u_ws RX10 TX10 5, w ∈ am_gt := by decide +kernel
theorem am_df10 : ∀ j, j < 5 → defaultValue (am_fty 10 j) = vp_V (am_new 10) j := by decide +kernel
theorem am_dl10 : (am_new 10).length = 5 := by decide +kernel
theorem am_ow10 : ∀ k, k < 5 → (TX10 k).1 = RX10 := by decide +kernel
theorem am_ty10 : ∀ k, k < 5 → parseFieldDescriptor (TX10 k).2.2.1 = some (am_fty 10 k) := by decide +kernel
theorem am_in11 : ∀ w ∈ u_ws RX11 TX11 7, w ∈ am_gt := by decide +kernel
theorem am_df11 : ∀ j, j < 7 → defaultValue (am_fty 11 j) = vp_V (am_new 11) j := by decide +kernel
theorem am_dl11 : (am_new 11).length = 7 := by decide +kernel
theorem am_ow11 : ∀ k, k < 7 → (TX11 k).1 = RX11 := by decide +kernel
theorem am_ty11 : ∀ k, k < 7 → parseFieldDescriptor (TX11 k).2.2.1 = some (am_fty 11 k) := by decide +kernel
theorem am_in12 : ∀ w ∈ u_ws RX12 TX12 15, w ∈ am_gt := by decide +kernel
theorem am_df12 : ∀ j, j < 15 → defaultValue (am_fty 12 j) = vp_V (am_new 12) j := by decide +kernel
theorem am_dl12 : (am_new 12).length = 15 := by decide +kernel
theorem am_ow12 : ∀ k, k < 15 → (TX12 k).1 = RX12 := by decide +kernel
theorem am_ty12 : ∀ k, k < 15 → parseFieldDescriptor (TX12 k).2.2.1 = some (am_fty 12 k) := by decide +kernel
/-- what is known of a class by its number -/
def am_Cok (ci : Nat) (C : String) (T : u_T) (N : Nat) : Prop := (∀ w ∈ u_ws C T N, w ∈ am_gt) ∧ (∀ k, k < N → parseFieldDescriptor (T k).2.2.1 = some (am_fty ci k)) ∧ (∀ a, a < N → ∀ b, b < N → a ≠ b → (T a).2.1 ≠ (T b).2.1) ∧ (∀ k, k < N → (T k).1 = C) ∧ (∀ j, j < N → defaultValue (am_fty ci j) = vp_V (am_new ci) j) ∧ (am_new ci).length = N
theorem am_cls_ok : ∀ (ci : Nat) (q : vw_C), am_cls[ci]? = some q → am_Cok ci q.1 q.2.1 q.2.2 := by
  intro ci q hq
  match ci, hq with
  | 0, hq => cases hq; exact ⟨am_in0, am_ty0, nmX0, am_ow0, am_df0, am_dl0⟩
  | 1, hq => cases hq; exact ⟨am_in1, am_ty1, nmX1, am_ow1, am_df1, am_dl1⟩
  | 2, hq => cases hq; exact ⟨am_in2, am_ty2, nmX2, am_ow2, am_df2, am_dl2⟩
  | 3, hq => cases hq; exact ⟨am_in3, am_ty3, nmX3, am_ow3, am_df3, am_dl3⟩
  | 4, hq => cases hq; exact ⟨am_in4, am_ty4, nmX4, am_ow4, am_df4, am_dl4⟩
  | 5, hq => cases hq; exact ⟨am_in5, am_ty5, nmX5, am_ow5, am_df5, am_dl5⟩
  | 6, hq => cases hq; exact ⟨am_in6, am_ty6, nmX6, am_ow6, am_df6, am_dl6⟩
  | 7, hq => cases hq; exact ⟨am_in7, am_ty7, nmX7, am_ow7, am_df7, am_dl7⟩
  | 8, hq => cases hq; exact ⟨am_in8, am_ty8, nmX8, am_ow8, am_df8, am_dl8⟩
  | 9, hq => cases hq; exact ⟨am_in9, am_ty9, nmX9, am_ow9, am_df9, am_dl9⟩
  | 10, hq => cases hq; exact ⟨am_in10, am_ty10, nmX10, am_ow10, am_df10, am_dl10⟩
  | 11, hq => cases hq; exact ⟨am_in11, am_ty11, nmX11, am_ow11, am_df11, am_dl11⟩
  | 12, hq => cases hq; exact ⟨am_in12, am_ty12, nmX12, am_ow12, am_df12, am_dl12⟩
  | n + 13, hq => simp [am_cls] at hq
end
section
/-! THE STEPS: a row an instruction -/
section AMS
variable {mi : am_MI} {d : Nat} {Q : Option Value → am_H → Prop} {kc ks pc : Nat} {ls : am_L} {st : List Value} {h : am_H}
theorem am_s_iadd {x y : Int32} (hd : decode (am_code mi) pc = .ok (.iadd, 1)) (hk : am_W mi d Q kc ks (pc + 1) ls (.int (x + y) :: st) h) : am_W mi d Q kc ks pc ls (.int y :: .int x :: st) h := by
  intro p l e R s m args below meth c D tc ad ad0 h0 A H locs cells slots mc ms lsC hX hE hA hG hag hP hD hS hl
  exact lv_iadd hX.1 hX.2.1 hd  (hk p l e R s m args below meth c D tc ad ad0 h0 A H locs cells slots mc ms lsC hX hE hA hG hag hP hD hS hl)
theorem am_s_isub {x y : Int32} (hd : decode (am_code mi) pc = .ok (.isub, 1)) (hk : am_W mi d Q kc ks (pc + 1) ls (.int (x - y) :: st) h) : am_W mi d Q kc ks pc ls (.int y :: .int x :: st) h := by
  intro p l e R s m args below meth c D tc ad ad0 h0 A H locs cells slots mc ms lsC hX hE hA hG hag hP hD hS hl
  exact lv_isub hX.1 hX.2.1 hd  (hk p l e R s m args below meth c D tc ad ad0 h0 A H locs cells slots mc ms lsC hX hE hA hG hag hP hD hS hl)
theorem am_s_imul {x y : Int32} (hd : decode (am_code mi) pc = .ok (.imul, 1)) (hk : am_W mi d Q kc ks (pc + 1) ls (.int (x * y) :: st) h) : am_W mi d Q kc ks pc ls (.int y :: .int x :: st) h := by
  intro p l e R s m args below meth c D tc ad ad0 h0 A H locs cells slots mc ms lsC hX hE hA hG hag hP hD hS hl
  exact lv_imul hX.1 hX.2.1 hd  (hk p l e R s m args below meth c D tc ad ad0 h0 A H locs cells slots mc ms lsC hX hE hA hG hag hP hD hS hl)
theorem am_s_iand {x y : Int32} (hd : decode (am_code mi) pc = .ok (.iand, 1)) (hk : am_W mi d Q kc ks (pc + 1) ls (.int (x &&& y) :: st) h) : am_W mi d Q kc ks pc ls (.int y :: .int x :: st) h := by
  intro p l e R s m args below meth c D tc ad ad0 h0 A H locs cells slots mc ms lsC hX hE hA hG hag hP hD hS hl
  exact lv_iand hX.1 hX.2.1 hd  (hk p l e R s m args below meth c D tc ad ad0 h0 A H locs cells slots mc ms lsC hX hE hA hG hag hP hD hS hl)
theorem am_s_ior {x y : Int32} (hd : decode (am_code mi) pc = .ok (.ior, 1)) (hk : am_W mi d Q kc ks (pc + 1) ls (.int (x ||| y) :: st) h) : am_W mi d Q kc ks pc ls (.int y :: .int x :: st) h := by
  intro p l e R s m args below meth c D tc ad ad0 h0 A H locs cells slots mc ms lsC hX hE hA hG hag hP hD hS hl
  exact lv_ior hX.1 hX.2.1 hd  (hk p l e R s m args below meth c D tc ad ad0 h0 A H locs cells slots mc ms lsC hX hE hA hG hag hP hD hS hl)
theorem am_s_ixor {x y : Int32} (hd : decode (am_code mi) pc = .ok (.ixor, 1)) (hk : am_W mi d Q kc ks (pc + 1) ls (.int (x ^^^ y) :: st) h) : am_W mi d Q kc ks pc ls (.int y :: .int x :: st) h := by
  intro p l e R s m args below meth c D tc ad ad0 h0 A H locs cells slots mc ms lsC hX hE hA hG hag hP hD hS hl
  exact lv_ixor hX.1 hX.2.1 hd  (hk p l e R s m args below meth c D tc ad ad0 h0 A H locs cells slots mc ms lsC hX hE hA hG hag hP hD hS hl)
theorem am_s_ishl {x y : Int32} (hd : decode (am_code mi) pc = .ok (.ishl, 1)) (hk : am_W mi d Q kc ks (pc + 1) ls (.int (x <<< (y &&& 31)) :: st) h) : am_W mi d Q kc ks pc ls (.int y :: .int x :: st) h := by
  intro p l e R s m args below meth c D tc ad ad0 h0 A H locs cells slots mc ms lsC hX hE hA hG hag hP hD hS hl
  exact lv_ishl hX.1 hX.2.1 hd  (hk p l e R s m args below meth c D tc ad ad0 h0 A H locs cells slots mc ms lsC hX hE hA hG hag hP hD hS hl)
theorem am_s_ishr {x y : Int32} (hd : decode (am_code mi) pc = .ok (.ishr, 1)) (hk : am_W mi d Q kc ks (pc + 1) ls (.int (x >>> (y &&& 31)) :: st) h) : am_W mi d Q kc ks pc ls (.int y :: .int x :: st) h := by
  intro p l e R s m args below meth c D tc ad ad0 h0 A H locs cells slots mc ms lsC hX hE hA hG hag hP hD hS hl
  exact lv_ishr hX.1 hX.2.1 hd  (hk p l e R s m args below meth c D tc ad ad0 h0 A H locs cells slots mc ms lsC hX hE hA hG hag hP hD hS hl)
theorem am_s_idiv {x y : Int32} (hne : ¬ y = 0) (hd : decode (am_code mi) pc = .ok (.idiv, 1)) (hk : am_W mi d Q kc ks (pc + 1) ls (.int (x / y) :: st) h) : am_W mi d Q kc ks pc ls (.int y :: .int x :: st) h := by
  intro p l e R s m args below meth c D tc ad ad0 h0 A H locs cells slots mc ms lsC hX hE hA hG hag hP hD hS hl
  exact lv_idiv hX.1 hX.2.1 hd hne (hk p l e R s m args below meth c D tc ad ad0 h0 A H locs cells slots mc ms lsC hX hE hA hG hag hP hD hS hl)
theorem am_s_irem {x y : Int32} (hne : ¬ y = 0) (hd : decode (am_code mi) pc = .ok (.irem, 1)) (hk : am_W mi d Q kc ks (pc + 1) ls (.int (x - x / y * y) :: st) h) : am_W mi d Q kc ks pc ls (.int y :: .int x :: st) h := by
  intro p l e R s m args below meth c D tc ad ad0 h0 A H locs cells slots mc ms lsC hX hE hA hG hag hP hD hS hl
  exact lv_irem hX.1 hX.2.1 hd hne (hk p l e R s m args below meth c D tc ad ad0 h0 A H locs cells slots mc ms lsC hX hE hA hG hag hP hD hS hl)
theorem am_s_iushr {x y : Int32} (hd : decode (am_code mi) pc = .ok (.iushr, 1)) (hk : am_W mi d Q kc ks (pc + 1) ls (.int (x.toUInt32 >>> (y.toUInt32 &&& Int32.toUInt32 31)).toInt32 :: st) h) : am_W mi d Q kc ks pc ls (.int y :: .int x :: st) h := by
  intro p l e R s m args below meth c D tc ad ad0 h0 A H locs cells slots mc ms lsC hX hE hA hG hag hP hD hS hl
  exact lv_iushr hX.1 hX.2.1 hd rfl (hk p l e R s m args below meth c D tc ad ad0 h0 A H locs cells slots mc ms lsC hX hE hA hG hag hP hD hS hl)
theorem am_s_ineg {x : Int32} (hd : decode (am_code mi) pc = .ok (.ineg, 1)) (hk : am_W mi d Q kc ks (pc + 1) ls (.int (-x) :: st) h) : am_W mi d Q kc ks pc ls (.int x :: st) h := by
  intro p l e R s m args below meth c D tc ad ad0 h0 A H locs cells slots mc ms lsC hX hE hA hG hag hP hD hS hl
  exact lv_ineg hX.1 hX.2.1 hd  (hk p l e R s m args below meth c D tc ad ad0 h0 A H locs cells slots mc ms lsC hX hE hA hG hag hP hD hS hl)
theorem am_s_land {x y : Int64} (hd : decode (am_code mi) pc = .ok (.land, 1)) (hk : am_W mi d Q kc ks (pc + 1) ls (.long (x &&& y) :: st) h) : am_W mi d Q kc ks pc ls (.long y :: .long x :: st) h := by
  intro p l e R s m args below meth c D tc ad ad0 h0 A H locs cells slots mc ms lsC hX hE hA hG hag hP hD hS hl
  exact lv_land hX.1 hX.2.1 hd  (hk p l e R s m args below meth c D tc ad ad0 h0 A H locs cells slots mc ms lsC hX hE hA hG hag hP hD hS hl)
theorem am_s_lshr {x : Int64} {y : Int32} (hd : decode (am_code mi) pc = .ok (.lshr, 1)) (hk : am_W mi d Q kc ks (pc + 1) ls (.long (x >>> (y.toInt64 &&& 63)) :: st) h) : am_W mi d Q kc ks pc ls (.int y :: .long x :: st) h := by
  intro p l e R s m args below meth c D tc ad ad0 h0 A H locs cells slots mc ms lsC hX hE hA hG hag hP hD hS hl
  exact lv_lshr hX.1 hX.2.1 hd rfl (hk p l e R s m args below meth c D tc ad ad0 h0 A H locs cells slots mc ms lsC hX hE hA hG hag hP hD hS hl)
theorem am_s_lushr {x : Int64} {y : Int32} (hd : decode (am_code mi) pc = .ok (.lushr, 1)) (hk : am_W mi d Q kc ks (pc + 1) ls (.long (x.toUInt64 >>> (y.toInt64.toUInt64 &&& Int64.toUInt64 63)).toInt64 :: st) h) : am_W mi d Q kc ks pc ls (.int y :: .long x :: st) h := by
  intro p l e R s m args below meth c D tc ad ad0 h0 A H locs cells slots mc ms lsC hX hE hA hG hag hP hD hS hl
  exact lv_lushr hX.1 hX.2.1 hd rfl (hk p l e R s m args below meth c D tc ad ad0 h0 A H locs cells slots mc ms lsC hX hE hA hG hag hP hD hS hl)
theorem am_s_l2i {x : Int64} (hd : decode (am_code mi) pc = .ok (.l2i, 1)) (hk : am_W mi d Q kc ks (pc + 1) ls (.int x.toInt32 :: st) h) : am_W mi d Q kc ks pc ls (.long x :: st) h := by
  intro p l e R s m args below meth c D tc ad ad0 h0 A H locs cells slots mc ms lsC hX hE hA hG hag hP hD hS hl
  exact lv_l2i hX.1 hX.2.1 hd rfl (hk p l e R s m args below meth c D tc ad ad0 h0 A H locs cells slots mc ms lsC hX hE hA hG hag hP hD hS hl)
theorem am_s_i2b {x : Int32} (hd : decode (am_code mi) pc = .ok (.i2b, 1)) (hk : am_W mi d Q kc ks (pc + 1) ls (.int x.toInt8.toInt32 :: st) h) : am_W mi d Q kc ks pc ls (.int x :: st) h := by
  intro p l e R s m args below meth c D tc ad ad0 h0 A H locs cells slots mc ms lsC hX hE hA hG hag hP hD hS hl
  exact lv_i2b hX.1 hX.2.1 hd rfl (hk p l e R s m args below meth c D tc ad ad0 h0 A H locs cells slots mc ms lsC hX hE hA hG hag hP hD hS hl)
theorem am_s_i2c {x : Int32} (hd : decode (am_code mi) pc = .ok (.i2c, 1)) (hk : am_W mi d Q kc ks (pc + 1) ls (.int (x.toUInt32 % 65536).toInt32 :: st) h) : am_W mi d Q kc ks pc ls (.int x :: st) h := by
  intro p l e R s m args below meth c D tc ad ad0 h0 A H locs cells slots mc ms lsC hX hE hA hG hag hP hD hS hl
  exact lv_i2c hX.1 hX.2.1 hd rfl (hk p l e R s m args below meth c D tc ad ad0 h0 A H locs cells slots mc ms lsC hX hE hA hG hag hP hD hS hl)
theorem am_s_dupi {x : Int32} (hd : decode (am_code mi) pc = .ok (.dup, 1)) (hk : am_W mi d Q kc ks (pc + 1) ls (.int x :: .int x :: st) h) : am_W mi d Q kc ks pc ls (.int x :: st) h := by
  intro p l e R s m args below meth c D tc ad ad0 h0 A H locs cells slots mc ms lsC hX hE hA hG hag hP hD hS hl
  exact lv_dup hX.1 hX.2.1 hd rfl (hk p l e R s m args below meth c D tc ad ad0 h0 A H locs cells slots mc ms lsC hX hE hA hG hag hP hD hS hl)
theorem am_s_dupr {x : Nat} (hd : decode (am_code mi) pc = .ok (.dup, 1)) (hk : am_W mi d Q kc ks (pc + 1) ls (.ref x :: .ref x :: st) h) : am_W mi d Q kc ks pc ls (.ref x :: st) h := by
  intro p l e R s m args below meth c D tc ad ad0 h0 A H locs cells slots mc ms lsC hX hE hA hG hag hP hD hS hl
  exact lv_dup hX.1 hX.2.1 hd rfl (hk p l e R s m args below meth c D tc ad ad0 h0 A H locs cells slots mc ms lsC hX hE hA hG hag hP hD hS hl)
theorem am_s_dup2 {y : Int32} {x : Nat} (hd : decode (am_code mi) pc = .ok (.dup2, 1)) (hk : am_W mi d Q kc ks (pc + 1) ls (.int y :: .ref x :: .int y :: .ref x :: st) h) : am_W mi d Q kc ks pc ls (.int y :: .ref x :: st) h := by
  intro p l e R s m args below meth c D tc ad ad0 h0 A H locs cells slots mc ms lsC hX hE hA hG hag hP hD hS hl
  exact lv_dup2_11 hX.1 hX.2.1 hd rfl rfl (hk p l e R s m args below meth c D tc ad ad0 h0 A H locs cells slots mc ms lsC hX hE hA hG hag hP hD hS hl)
theorem am_s_popi {x : Int32} (hd : decode (am_code mi) pc = .ok (.pop, 1)) (hk : am_W mi d Q kc ks (pc + 1) ls st h) : am_W mi d Q kc ks pc ls (.int x :: st) h := by
  intro p l e R s m args below meth c D tc ad ad0 h0 A H locs cells slots mc ms lsC hX hE hA hG hag hP hD hS hl
  exact lv_pop (va := .int x) hX.1 hX.2.1 hd rfl (hk p l e R s m args below meth c D tc ad ad0 h0 A H locs cells slots mc ms lsC hX hE hA hG hag hP hD hS hl)
theorem am_s_popr {x : Nat} (hd : decode (am_code mi) pc = .ok (.pop, 1)) (hk : am_W mi d Q kc ks (pc + 1) ls st h) : am_W mi d Q kc ks pc ls (.ref x :: st) h := by
  intro p l e R s m args below meth c D tc ad ad0 h0 A H locs cells slots mc ms lsC hX hE hA hG hag hP hD hS hl
  exact lv_pop (va := .ref (ad x)) hX.1 hX.2.1 hd rfl (hk p l e R s m args below meth c D tc ad ad0 h0 A H locs cells slots mc ms lsC hX hE hA hG hag hP hD hS hl)
theorem am_s_iconst {n : Int} {k : Int32} (hv : Int32.ofInt n = k) (hd : decode (am_code mi) pc = .ok (.iconst n, 1)) (hk : am_W mi d Q kc ks (pc + 1) ls (.int k :: st) h) : am_W mi d Q kc ks pc ls st h := by
  intro p l e R s m args below meth c D tc ad ad0 h0 A H locs cells slots mc ms lsC hX hE hA hG hag hP hD hS hl
  exact lv_iconst hX.1 hX.2.1 hd hv (hk p l e R s m args below meth c D tc ad ad0 h0 A H locs cells slots mc ms lsC hX hE hA hG hag hP hD hS hl)
theorem am_s_bipush {n : Int} {k : Int32} (hv : (Int8.ofInt n).toInt32 = k) (hd : decode (am_code mi) pc = .ok (.bipush n, 2)) (hk : am_W mi d Q kc ks (pc + 2) ls (.int k :: st) h) : am_W mi d Q kc ks pc ls st h := by
  intro p l e R s m args below meth c D tc ad ad0 h0 A H locs cells slots mc ms lsC hX hE hA hG hag hP hD hS hl
  exact lv_bipush hX.1 hX.2.1 hd hv (hk p l e R s m args below meth c D tc ad ad0 h0 A H locs cells slots mc ms lsC hX hE hA hG hag hP hD hS hl)
theorem am_s_sipush {n : Int} {k : Int32} (hv : (Int16.ofInt n).toInt32 = k) (hd : decode (am_code mi) pc = .ok (.sipush n, 3)) (hk : am_W mi d Q kc ks (pc + 3) ls (.int k :: st) h) : am_W mi d Q kc ks pc ls st h := by
  intro p l e R s m args below meth c D tc ad ad0 h0 A H locs cells slots mc ms lsC hX hE hA hG hag hP hD hS hl
  exact lv_sipush hX.1 hX.2.1 hd hv (hk p l e R s m args below meth c D tc ad ad0 h0 A H locs cells slots mc ms lsC hX hE hA hG hag hP hD hS hl)
theorem am_s_ldc {ix : Nat} {k : Int32} (hw : Cond.constant (am_y mi).cls ix k ∈ am_gt) (hd : decode (am_code mi) pc = .ok (.ldc ix, 2)) (hk : am_W mi d Q kc ks (pc + 2) ls (.int k :: st) h) : am_W mi d Q kc ks pc ls st h := by
  intro p l e R s m args below meth c D tc ad ad0 h0 A H locs cells slots mc ms lsC hX hE hA hG hag hP hD hS hl
  exact lv_ldc hX.1 hX.2.1 hX.2.2.2.2.1 (hX.2.2.2.2.2.2.2.1 _ hw args) hd (hk p l e R s m args below meth c D tc ad ad0 h0 A H locs cells slots mc ms lsC hX hE hA hG hag hP hD hS hl)
theorem am_s_ldcw {ix : Nat} {k : Int32} (hw : Cond.constant (am_y mi).cls ix k ∈ am_gt) (hd : decode (am_code mi) pc = .ok (.ldc_w ix, 3)) (hk : am_W mi d Q kc ks (pc + 3) ls (.int k :: st) h) : am_W mi d Q kc ks pc ls st h := by
  intro p l e R s m args below meth c D tc ad ad0 h0 A H locs cells slots mc ms lsC hX hE hA hG hag hP hD hS hl
  exact lv_ldcw hX.1 hX.2.1 hX.2.2.2.2.1 (hX.2.2.2.2.2.2.2.1 _ hw args) hd (hk p l e R s m args below meth c D tc ad ad0 h0 A H locs cells slots mc ms lsC hX hE hA hG hag hP hD hS hl)
theorem am_s_ldc2 {ix : Nat} {k : Int64} (hw : Cond.constantLong (am_y mi).cls ix k ∈ am_gt) (hd : decode (am_code mi) pc = .ok (.ldc2_w ix, 3)) (hk : am_W mi d Q kc ks (pc + 3) ls (.long k :: st) h) : am_W mi d Q kc ks pc ls st h := by
  intro p l e R s m args below meth c D tc ad ad0 h0 A H locs cells slots mc ms lsC hX hE hA hG hag hP hD hS hl
  exact lv_ldc2 hX.1 hX.2.1 hX.2.2.2.2.1 (hX.2.2.2.2.2.2.2.1 _ hw args) hd (hk p l e R s m args below meth c D tc ad ad0 h0 A H locs cells slots mc ms lsC hX hE hA hG hag hP hD hS hl)
theorem am_s_str0 (ho : (am_y mi).cls = "DeedProofs$RuleReader") (hd : decode (am_code mi) pc = .ok (.ldc 56, 2)) (hk : am_W mi d Q kc ks (pc + 2) ls (.ref 100000 :: st) h) : am_W mi d Q kc ks pc ls st h := by
  intro p l e R s m args below meth c D tc ad ad0 h0 A H locs cells slots mc ms lsC hX hE hA hG hag hP hD hS hl
  have hR := hE.2.1.1
  rw [← hag.2.2 100000 (Or.inr (by have := hag.2.1; omega)), ← ho] at hR
  exact va_ldcS hX.1 hX.2.1 hX.2.2.2.2.1 hR hd (hk p l e R s m args below meth c D tc ad ad0 h0 A H locs cells slots mc ms lsC hX hE hA hG hag hP hD hS hl)
theorem am_s_str1 (ho : (am_y mi).cls = "DeedProofs$RuleReader") (hd : decode (am_code mi) pc = .ok (.ldc 62, 2)) (hk : am_W mi d Q kc ks (pc + 2) ls (.ref 100001 :: st) h) : am_W mi d Q kc ks pc ls st h := by
  intro p l e R s m args below meth c D tc ad ad0 h0 A H locs cells slots mc ms lsC hX hE hA hG hag hP hD hS hl
  have hR := hE.2.1.2.1
  rw [← hag.2.2 100001 (Or.inr (by have := hag.2.1; omega)), ← ho] at hR
  exact va_ldcS hX.1 hX.2.1 hX.2.2.2.2.1 hR hd (hk p l e R s m args below meth c D tc ad ad0 h0 A H locs cells slots mc ms lsC hX hE hA hG hag hP hD hS hl)
theorem am_s_str2 (ho : (am_y mi).cls = "DeedProofs$RuleReader") (hd : decode (am_code mi) pc = .ok (.ldc 75, 2)) (hk : am_W mi d Q kc ks (pc + 2) ls (.ref 100002 :: st) h) : am_W mi d Q kc ks pc ls st h := by
  intro p l e R s m args below meth c D tc ad ad0 h0 A H locs cells slots mc ms lsC hX hE hA hG hag hP hD hS hl
  have hR := hE.2.1.2.2
  rw [← hag.2.2 100002 (Or.inr (by have := hag.2.1; omega)), ← ho] at hR
  exact va_ldcS hX.1 hX.2.1 hX.2.2.2.2.1 hR hd (hk p l e R s m args below meth c D tc ad ad0 h0 A H locs cells slots mc ms lsC hX hE hA hG hag hP hD hS hl)
theorem am_s_null  (hd : decode (am_code mi) pc = .ok (.aconst_null, 1)) (hk : am_W mi d Q kc ks (pc + 1) ls (.null :: st) h) : am_W mi d Q kc ks pc ls st h := by
  intro p l e R s m args below meth c D tc ad ad0 h0 A H locs cells slots mc ms lsC hX hE hA hG hag hP hD hS hl
  exact lv_null hX.1 hX.2.1 hd  (hk p l e R s m args below meth c D tc ad ad0 h0 A H locs cells slots mc ms lsC hX hE hA hG hag hP hD hS hl)
theorem am_s_iload {a : Nat} {x : Int32} (hv : am_nth ls a = some (some (.int x))) (hd : decode (am_code mi) pc = .ok (.iload a, 2)) (hk : am_W mi d Q kc ks (pc + 2) ls ((.int x) :: st) h) : am_W mi d Q kc ks pc ls st h := by
  intro p l e R s m args below meth c D tc ad ad0 h0 A H locs cells slots mc ms lsC hX hE hA hG hag hP hD hS hl
  exact lv_iload hX.1 hX.2.1 hd (am_lv.get hl hv) (hk p l e R s m args below meth c D tc ad ad0 h0 A H locs cells slots mc ms lsC hX hE hA hG hag hP hD hS hl)
theorem am_s_iload_n {a : Nat} {x : Int32} {j : Fin 4} (hv : am_nth ls a = some (some (.int x))) (hd : decode (am_code mi) pc = .ok (.iload_n j, 1)) (hi : (j : Nat) = a) (hk : am_W mi d Q kc ks (pc + 1) ls ((.int x) :: st) h) : am_W mi d Q kc ks pc ls st h := by
  intro p l e R s m args below meth c D tc ad ad0 h0 A H locs cells slots mc ms lsC hX hE hA hG hag hP hD hS hl
  exact lv_iload_n hX.1 hX.2.1 hd hi (am_lv.get hl hv) (hk p l e R s m args below meth c D tc ad ad0 h0 A H locs cells slots mc ms lsC hX hE hA hG hag hP hD hS hl)
theorem am_s_lload_n {a : Nat} {x : Int64} {j : Fin 4} (hv : am_nth ls a = some (some (.long x))) (hd : decode (am_code mi) pc = .ok (.lload_n j, 1)) (hi : (j : Nat) = a) (hk : am_W mi d Q kc ks (pc + 1) ls ((.long x) :: st) h) : am_W mi d Q kc ks pc ls st h := by
  intro p l e R s m args below meth c D tc ad ad0 h0 A H locs cells slots mc ms lsC hX hE hA hG hag hP hD hS hl
  exact lv_lload_n hX.1 hX.2.1 hd hi (am_lv.get hl hv) (hk p l e R s m args below meth c D tc ad ad0 h0 A H locs cells slots mc ms lsC hX hE hA hG hag hP hD hS hl)
theorem am_s_aload {a : Nat} {x : Nat} (hv : am_nth ls a = some (some (.ref x))) (hd : decode (am_code mi) pc = .ok (.aload a, 2)) (hk : am_W mi d Q kc ks (pc + 2) ls ((.ref x) :: st) h) : am_W mi d Q kc ks pc ls st h := by
  intro p l e R s m args below meth c D tc ad ad0 h0 A H locs cells slots mc ms lsC hX hE hA hG hag hP hD hS hl
  exact lv_aload hX.1 hX.2.1 hd (am_lv.get hl hv) (hk p l e R s m args below meth c D tc ad ad0 h0 A H locs cells slots mc ms lsC hX hE hA hG hag hP hD hS hl)
theorem am_s_aload_n {a : Nat} {x : Nat} {j : Fin 4} (hv : am_nth ls a = some (some (.ref x))) (hd : decode (am_code mi) pc = .ok (.aload_n j, 1)) (hi : (j : Nat) = a) (hk : am_W mi d Q kc ks (pc + 1) ls ((.ref x) :: st) h) : am_W mi d Q kc ks pc ls st h := by
  intro p l e R s m args below meth c D tc ad ad0 h0 A H locs cells slots mc ms lsC hX hE hA hG hag hP hD hS hl
  exact lv_aload_n hX.1 hX.2.1 hd hi (am_lv.get hl hv) (hk p l e R s m args below meth c D tc ad ad0 h0 A H locs cells slots mc ms lsC hX hE hA hG hag hP hD hS hl)
theorem am_s_aloadN {a : Nat}  (hv : am_nth ls a = some (some .null)) (hd : decode (am_code mi) pc = .ok (.aload a, 2)) (hk : am_W mi d Q kc ks (pc + 2) ls (.null :: st) h) : am_W mi d Q kc ks pc ls st h := by
  intro p l e R s m args below meth c D tc ad ad0 h0 A H locs cells slots mc ms lsC hX hE hA hG hag hP hD hS hl
  exact lv_aloadN hX.1 hX.2.1 hd (am_lv.get hl hv) (hk p l e R s m args below meth c D tc ad ad0 h0 A H locs cells slots mc ms lsC hX hE hA hG hag hP hD hS hl)
theorem am_s_aload_nN {a : Nat} {j : Fin 4} (hv : am_nth ls a = some (some .null)) (hd : decode (am_code mi) pc = .ok (.aload_n j, 1)) (hi : (j : Nat) = a) (hk : am_W mi d Q kc ks (pc + 1) ls (.null :: st) h) : am_W mi d Q kc ks pc ls st h := by
  intro p l e R s m args below meth c D tc ad ad0 h0 A H locs cells slots mc ms lsC hX hE hA hG hag hP hD hS hl
  exact lv_aload_nN hX.1 hX.2.1 hd hi (am_lv.get hl hv) (hk p l e R s m args below meth c D tc ad ad0 h0 A H locs cells slots mc ms lsC hX hE hA hG hag hP hD hS hl)
theorem am_s_istore {a : Nat} {x : Int32} (hn : am_nl ls a = true) (ha : a < am_mL mi) (hd : decode (am_code mi) pc = .ok (.istore a, 2)) (hk : am_W mi d Q kc ks (pc + 2) (am_put ls a (some (.int x))) st h) : am_W mi d Q kc ks pc ls ((.int x) :: st) h := by
  intro p l e R s m args below meth c D tc ad ad0 h0 A H locs cells slots mc ms lsC hX hE hA hG hag hP hD hS hl
  exact lv_istore hX.1 hX.2.1 hd hl ha rfl (fun ls' hl' => (hk p l e R s m args below meth c D tc ad ad0 h0 A H locs cells slots mc ms ls' hX hE hA hG hag hP hD hS (am_lv.put hn hl')))
theorem am_s_istore_n {a : Nat} {x : Int32} {j : Fin 4} (hn : am_nl ls a = true) (ha : a < am_mL mi) (hd : decode (am_code mi) pc = .ok (.istore_n j, 1)) (hi : (j : Nat) = a) (hk : am_W mi d Q kc ks (pc + 1) (am_put ls a (some (.int x))) st h) : am_W mi d Q kc ks pc ls ((.int x) :: st) h := by
  intro p l e R s m args below meth c D tc ad ad0 h0 A H locs cells slots mc ms lsC hX hE hA hG hag hP hD hS hl
  exact lv_istore_n hX.1 hX.2.1 hd hi hl ha rfl (fun ls' hl' => (hk p l e R s m args below meth c D tc ad ad0 h0 A H locs cells slots mc ms ls' hX hE hA hG hag hP hD hS (am_lv.put hn hl')))
theorem am_s_astore {a : Nat} {x : Nat} (hn : am_nl ls a = true) (ha : a < am_mL mi) (hd : decode (am_code mi) pc = .ok (.astore a, 2)) (hk : am_W mi d Q kc ks (pc + 2) (am_put ls a (some (.ref x))) st h) : am_W mi d Q kc ks pc ls ((.ref x) :: st) h := by
  intro p l e R s m args below meth c D tc ad ad0 h0 A H locs cells slots mc ms lsC hX hE hA hG hag hP hD hS hl
  exact lv_astore hX.1 hX.2.1 hd hl ha rfl (fun ls' hl' => (hk p l e R s m args below meth c D tc ad ad0 h0 A H locs cells slots mc ms ls' hX hE hA hG hag hP hD hS (am_lv.put hn hl')))
theorem am_s_astore_n {a : Nat} {x : Nat} {j : Fin 4} (hn : am_nl ls a = true) (ha : a < am_mL mi) (hd : decode (am_code mi) pc = .ok (.astore_n j, 1)) (hi : (j : Nat) = a) (hk : am_W mi d Q kc ks (pc + 1) (am_put ls a (some (.ref x))) st h) : am_W mi d Q kc ks pc ls ((.ref x) :: st) h := by
  intro p l e R s m args below meth c D tc ad ad0 h0 A H locs cells slots mc ms lsC hX hE hA hG hag hP hD hS hl
  exact lv_astore_n hX.1 hX.2.1 hd hi hl ha rfl (fun ls' hl' => (hk p l e R s m args below meth c D tc ad ad0 h0 A H locs cells slots mc ms ls' hX hE hA hG hag hP hD hS (am_lv.put hn hl')))
theorem am_s_iinc {a : Nat} {n : Int} {x k : Int32} (hn : am_nl ls a = true) (ha : a < am_mL mi) (hv : Int32.ofInt n = k) (hx : am_nth ls a = some (some (.int x))) (hd : decode (am_code mi) pc = .ok (.iinc a n, 3)) (hk : am_W mi d Q kc ks (pc + 3) (am_put ls a (some (.int (x + k)))) st h) : am_W mi d Q kc ks pc ls st h := by
  intro p l e R s m args below meth c D tc ad ad0 h0 A H locs cells slots mc ms lsC hX hE hA hG hag hP hD hS hl
  have hm : (a, Value.int x) ∈ am_al ad 0 ls := (am_al_mem ls 0 _).mpr ⟨a, .int x, by simp [am_v], hx⟩
  obtain ⟨j, hj⟩ := List.getElem?_of_mem hm
  exact lv_iinc (v := x + k) hX.1 hX.2.1 hd hl (k := j) hj (by rw [hv]) ha rfl (fun ls' hl' => (hk p l e R s m args below meth c D tc ad ad0 h0 A H locs cells slots mc ms ls' hX hE hA hG hag hP hD hS (am_lv.put (v := .int (x + k)) hn hl')))
theorem am_s_goto {a : Nat} {off : Int} (ht : (pc : Int) + off = (a : Int)) (hd : decode (am_code mi) pc = .ok (.goto off, 3)) (hk : am_W mi d Q kc ks a ls st h) : am_W mi d Q kc ks pc ls st h := by
  intro p l e R s m args below meth c D tc ad ad0 h0 A H locs cells slots mc ms lsC hX hE hA hG hag hP hD hS hl
  exact lv_goto hX.1 hX.2.1 hd ht (hk p l e R s m args below meth c D tc ad ad0 h0 A H locs cells slots mc ms lsC hX hE hA hG hag hP hD hS hl)
theorem am_s_if {co : ClassFile.Cond} {a : Nat} {off : Int} {x : Int32} (ht : (pc : Int) + off = (a : Int)) (hd : decode (am_code mi) pc = .ok (.ifCond co off, 3)) (hk : am_br co x 0 (am_W mi d Q kc ks a ls st h) (am_W mi d Q kc ks (pc + 3) ls st h)) : am_W mi d Q kc ks pc ls (.int x :: st) h := by
  intro p l e R s m args below meth c D tc ad ad0 h0 A H locs cells slots mc ms lsC hX hE hA hG hag hP hD hS hl
  cases co
  · exact lv_if_eq hX.1 hX.2.1 hd ht (fun z => (hk.1 z p l e R s m args below meth c D tc ad ad0 h0 A H locs cells slots mc ms lsC hX hE hA hG hag hP hD hS hl)) (fun z => (hk.2 z p l e R s m args below meth c D tc ad ad0 h0 A H locs cells slots mc ms lsC hX hE hA hG hag hP hD hS hl))
  · exact lv_if_ne hX.1 hX.2.1 hd ht (fun z => (hk.1 z p l e R s m args below meth c D tc ad ad0 h0 A H locs cells slots mc ms lsC hX hE hA hG hag hP hD hS hl)) (fun z => (hk.2 z p l e R s m args below meth c D tc ad ad0 h0 A H locs cells slots mc ms lsC hX hE hA hG hag hP hD hS hl))
  · exact lv_if_lt hX.1 hX.2.1 hd ht (fun z => (hk.1 z p l e R s m args below meth c D tc ad ad0 h0 A H locs cells slots mc ms lsC hX hE hA hG hag hP hD hS hl)) (fun z => (hk.2 z p l e R s m args below meth c D tc ad ad0 h0 A H locs cells slots mc ms lsC hX hE hA hG hag hP hD hS hl))
  · exact lv_if_ge hX.1 hX.2.1 hd ht (fun z => (hk.1 z p l e R s m args below meth c D tc ad ad0 h0 A H locs cells slots mc ms lsC hX hE hA hG hag hP hD hS hl)) (fun z => (hk.2 z p l e R s m args below meth c D tc ad ad0 h0 A H locs cells slots mc ms lsC hX hE hA hG hag hP hD hS hl))
  · exact lv_if_gt hX.1 hX.2.1 hd ht (fun z => (hk.1 z p l e R s m args below meth c D tc ad ad0 h0 A H locs cells slots mc ms lsC hX hE hA hG hag hP hD hS hl)) (fun z => (hk.2 z p l e R s m args below meth c D tc ad ad0 h0 A H locs cells slots mc ms lsC hX hE hA hG hag hP hD hS hl))
  · exact lv_if_le hX.1 hX.2.1 hd ht (fun z => (hk.1 z p l e R s m args below meth c D tc ad ad0 h0 A H locs cells slots mc ms lsC hX hE hA hG hag hP hD hS hl)) (fun z => (hk.2 z p l e R s m args below meth c D tc ad ad0 h0 A H locs cells slots mc ms lsC hX hE hA hG hag hP hD hS hl))
theorem am_s_icmp {co : ClassFile.Cond} {a : Nat} {off : Int} {x y : Int32} (ht : (pc : Int) + off = (a : Int)) (hd : decode (am_code mi) pc = .ok (.if_icmp co off, 3)) (hk : am_br co x y (am_W mi d Q kc ks a ls st h) (am_W mi d Q kc ks (pc + 3) ls st h)) : am_W mi d Q kc ks pc ls (.int y :: .int x :: st) h := by
  intro p l e R s m args below meth c D tc ad ad0 h0 A H locs cells slots mc ms lsC hX hE hA hG hag hP hD hS hl
  cases co
  · exact lv_icmp_eq hX.1 hX.2.1 hd ht (fun z => (hk.1 z p l e R s m args below meth c D tc ad ad0 h0 A H locs cells slots mc ms lsC hX hE hA hG hag hP hD hS hl)) (fun z => (hk.2 z p l e R s m args below meth c D tc ad ad0 h0 A H locs cells slots mc ms lsC hX hE hA hG hag hP hD hS hl))
  · exact lv_icmp_ne hX.1 hX.2.1 hd ht (fun z => (hk.1 z p l e R s m args below meth c D tc ad ad0 h0 A H locs cells slots mc ms lsC hX hE hA hG hag hP hD hS hl)) (fun z => (hk.2 z p l e R s m args below meth c D tc ad ad0 h0 A H locs cells slots mc ms lsC hX hE hA hG hag hP hD hS hl))
  · exact lv_icmp_lt hX.1 hX.2.1 hd ht (fun z => (hk.1 z p l e R s m args below meth c D tc ad ad0 h0 A H locs cells slots mc ms lsC hX hE hA hG hag hP hD hS hl)) (fun z => (hk.2 z p l e R s m args below meth c D tc ad ad0 h0 A H locs cells slots mc ms lsC hX hE hA hG hag hP hD hS hl))
  · exact lv_icmp_ge hX.1 hX.2.1 hd ht (fun z => (hk.1 z p l e R s m args below meth c D tc ad ad0 h0 A H locs cells slots mc ms lsC hX hE hA hG hag hP hD hS hl)) (fun z => (hk.2 z p l e R s m args below meth c D tc ad ad0 h0 A H locs cells slots mc ms lsC hX hE hA hG hag hP hD hS hl))
  · exact lv_icmp_gt hX.1 hX.2.1 hd ht (fun z => (hk.1 z p l e R s m args below meth c D tc ad ad0 h0 A H locs cells slots mc ms lsC hX hE hA hG hag hP hD hS hl)) (fun z => (hk.2 z p l e R s m args below meth c D tc ad ad0 h0 A H locs cells slots mc ms lsC hX hE hA hG hag hP hD hS hl))
  · exact lv_icmp_le hX.1 hX.2.1 hd ht (fun z => (hk.1 z p l e R s m args below meth c D tc ad ad0 h0 A H locs cells slots mc ms lsC hX hE hA hG hag hP hD hS hl)) (fun z => (hk.2 z p l e R s m args below meth c D tc ad ad0 h0 A H locs cells slots mc ms lsC hX hE hA hG hag hP hD hS hl))
theorem am_s_nonnull {a x : Nat} {off : Int} (ht : (pc : Int) + off = (a : Int)) (hd : decode (am_code mi) pc = .ok (.ifnonnull off, 3)) (hk : am_W mi d Q kc ks a ls st h) : am_W mi d Q kc ks pc ls (.ref x :: st) h := by
  intro p l e R s m args below meth c D tc ad ad0 h0 A H locs cells slots mc ms lsC hX hE hA hG hag hP hD hS hl
  exact lv_ifnonnull hX.1 hX.2.1 hd ht (hk p l e R s m args below meth c D tc ad ad0 h0 A H locs cells slots mc ms lsC hX hE hA hG hag hP hD hS hl)
theorem am_s_nonnullN {off : Int} (hd : decode (am_code mi) pc = .ok (.ifnonnull off, 3)) (hk : am_W mi d Q kc ks (pc + 3) ls st h) : am_W mi d Q kc ks pc ls (.null :: st) h := by
  intro p l e R s m args below meth c D tc ad ad0 h0 A H locs cells slots mc ms lsC hX hE hA hG hag hP hD hS hl
  exact lv_ifnonnullN hX.1 hX.2.1 hd (hk p l e R s m args below meth c D tc ad ad0 h0 A H locs cells slots mc ms lsC hX hE hA hG hag hP hD hS hl)
theorem am_s_tabO {dflt lo hi : Int} {offs : Array Int} {ln tgt : Nat} {x : Int32} (hx : x.toInt < lo ∨ hi < x.toInt) (ht : (pc : Int) + dflt = (tgt : Int)) (hd : decode (am_code mi) pc = .ok (.tableswitch dflt lo hi offs, ln)) (hk : am_W mi d Q kc ks tgt ls st h) : am_W mi d Q kc ks pc ls (.int x :: st) h := by
  intro p l e R s m args below meth c D tc ad ad0 h0 A H locs cells slots mc ms lsC hX hE hA hG hag hP hD hS hl
  exact lv_tableOut hX.1 hX.2.1 hd hx ht (hk p l e R s m args below meth c D tc ad ad0 h0 A H locs cells slots mc ms lsC hX hE hA hG hag hP hD hS hl)
theorem am_s_tabI {dflt lo hi off : Int} {offs : Array Int} {ln tgt : Nat} {x : Int32} (h1 : ¬ x.toInt < lo) (h2 : ¬ hi < x.toInt) (ho : offs[(x.toInt - lo).toNat]? = some off) (ht : (pc : Int) + off = (tgt : Int)) (hd : decode (am_code mi) pc = .ok (.tableswitch dflt lo hi offs, ln)) (hk : am_W mi d Q kc ks tgt ls st h) : am_W mi d Q kc ks pc ls (.int x :: st) h := by
  intro p l e R s m args below meth c D tc ad ad0 h0 A H locs cells slots mc ms lsC hX hE hA hG hag hP hD hS hl
  exact lv_tableIn hX.1 hX.2.1 hd h1 h2 ho ht (hk p l e R s m args below meth c D tc ad ad0 h0 A H locs cells slots mc ms lsC hX hE hA hG hag hP hD hS hl)
theorem am_s_look {dflt : Int} {ps : Array (Int × Int)} {ln tgt : Nat} {x : Int32} (hs : (ps.toList.zip (ps.toList.drop 1)).all (fun (a, next) => a.1 < next.1) = true) (ht : (pc : Int) + Op.lookupswitch.offset ps.toList dflt x.toInt = (tgt : Int)) (hd : decode (am_code mi) pc = .ok (.lookupswitch dflt ps, ln)) (hk : am_W mi d Q kc ks tgt ls st h) : am_W mi d Q kc ks pc ls (.int x :: st) h := by
  intro p l e R s m args below meth c D tc ad ad0 h0 A H locs cells slots mc ms lsC hX hE hA hG hag hP hD hS hl
  exact lv_lookup hX.1 hX.2.1 hd hs rfl ht (hk p l e R s m args below meth c D tc ad ad0 h0 A H locs cells slots mc ms lsC hX hE hA hG hag hP hD hS hl)
theorem am_s_iald {o n : Nat} {f : Nat → Int32} {i : Int32} (hc : am_nth h o = some (.inl (0, n, f))) (hin : vp_in i n) (hd : decode (am_code mi) pc = .ok (.iaload, 1)) (hk : am_W mi d Q kc ks (pc + 1) ls (.int (f i.toNatClampNeg) :: st) h) : am_W mi d Q kc ks pc ls (.int i :: .ref o :: st) h := by
  intro p l e R s m args below meth c D tc ad ad0 h0 A H locs cells slots mc ms lsC hX hE hA hG hag hP hD hS hl
  exact va_iald hX.1 hX.2.1 hX.2.2.2.2.2.2.2.2 hP o 0 (am_w_at hc) rfl hin hd (hk p l e R s m args below meth c D tc ad ad0 h0 A H locs cells slots mc ms lsC hX hE hA hG hag hP hD hS hl)
theorem am_s_bald {a o n : Nat} {f : Nat → Int32} {i : Int32} (ha : a = 1 ∨ a = 2) (hc : am_nth h o = some (.inl (a, n, f))) (hin : vp_in i n) (hd : decode (am_code mi) pc = .ok (.baload, 1)) (hk : am_W mi d Q kc ks (pc + 1) ls (.int (f i.toNatClampNeg) :: st) h) : am_W mi d Q kc ks pc ls (.int i :: .ref o :: st) h := by
  intro p l e R s m args below meth c D tc ad ad0 h0 A H locs cells slots mc ms lsC hX hE hA hG hag hP hD hS hl
  rcases ha with rfl | rfl
  · exact va_bald hX.1 hX.2.1 hX.2.2.2.2.2.2.2.2 hP o 1 (am_w_at hc) rfl hin hd (hk p l e R s m args below meth c D tc ad ad0 h0 A H locs cells slots mc ms lsC hX hE hA hG hag hP hD hS hl)
  · exact va_zald hX.1 hX.2.1 hX.2.2.2.2.2.2.2.2 hP o 2 (am_w_at hc) rfl hin hd (hk p l e R s m args below meth c D tc ad ad0 h0 A H locs cells slots mc ms lsC hX hE hA hG hag hP hD hS hl)
theorem am_s_iast {o n : Nat} {f : Nat → Int32} {i x : Int32} (hc : am_nth h o = some (.inl (0, n, f))) (hin : vp_in i n) (hd : decode (am_code mi) pc = .ok (.iastore, 1)) (hk : am_W mi d Q kc ks (pc + 1) ls st (am_put h o (.inl (0, n, upd f i.toNatClampNeg x)))) : am_W mi d Q kc ks pc ls (.int x :: .int i :: .ref o :: st) h := by
  intro p l e R s m args below meth c D tc ad ad0 h0 A H locs cells slots mc ms lsC hX hE hA hG hag hP hD hS hl
  exact va_iast hX.1 hX.2.1 hX.2.2.2.2.2.2.2.2 hP hD hS o 0 (am_w_at hc) rfl hin hd (fun H1 locs1 hP1 hD1 hS1 => (hk p l e R s m args below meth c D tc ad ad0 h0 A H1 locs1 cells slots mc ms lsC hX hE hA hG ⟨by rw [am_put_len]; exact hag.1, by rw [am_put_len]; exact hag.2.1, by rw [am_put_len]; exact hag.2.2⟩ (by rw [am_w_put]; exact hP1) (by rw [am_w_put]; exact hD1) hS1 hl))
theorem am_s_bast {a o n : Nat} {f : Nat → Int32} {i x : Int32} (ha : a = 1 ∨ a = 2) (hc : am_nth h o = some (.inl (a, n, f))) (hin : vp_in i n) (hd : decode (am_code mi) pc = .ok (.bastore, 1)) (hk : am_W mi d Q kc ks (pc + 1) ls st (am_put h o (.inl (a, n, upd f i.toNatClampNeg (vp_nar (am_aty a) x))))) : am_W mi d Q kc ks pc ls (.int x :: .int i :: .ref o :: st) h := by
  intro p l e R s m args below meth c D tc ad ad0 h0 A H locs cells slots mc ms lsC hX hE hA hG hag hP hD hS hl
  rcases ha with rfl | rfl
  · exact va_bast hX.1 hX.2.1 hX.2.2.2.2.2.2.2.2 hP hD hS o 1 (am_w_at hc) rfl hin hd (fun H1 locs1 hP1 hD1 hS1 => (hk p l e R s m args below meth c D tc ad ad0 h0 A H1 locs1 cells slots mc ms lsC hX hE hA hG ⟨by rw [am_put_len]; exact hag.1, by rw [am_put_len]; exact hag.2.1, by rw [am_put_len]; exact hag.2.2⟩ (by rw [am_w_put]; exact hP1) (by rw [am_w_put]; exact hD1) hS1 hl))
  · exact va_zast hX.1 hX.2.1 hX.2.2.2.2.2.2.2.2 hP hD hS o 2 (am_w_at hc) rfl hin hd (fun H1 locs1 hP1 hD1 hS1 => (hk p l e R s m args below meth c D tc ad ad0 h0 A H1 locs1 cells slots mc ms lsC hX hE hA hG ⟨by rw [am_put_len]; exact hag.1, by rw [am_put_len]; exact hag.2.1, by rw [am_put_len]; exact hag.2.2⟩ (by rw [am_w_put]; exact hP1) (by rw [am_w_put]; exact hD1) hS1 hl))
theorem am_s_len {a o n : Nat} {f : Nat → Int32} (ha : a < 3) (hc : am_nth h o = some (.inl (a, n, f))) (hd : decode (am_code mi) pc = .ok (.arraylength, 1)) (hk : am_W mi d Q kc ks (pc + 1) ls (.int (Int32.ofNat n) :: st) h) : am_W mi d Q kc ks pc ls (.ref o :: st) h := by
  intro p l e R s m args below meth c D tc ad ad0 h0 A H locs cells slots mc ms lsC hX hE hA hG hag hP hD hS hl
  rcases (show a = 0 ∨ a = 1 ∨ a = 2 by omega) with rfl | rfl | rfl
  · exact va_alen hX.1 hX.2.1 hX.2.2.2.2.2.2.2.2 hP o 0 (am_w_at hc) rfl rfl hd (hk p l e R s m args below meth c D tc ad ad0 h0 A H locs cells slots mc ms lsC hX hE hA hG hag hP hD hS hl)
  · exact va_alen hX.1 hX.2.1 hX.2.2.2.2.2.2.2.2 hP o 1 (am_w_at hc) rfl rfl hd (hk p l e R s m args below meth c D tc ad ad0 h0 A H locs cells slots mc ms lsC hX hE hA hG hag hP hD hS hl)
  · exact va_alen hX.1 hX.2.1 hX.2.2.2.2.2.2.2.2 hP o 2 (am_w_at hc) rfl rfl hd (hk p l e R s m args below meth c D tc ad ad0 h0 A H locs cells slots mc ms lsC hX hE hA hG hag hP hD hS hl)
theorem am_s_lenq {a o n : Nat} {f : Nat → Option Nat} (ha : a = 3 ∨ a = 4) (hc : am_nth h o = some (.inr (.inl (a, n, f)))) (hd : decode (am_code mi) pc = .ok (.arraylength, 1)) (hk : am_W mi d Q kc ks (pc + 1) ls (.int (Int32.ofNat n) :: st) h) : am_W mi d Q kc ks pc ls (.ref o :: st) h := by
  intro p l e R s m args below meth c D tc ad ad0 h0 A H locs cells slots mc ms lsC hX hE hA hG hag hP hD hS hl
  rcases ha with rfl | rfl
  · exact va_alen hX.1 hX.2.1 hX.2.2.2.2.2.2.2.2 hP o 3 (am_w_at hc) rfl rfl hd (hk p l e R s m args below meth c D tc ad ad0 h0 A H locs cells slots mc ms lsC hX hE hA hG hag hP hD hS hl)
  · exact va_alen hX.1 hX.2.1 hX.2.2.2.2.2.2.2.2 hP o 4 (am_w_at hc) rfl rfl hd (hk p l e R s m args below meth c D tc ad ad0 h0 A H locs cells slots mc ms lsC hX hE hA hG hag hP hD hS hl)
theorem am_s_aald {a o n j : Nat} {f : Nat → Option Nat} {i : Int32} (ha : a = 3 ∨ a = 4) (hc : am_nth h o = some (.inr (.inl (a, n, f)))) (hin : vp_in i n) (hf : f i.toNatClampNeg = some j) (hd : decode (am_code mi) pc = .ok (.aaload, 1)) (hk : am_W mi d Q kc ks (pc + 1) ls (.ref j :: st) h) : am_W mi d Q kc ks pc ls (.int i :: .ref o :: st) h := by
  intro p l e R s m args below meth c D tc ad ad0 h0 A H locs cells slots mc ms lsC hX hE hA hG hag hP hD hS hl
  rcases ha with rfl | rfl
  · refine va_aldq hX.1 hX.2.1 hX.2.2.2.2.2.2.2.2 hP o 3 (am_w_at hc) rfl hin hd ?_
    show W _ _ _ _ _ _ _ _ _ _ _ _ _ _ _ (F0 _ _ _ (va_rf ((f i.toNatClampNeg).map ad) :: _))
    rw [hf]
    exact (hk p l e R s m args below meth c D tc ad ad0 h0 A H locs cells slots mc ms lsC hX hE hA hG hag hP hD hS hl)
  · refine va_aldq hX.1 hX.2.1 hX.2.2.2.2.2.2.2.2 hP o 4 (am_w_at hc) rfl hin hd ?_
    show W _ _ _ _ _ _ _ _ _ _ _ _ _ _ _ (F0 _ _ _ (va_rf ((f i.toNatClampNeg).map ad) :: _))
    rw [hf]
    exact (hk p l e R s m args below meth c D tc ad ad0 h0 A H locs cells slots mc ms lsC hX hE hA hG hag hP hD hS hl)
theorem am_up_map {ad : Nat → Nat} {f : Nat → Option Nat} {k v : Nat} : (fun j => (va_up f k (some v) j).map ad) = va_up (fun j => (f j).map ad) k (some (ad v)) := by
  funext j
  by_cases hj : j = k <;> simp [va_up, hj]
theorem am_s_aast {a o n ci v : Nat} {f : Nat → Option Nat} {fs : List Value} {i : Int32} (ha : a = 3 ∧ ci = 10 ∨ a = 4 ∧ (ci = 1 ∨ ci = 3 ∨ ci = 4 ∨ ci = 5 ∨ ci = 8)) (hc : am_nth h o = some (.inr (.inl (a, n, f)))) (hv : am_nth h v = some (.inr (.inr (ci, fs)))) (hin : vp_in i n) (hd : decode (am_code mi) pc = .ok (.aastore, 1)) (hk : am_W mi d Q kc ks (pc + 1) ls st (am_put h o (.inr (.inl (a, n, va_up f i.toNatClampNeg (some v)))))) : am_W mi d Q kc ks pc ls (.ref v :: .int i :: .ref o :: st) h := by
  intro p l e R s m args below meth c D tc ad ad0 h0 A H locs cells slots mc ms lsC hX hE hA hG hag hP hD hS hl
  rcases ha with ⟨rfl, rfl⟩ | ⟨rfl, rfl | rfl | rfl | rfl | rfl⟩
  · refine va_astq (r := am_cls[10]) (ci := 10) hX.1 hX.2.1 hX.2.2.2.2.2.2.2.2 hP hD hS o 3 v (am_w_at hc) rfl (am_w_at hv) rfl hin hd (fun H1 locs1 hP1 hD1 hS1 => ?_)
    refine (hk p l e R s m args below meth c D tc ad ad0 h0 A H1 locs1 cells slots mc ms lsC hX hE hA hG ⟨by rw [am_put_len]; exact hag.1, by rw [am_put_len]; exact hag.2.1, by rw [am_put_len]; exact hag.2.2⟩ ?_ ?_ hS1 hl)
    · rw [am_w_put]; show va_P _ _ ((am_w ad tc h).set o (_, .inl (_, _, .inr (.inr (.inr (.inr (fun j => (va_up f i.toNatClampNeg (some v) j).map ad))))))) _; rw [am_up_map]; exact hP1
    · rw [am_w_put]; show va_D _ ((am_w ad tc h).set o (_, .inl (_, _, .inr (.inr (.inr (.inr (fun j => (va_up f i.toNatClampNeg (some v) j).map ad))))))); rw [am_up_map]; exact hD1
  · refine va_astqO (r := am_cls[1]) (ci := 1) hX.1 hX.2.1 hX.2.2.2.2.2.2.2.2 hP hD hS o 4 v (am_w_at hc) rfl (va_Nw.of rfl (hX.2.2.2.2.2.2.2.1 (.castable "DeedProofs$Cut" "DeedProofs$Line") (by decide +kernel) args)) (am_w_at hv) rfl hin hd (fun H1 locs1 hP1 hD1 hS1 => ?_)
    refine (hk p l e R s m args below meth c D tc ad ad0 h0 A H1 locs1 cells slots mc ms lsC hX hE hA hG ⟨by rw [am_put_len]; exact hag.1, by rw [am_put_len]; exact hag.2.1, by rw [am_put_len]; exact hag.2.2⟩ ?_ ?_ hS1 hl)
    · rw [am_w_put]; show va_P _ _ ((am_w ad tc h).set o (_, .inl (_, _, .inr (.inr (.inr (.inr (fun j => (va_up f i.toNatClampNeg (some v) j).map ad))))))) _; rw [am_up_map]; exact hP1
    · rw [am_w_put]; show va_D _ ((am_w ad tc h).set o (_, .inl (_, _, .inr (.inr (.inr (.inr (fun j => (va_up f i.toNatClampNeg (some v) j).map ad))))))); rw [am_up_map]; exact hD1
  · refine va_astq (r := am_cls[3]) (ci := 3) hX.1 hX.2.1 hX.2.2.2.2.2.2.2.2 hP hD hS o 4 v (am_w_at hc) rfl (am_w_at hv) rfl hin hd (fun H1 locs1 hP1 hD1 hS1 => ?_)
    refine (hk p l e R s m args below meth c D tc ad ad0 h0 A H1 locs1 cells slots mc ms lsC hX hE hA hG ⟨by rw [am_put_len]; exact hag.1, by rw [am_put_len]; exact hag.2.1, by rw [am_put_len]; exact hag.2.2⟩ ?_ ?_ hS1 hl)
    · rw [am_w_put]; show va_P _ _ ((am_w ad tc h).set o (_, .inl (_, _, .inr (.inr (.inr (.inr (fun j => (va_up f i.toNatClampNeg (some v) j).map ad))))))) _; rw [am_up_map]; exact hP1
    · rw [am_w_put]; show va_D _ ((am_w ad tc h).set o (_, .inl (_, _, .inr (.inr (.inr (.inr (fun j => (va_up f i.toNatClampNeg (some v) j).map ad))))))); rw [am_up_map]; exact hD1
  · refine va_astqO (r := am_cls[4]) (ci := 4) hX.1 hX.2.1 hX.2.2.2.2.2.2.2.2 hP hD hS o 4 v (am_w_at hc) rfl (va_Nw.of rfl (hX.2.2.2.2.2.2.2.1 (.castable "DeedProofs$Open" "DeedProofs$Line") (by decide +kernel) args)) (am_w_at hv) rfl hin hd (fun H1 locs1 hP1 hD1 hS1 => ?_)
    refine (hk p l e R s m args below meth c D tc ad ad0 h0 A H1 locs1 cells slots mc ms lsC hX hE hA hG ⟨by rw [am_put_len]; exact hag.1, by rw [am_put_len]; exact hag.2.1, by rw [am_put_len]; exact hag.2.2⟩ ?_ ?_ hS1 hl)
    · rw [am_w_put]; show va_P _ _ ((am_w ad tc h).set o (_, .inl (_, _, .inr (.inr (.inr (.inr (fun j => (va_up f i.toNatClampNeg (some v) j).map ad))))))) _; rw [am_up_map]; exact hP1
    · rw [am_w_put]; show va_D _ ((am_w ad tc h).set o (_, .inl (_, _, .inr (.inr (.inr (.inr (fun j => (va_up f i.toNatClampNeg (some v) j).map ad))))))); rw [am_up_map]; exact hD1
  · refine va_astqO (r := am_cls[5]) (ci := 5) hX.1 hX.2.1 hX.2.2.2.2.2.2.2.2 hP hD hS o 4 v (am_w_at hc) rfl (va_Nw.of rfl (hX.2.2.2.2.2.2.2.1 (.castable "DeedProofs$Piece" "DeedProofs$Line") (by decide +kernel) args)) (am_w_at hv) rfl hin hd (fun H1 locs1 hP1 hD1 hS1 => ?_)
    refine (hk p l e R s m args below meth c D tc ad ad0 h0 A H1 locs1 cells slots mc ms lsC hX hE hA hG ⟨by rw [am_put_len]; exact hag.1, by rw [am_put_len]; exact hag.2.1, by rw [am_put_len]; exact hag.2.2⟩ ?_ ?_ hS1 hl)
    · rw [am_w_put]; show va_P _ _ ((am_w ad tc h).set o (_, .inl (_, _, .inr (.inr (.inr (.inr (fun j => (va_up f i.toNatClampNeg (some v) j).map ad))))))) _; rw [am_up_map]; exact hP1
    · rw [am_w_put]; show va_D _ ((am_w ad tc h).set o (_, .inl (_, _, .inr (.inr (.inr (.inr (fun j => (va_up f i.toNatClampNeg (some v) j).map ad))))))); rw [am_up_map]; exact hD1
  · refine va_astqO (r := am_cls[8]) (ci := 8) hX.1 hX.2.1 hX.2.2.2.2.2.2.2.2 hP hD hS o 4 v (am_w_at hc) rfl (va_Nw.of rfl (hX.2.2.2.2.2.2.2.1 (.castable "DeedProofs$Shared" "DeedProofs$Line") (by decide +kernel) args)) (am_w_at hv) rfl hin hd (fun H1 locs1 hP1 hD1 hS1 => ?_)
    refine (hk p l e R s m args below meth c D tc ad ad0 h0 A H1 locs1 cells slots mc ms lsC hX hE hA hG ⟨by rw [am_put_len]; exact hag.1, by rw [am_put_len]; exact hag.2.1, by rw [am_put_len]; exact hag.2.2⟩ ?_ ?_ hS1 hl)
    · rw [am_w_put]; show va_P _ _ ((am_w ad tc h).set o (_, .inl (_, _, .inr (.inr (.inr (.inr (fun j => (va_up f i.toNatClampNeg (some v) j).map ad))))))) _; rw [am_up_map]; exact hP1
    · rw [am_w_put]; show va_D _ ((am_w ad tc h).set o (_, .inl (_, _, .inr (.inr (.inr (.inr (fun j => (va_up f i.toNatClampNeg (some v) j).map ad))))))); rw [am_up_map]; exact hD1
theorem am_s_above {ix : Nat} (ho : (am_y mi).cls = "DeedProofs") (hw : Cond.fieldLink "DeedProofs" ix "DeedProofs" "ABOVE" "[I" ∈ am_gt) (hd : decode (am_code mi) pc = .ok (.getstatic ix, 3)) (hk : am_W mi d Q kc ks (pc + 3) ls (.ref 100003 :: st) h) : am_W mi d Q kc ks pc ls st h := by
  intro p l e R s m args below meth c D tc ad ad0 h0 A H locs cells slots mc ms lsC hX hE hA hG hag hP hD hS hl
  have hZ := hE.2.2.2.2.1
  rw [← hag.2.2 100003 (Or.inr (by have := hag.2.1; omega))] at hZ
  exact va_gets hX.1 hX.2.1 hZ hS (ho ▸ hX.2.2.2.2.1) (hX.2.2.2.2.2.2.2.1 _ hw args) (fun _ z => z) hd (hk p l e R s m args below meth c D tc ad ad0 h0 A H locs cells slots mc ms lsC hX hE hA hG hag hP hD hS hl)
theorem am_s_abald {i : Int32} (hin : vp_in i 5) (hd : decode (am_code mi) pc = .ok (.iaload, 1)) (hk : am_W mi d Q kc ks (pc + 1) ls (.int (am_abv i.toNatClampNeg) :: st) h) : am_W mi d Q kc ks pc ls (.int i :: .ref 100003 :: st) h := by
  intro p l e R s m args below meth c D tc ad ad0 h0 A H locs cells slots mc ms lsC hX hE hA hG hag hP hD hS hl
  have hZ := hE.2.2.2.2.2
  rw [← hag.2.2 100003 (Or.inr (by have := hag.2.1; omega))] at hZ
  exact va_ti hX.1 hX.2.1 hZ hS hin rfl hd (hk p l e R s m args below meth c D tc ad ad0 h0 A H locs cells slots mc ms lsC hX hE hA hG hag hP hD hS hl)
end AMS
end
section
/-! fields, new cells, a method's end, a method's beginning -/
def am_FL (own : String) (ix a b : Nat) : Prop := ∃ q : vw_C, am_cls[a]? = some q ∧ b < q.2.2 ∧ (Cond.fieldLink own ix q.1 (q.2.1 b).2.1 (q.2.1 b).2.2.1 ∈ am_gt ∨ ∃ host : String, Cond.fieldLinkNest own ix q.1 (q.2.1 b).2.1 (q.2.1 b).2.2.1 host ∈ am_gt)
def am_FP (own name : String) (ix a b : Nat) : Prop := ∃ q : vw_C, am_cls[a]? = some q ∧ b < q.2.2 ∧ ((q.2.1 b).2.2.2 = false ∧ (Cond.fieldLink own ix q.1 (q.2.1 b).2.1 (q.2.1 b).2.2.1 ∈ am_gt ∨ ∃ host : String, Cond.fieldLinkNest own ix q.1 (q.2.1 b).2.1 (q.2.1 b).2.2.1 host ∈ am_gt) ∨ (q.2.1 b).2.2.2 = true ∧ Cond.fieldLink own ix q.1 (q.2.1 b).2.1 (q.2.1 b).2.2.1 ∈ am_gt ∧ name = "<init>" ∧ q.1 = own)
theorem am_fit_ok {ad : Nat → Nat} {ty : FieldType} {v : Value} (h : am_fit ty v) : narrow ty (am_v ad v) = am_v ad v ∧ fits ty (am_v ad v) = true := by
  cases ty <;> cases v <;> first | exact h.elim | exact h | exact ⟨rfl, rfl⟩
def am_ad (ad : Nat → Nat) (n q : Nat) : Nat → Nat := fun i => if i = n then q else ad i
theorem am_ad_at (ad : Nat → Nat) (n q : Nat) : am_ad ad n q n = q := if_pos rfl
theorem am_ad_ne {ad : Nat → Nat} {n q i : Nat} (h : i ≠ n) : am_ad ad n q i = ad i := if_neg h
theorem am_v_nr {ad : Nat → Nat} {n q : Nat} {v : Value} (h : am_nrV n v) : am_v (am_ad ad n q) v = am_v ad v := by
  cases v <;> first | rfl | exact congrArg Value.ref (am_ad_ne h)
theorem am_e_nr {ad : Nat → Nat} {tc : Nat → ClassId} {n q : Nat} {c : am_C} (h : am_nrC n c) : am_e (am_ad ad n q) tc c = am_e ad tc c := by
  match c, h with
  | .inl _, _ => rfl
  | .inr (.inl (t, k, f)), h =>
    have e : (fun j => (f j).map (am_ad ad n q)) = (fun j => (f j).map ad) := by
      funext j
      have hj := h j
      cases hf : f j with
      | none => rfl
      | some i => exact congrArg some (am_ad_ne (fun z => hj (by rw [hf, z])))
    show Sum.inl (_, _, Sum.inr (Sum.inr (Sum.inr (Sum.inr (fun j => (f j).map (am_ad ad n q)))))) = Sum.inl (_, _, Sum.inr (Sum.inr (Sum.inr (Sum.inr (fun j => (f j).map ad)))))
    rw [e]
  | .inr (.inr (ci, fs)), h =>
    show Sum.inr (_, fs.map (am_v (am_ad ad n q))) = Sum.inr (_, fs.map (am_v ad))
    rw [List.map_congr_left (fun v hv => am_v_nr (h v hv))]
theorem am_w_nr {ad : Nat → Nat} {tc : Nat → ClassId} {q : Nat} {h : am_H} {c : am_C} (hr : ∀ c ∈ h, am_nrC h.length c) : am_w (am_ad ad h.length q) tc (h ++ [c]) = am_w ad tc h ++ [(q, am_e (am_ad ad h.length q) tc c)] := by
  apply List.ext_getElem?
  intro j
  by_cases hj : j < h.length
  · rw [List.getElem?_append_left (by rw [am_w_len]; exact hj)]
    simp only [am_w, List.getElem?_mapIdx, List.getElem?_append_left hj, List.getElem?_eq_getElem hj, Option.map_some]
    rw [am_ad_ne (by omega), am_e_nr (hr _ (List.getElem_mem hj))]
  · rw [List.getElem?_append_right (by rw [am_w_len]; omega), am_w_len]
    simp only [am_w, List.getElem?_mapIdx]
    rw [List.getElem?_append_right (by omega)]
    by_cases hz : j = h.length
    · subst hz
      simp [am_ad_at]
    · have h1 : ¬ j - h.length = 0 := by omega
      rw [List.getElem?_eq_none (by simp; omega), List.getElem?_eq_none (by simp; omega)]
      rfl
theorem am_al_nr {ad : Nat → Nat} {n q : Nat} : ∀ (ls : am_L) (i : Nat), (∀ v, some v ∈ ls → am_nrV n v) → am_al (am_ad ad n q) i ls = am_al ad i ls
  | [], _, _ => rfl
  | none :: l, i, h => am_al_nr l (i + 1) (fun v hv => h v (List.mem_cons_of_mem _ hv))
  | some v :: l, i, h => by
    rw [am_al, am_al, am_v_nr (h v List.mem_cons_self), am_al_nr l (i + 1) (fun v hv => h v (List.mem_cons_of_mem _ hv))]
theorem am_ac_int : Cond.arrayClass .int ∈ am_gt := by decide +kernel
theorem am_ac_byte : Cond.arrayClass .byte ∈ am_gt := by decide +kernel
theorem am_ac_boolean : Cond.arrayClass .boolean ∈ am_gt := by decide +kernel
theorem am_new_v (ad : Nat → Nat) (a : Nat) : (am_new a).map (am_v ad) = am_new a := by unfold am_new; split <;> rfl
section AMM
variable {mi : am_MI} {d : Nat} {Q : Option Value → am_H → Prop} {kc ks pc : Nat} {ls : am_L} {st : List Value} {h : am_H}
theorem am_s_get {ix a b o : Nat} {fs : List Value} {v : Value} (hF : am_FL (am_y mi).cls ix a b) (hc : am_nth h o = some (.inr (.inr (a, fs)))) (hv : am_nth fs b = some v) (hd : decode (am_code mi) pc = .ok (.getfield ix, 3)) (hk : am_W mi d Q kc ks (pc + 3) ls (v :: st) h) : am_W mi d Q kc ks pc ls (.ref o :: st) h := by
  intro p l e R s m args below meth c D tc ad ad0 h0 A H locs cells slots mc ms lsC hX hE hA hG hag hP hD hS hl
  obtain ⟨⟨C, T, N⟩, hq, hb, hlk⟩ := hF
  obtain ⟨hin, hty, hnm, how, -, -⟩ := am_cls_ok a _ hq
  have hT := hX.2.2.2.2.2.2.2.1
  have hv' : (fs.map (am_v ad))[b]? = some (am_v ad v) := by rw [am_nth_eq] at hv; simp [hv]
  have hsame : ∀ x, s.fieldFound? (T b).1 (T b).2.1 (T b).2.2.1 = some x → s.fieldFound? C (T b).2.1 (T b).2.2.1 = some x := by rw [how b hb]; exact fun _ z => z
  rcases hlk with hlk | ⟨host, hlk⟩
  · exact va_get (Ts := am_gt) hX.1 hX.2.1 (hT.use args) hin hX.2.2.2.2.1 hX.2.2.2.2.2.2.2.2 hP o (am_w_at hc) hq b hb (hT _ hlk args) hsame hv' hd (hk p l e R s m args below meth c D tc ad ad0 h0 A H locs cells slots mc ms lsC hX hE hA hG hag hP hD hS hl)
  · exact va_getN (Ts := am_gt) hX.1 hX.2.1 (hT.use args) hin hX.2.2.2.2.1 hX.2.2.2.2.2.2.2.2 hP o (am_w_at hc) hq b hb (hT _ hlk args) hsame hv' hd (hk p l e R s m args below meth c D tc ad ad0 h0 A H locs cells slots mc ms lsC hX hE hA hG hag hP hD hS hl)
theorem am_fs_put {ad : Nat → Nat} {fs : List Value} {b : Nat} {v : Value} : (am_put fs b v).map (am_v ad) = (fs.map (am_v ad)).set b (am_v ad v) := by
  rw [am_put_eq, List.map_set]
theorem am_s_put {ix a b o : Nat} {fs : List Value} {v : Value} (hF : am_FP (am_y mi).cls (am_y mi).name ix a b) (hc : am_nth h o = some (.inr (.inr (a, fs)))) (hbl : b < fs.length) (hfit : am_fit (am_fty a b) v) (hd : decode (am_code mi) pc = .ok (.putfield ix, 3)) (hk : am_W mi d Q kc ks (pc + 3) ls st (am_put h o (.inr (.inr (a, am_put fs b v))))) : am_W mi d Q kc ks pc ls (v :: .ref o :: st) h := by
  intro p l e R s m args below meth c D tc ad ad0 h0 A H locs cells slots mc ms lsC hX hE hA hG hag hP hD hS hl
  obtain ⟨⟨C, T, N⟩, hq, hb, hlk⟩ := hF
  obtain ⟨hin, hty, hnm, how, -, -⟩ := am_cls_ok a _ hq
  have hT := hX.2.2.2.2.2.2.2.1
  obtain ⟨hf1, hf2⟩ := am_fit_ok (ad := ad) hfit
  have hsame : ∀ x, s.fieldFound? (T b).1 (T b).2.1 (T b).2.2.1 = some x → s.fieldFound? C (T b).2.1 (T b).2.2.1 = some x := by rw [how b hb]; exact fun _ z => z
  have key : ∀ (H1 : Heap) (locs1 : List Loc), va_P D am_cls ((am_w ad tc h).set o (ad o, .inr (a, (fs.map (am_v ad)).set b (am_v ad v)))) H1 → va_D A ((am_w ad tc h).set o (ad o, .inr (a, (fs.map (am_v ad)).set b (am_v ad v)))) → va_S A s.heap H1 locs1 → W p l e R s m args below meth c H1 locs1 cells slots (MQ below (am_Q D tc A h0 ad0 Q) args s mc ms A) (F0 m (pc + 3) lsC (st.map (am_v ad))) := by
    intro H1 locs1 hP1 hD1 hS1
    rw [← am_fs_put] at hP1 hD1
    exact hk p l e R s m args below meth c D tc ad ad0 h0 A H1 locs1 cells slots mc ms lsC hX hE hA hG ⟨by rw [am_put_len]; exact hag.1, by rw [am_put_len]; exact hag.2.1, by rw [am_put_len]; exact hag.2.2⟩ (by rw [am_w_put]; exact hP1) (by rw [am_w_put]; exact hD1) hS1 hl
  have hbl' : b < (fs.map (am_v ad)).length := by rw [List.length_map]; exact hbl
  rcases hlk with ⟨hfin, hlk | ⟨host, hlk⟩⟩ | ⟨hfin, hlk, hnam, hcc⟩
  · exact va_put (Ts := am_gt) hX.1 hX.2.1 (hT.use args) hin (am_fty a) hty hnm hX.2.2.2.2.1 hX.2.2.2.2.2.2.2.2 hP hD hS o (am_w_at hc) hq b hb (hT _ hlk args) hsame hfin (hty b hb) hf1 hf2 hbl' hd key
  · exact va_putN (Ts := am_gt) hX.1 hX.2.1 (hT.use args) hin (am_fty a) hty hnm hX.2.2.2.2.1 hX.2.2.2.2.2.2.2.2 hP hD hS o (am_w_at hc) hq b hb (hT _ hlk args) hsame hfin (hty b hb) hf1 hf2 hbl' hd key
  · exact va_putF (Ts := am_gt) hX.1 hX.2.1 (hT.use args) hin (am_fty a) hty hnm hX.2.2.2.2.1 hX.2.2.2.2.2.2.2.2 hP hD hS o (am_w_at hc) hq b hb (hT _ hlk args) hsame hfin (hX.2.2.2.2.2.2.1.trans hnam) ((how b hb).trans hcc) (hty b hb) hf1 hf2 hbl' hd key
theorem am_ag_new {h0 : am_H} {ad0 ad : Nat → Nat} {q : Nat} {c : am_C} (hag : am_ag h0 ad0 ad h) (hl : h.length + 1 < 100000) : am_ag h0 ad0 (am_ad ad h.length q) (h ++ [c]) := by
  obtain ⟨h1, h2, h3⟩ := hag
  refine ⟨by simp; omega, by simp; omega, fun i hi => ?_⟩
  simp at hi
  rw [am_ad_ne (by omega)]
  exact h3 i (by omega)
theorem am_s_new {ix a : Nat} (hN : ∃ q : vw_C, am_cls[a]? = some q ∧ Cond.classLink (am_y mi).cls ix q.1 ∈ am_gt ∧ Cond.instantiable q.1 q.2.2 ∈ am_gt ∧ Cond.initialized q.1 ∈ am_gt) (hkc : 1 ≤ kc) (hks : (am_new a).length ≤ ks) (hlen : h.length + 1 < 100000) (hnr : am_nr h.length ls st h) (hd : decode (am_code mi) pc = .ok (.new ix, 3)) (hk : am_W mi d Q (kc - 1) (ks - (am_new a).length) (pc + 3) ls (.ref h.length :: st) (h ++ [.inr (.inr (a, am_new a))])) : am_W mi d Q kc ks pc ls st h := by
  intro p l e R s m args below meth c D tc ad ad0 h0 A H locs cells slots mc ms lsC hX hE hA hG hag hP hD hS hl
  obtain ⟨⟨C, T, N⟩, hq, hw1, hw2, hw3⟩ := hN
  obtain ⟨hin, hty, hnm, how, hdf, hdl0⟩ := am_cls_ok a _ hq
  have hdl : (am_new a).length = N := hdl0
  have hT := hX.2.2.2.2.2.2.2.1
  obtain ⟨g1, g2, g3, g4, g5, g6⟩ := hG
  refine va_new (Ts := am_gt) (fs := am_new a) hX.1 hX.2.1 (hT.use args) hin (am_fty a) hty hX.2.2.2.2.1 (hT _ hw1 args) (hT _ hw2 args) (hT _ hw3 args) hX.2.2.2.2.2.2.2.2 hP hD hS hA hq hdf (by omega) (by show slots + N ≤ R.slots; omega) hd (fun q H1 hP1 hD1 hS1 => ?_)
  have e1 : am_w (am_ad ad h.length q) tc (h ++ [.inr (.inr (a, am_new a))]) = am_w ad tc h ++ [(q, .inr (a, am_new a))] := by
    rw [am_w_nr hnr.2.2]
    show _ ++ [(q, Sum.inr (a, (am_new a).map (am_v _)))] = _
    rw [am_new_v]
  have e2 : (Value.ref h.length :: st).map (am_v (am_ad ad h.length q)) = .ref q :: st.map (am_v ad) := by
    rw [List.map_cons, List.map_congr_left (fun v hv => am_v_nr (hnr.2.1 v hv))]
    show Value.ref (am_ad ad h.length q h.length) :: _ = _
    rw [am_ad_at]
  rw [← e1] at hP1 hD1
  rw [← e2]
  exact hk p l e R s m args below meth c D tc (am_ad ad h.length q) ad0 h0 A H1 locs (cells + 1) (slots + N) mc ms lsC hX hE hA ⟨g1, g2, by omega, by omega, g5, g6⟩ (am_ag_new hag hlen) hP1 hD1 hS1 (by unfold am_lv; rw [am_al_nr ls 0 hnr.1]; exact hl)
theorem am_arr_eq {s : State} {D : va_G} {cl : List vw_C} {tc : Nat → ClassId} {cA : ClassId} {a : Nat} {ty : FieldType} (hK : va_K D cl (am_tys tc) s) (hK1 : va_K D cl (am_tys tc ++ [(cA, ty)]) s) (ha : (am_tys tc)[a]? = some (tc a, ty)) : cA = tc a := by
  have h1 := (hK1.2 5 (cA, ty) rfl).2
  have h2 := (hK.2 a (tc a, ty) ha).2
  cases ty with
  | object C =>
    obtain ⟨_, _, _, _, _, q1⟩ := h1
    obtain ⟨_, _, _, _, _, q2⟩ := h2
    exact Option.some.inj (q1.symm.trans q2)
  | _ => exact Option.some.inj (h1.symm.trans h2)
theorem am_s_newa {a : Nat} {at' : ArrayType} {n : Int32} (ha : a = 0 ∧ at' = .int ∨ a = 1 ∧ at' = .byte ∨ a = 2 ∧ at' = .boolean) (hkc : 1 ≤ kc) (hks : n.toNatClampNeg ≤ ks) (hn : ¬ n < 0) (hb : n.toNatClampNeg < 100000) (hlen : h.length + 1 < 100000) (hnr : am_nr h.length ls st h) (hd : decode (am_code mi) pc = .ok (.newarray at', 2)) (hk : am_W mi d Q (kc - 1) (ks - n.toNatClampNeg) (pc + 2) ls (.ref h.length :: st) (h ++ [.inl (a, n.toNatClampNeg, fun _ => 0)])) : am_W mi d Q kc ks pc ls (.int n :: st) h := by
  intro p l e R s m args below meth c D tc ad ad0 h0 A H locs cells slots mc ms lsC hX hE hA hG hag hP hD hS hl
  have hT := hX.2.2.2.2.2.2.2.1
  have hK := hX.2.2.2.2.2.2.2.2
  obtain ⟨g1, g2, g3, g4, g5, g6⟩ := hG
  have fin : ∀ (q : Nat) (H1 : Heap), va_P D am_cls (am_w ad tc h ++ [(q, .inl (tc a, n.toNatClampNeg, .inl (fun _ => 0)))]) H1 → va_D A (am_w ad tc h ++ [(q, .inl (tc a, n.toNatClampNeg, .inl (fun _ => 0)))]) → va_S A s.heap H1 locs → W p l e R s m args below meth c H1 locs (cells + 1) (slots + n.toNatClampNeg) (MQ below (am_Q D tc A h0 ad0 Q) args s mc ms A) (F0 m (pc + 2) lsC (.ref q :: st.map (am_v ad))) := by
    intro q H1 hP1 hD1 hS1
    have e1 : am_w (am_ad ad h.length q) tc (h ++ [.inl (a, n.toNatClampNeg, fun _ => 0)]) = am_w ad tc h ++ [(q, .inl (tc a, n.toNatClampNeg, .inl (fun _ => 0)))] := am_w_nr hnr.2.2
    have e2 : (Value.ref h.length :: st).map (am_v (am_ad ad h.length q)) = .ref q :: st.map (am_v ad) := by
      rw [List.map_cons, List.map_congr_left (fun v hv => am_v_nr (hnr.2.1 v hv))]
      show Value.ref (am_ad ad h.length q h.length) :: _ = _
      rw [am_ad_at]
    rw [← e1] at hP1 hD1
    rw [← e2]
    exact hk p l e R s m args below meth c D tc (am_ad ad h.length q) ad0 h0 A H1 locs (cells + 1) (slots + n.toNatClampNeg) mc ms lsC hX hE hA ⟨g1, g2, by omega, by omega, g5, g6⟩ (am_ag_new hag hlen) hP1 hD1 hS1 (by unfold am_lv; rw [am_al_nr ls 0 hnr.1]; exact hl)
  rcases ha with ⟨rfl, rfl⟩ | ⟨rfl, rfl⟩ | ⟨rfl, rfl⟩
  · exact va_newa (atype := .int) (ty := .int) hX.1 hX.2.1 (hT (.arrayClass .int) am_ac_int args) rfl hK hP hD hS hA (a0 := (n.toNatClampNeg, .inl (fun _ => 0))) (fun _ => rfl) hn rfl (show n.toNatClampNeg * 4 ≤ 536870912 by omega) (by omega) (by omega) hd (fun q cA H1 hK1 hP1 hD1 hS1 => by rw [am_arr_eq hK hK1 (a := 0) rfl] at hP1 hD1; exact fin q H1 hP1 hD1 hS1)
  · exact va_newa (atype := .byte) (ty := .byte) hX.1 hX.2.1 (hT (.arrayClass .byte) am_ac_byte args) rfl hK hP hD hS hA (a0 := (n.toNatClampNeg, .inl (fun _ => 0))) (fun _ => rfl) hn rfl (show n.toNatClampNeg * 1 ≤ 536870912 by omega) (by omega) (by omega) hd (fun q cA H1 hK1 hP1 hD1 hS1 => by rw [am_arr_eq hK hK1 (a := 1) rfl] at hP1 hD1; exact fin q H1 hP1 hD1 hS1)
  · exact va_newa (atype := .boolean) (ty := .boolean) hX.1 hX.2.1 (hT (.arrayClass .boolean) am_ac_boolean args) rfl hK hP hD hS hA (a0 := (n.toNatClampNeg, .inl (fun _ => 0))) (fun _ => rfl) hn rfl (show n.toNatClampNeg * 1 ≤ 536870912 by omega) (by omega) (by omega) hd (fun q cA H1 hK1 hP1 hD1 hS1 => by rw [am_arr_eq hK hK1 (a := 2) rfl] at hP1 hD1; exact fin q H1 hP1 hD1 hS1)
theorem am_s_newq {a ix : Nat} {n : Int32} (ha : a = 3 ∧ Cond.classLink (am_y mi).cls ix "DeedProofs$Text" ∈ am_gt ∨ a = 4 ∧ Cond.classLink (am_y mi).cls ix "DeedProofs$Line" ∈ am_gt) (hkc : 1 ≤ kc) (hks : n.toNatClampNeg ≤ ks) (hn : ¬ n < 0) (hb : n.toNatClampNeg < 100000) (hlen : h.length + 1 < 100000) (hnr : am_nr h.length ls st h) (hd : decode (am_code mi) pc = .ok (.anewarray ix, 3)) (hk : am_W mi d Q (kc - 1) (ks - n.toNatClampNeg) (pc + 3) ls (.ref h.length :: st) (h ++ [.inr (.inl (a, n.toNatClampNeg, fun _ => none))])) : am_W mi d Q kc ks pc ls (.int n :: st) h := by
  intro p l e R s m args below meth c D tc ad ad0 h0 A H locs cells slots mc ms lsC hX hE hA hG hag hP hD hS hl
  have hT := hX.2.2.2.2.2.2.2.1
  have hK := hX.2.2.2.2.2.2.2.2
  obtain ⟨g1, g2, g3, g4, g5, g6⟩ := hG
  have fin : ∀ (q : Nat) (H1 : Heap), va_P D am_cls (am_w ad tc h ++ [(q, .inl (tc a, n.toNatClampNeg, .inr (.inr (.inr (.inr (fun _ => none))))))]) H1 → va_D A (am_w ad tc h ++ [(q, .inl (tc a, n.toNatClampNeg, .inr (.inr (.inr (.inr (fun _ => none))))))]) → va_S A s.heap H1 locs → W p l e R s m args below meth c H1 locs (cells + 1) (slots + n.toNatClampNeg) (MQ below (am_Q D tc A h0 ad0 Q) args s mc ms A) (F0 m (pc + 3) lsC (.ref q :: st.map (am_v ad))) := by
    intro q H1 hP1 hD1 hS1
    have e1 : am_w (am_ad ad h.length q) tc (h ++ [.inr (.inl (a, n.toNatClampNeg, fun _ => none))]) = am_w ad tc h ++ [(q, .inl (tc a, n.toNatClampNeg, .inr (.inr (.inr (.inr (fun _ => none))))))] := am_w_nr hnr.2.2
    have e2 : (Value.ref h.length :: st).map (am_v (am_ad ad h.length q)) = .ref q :: st.map (am_v ad) := by
      rw [List.map_cons, List.map_congr_left (fun v hv => am_v_nr (hnr.2.1 v hv))]
      show Value.ref (am_ad ad h.length q h.length) :: _ = _
      rw [am_ad_at]
    rw [← e1] at hP1 hD1
    rw [← e2]
    exact hk p l e R s m args below meth c D tc (am_ad ad h.length q) ad0 h0 A H1 locs (cells + 1) (slots + n.toNatClampNeg) mc ms lsC hX hE hA ⟨g1, g2, by omega, by omega, g5, g6⟩ (am_ag_new hag hlen) hP1 hD1 hS1 (by unfold am_lv; rw [am_al_nr ls 0 hnr.1]; exact hl)
  rcases ha with ⟨rfl, hw⟩ | ⟨rfl, hw⟩
  · exact va_newq hX.1 hX.2.1 hX.2.2.2.2.1 (hT _ hw args) hE.1.1 hK hP hD hS hA hn rfl (by omega) (by omega) (by omega) hd (fun q cA H1 hK1 hP1 hD1 hS1 => by rw [am_arr_eq hK hK1 (a := 3) rfl] at hP1 hD1; exact fin q H1 hP1 hD1 hS1)
  · exact va_newq hX.1 hX.2.1 hX.2.2.2.2.1 (hT _ hw args) hE.1.2 hK hP hD hS hA hn rfl (by omega) (by omega) (by omega) hd (fun q cA H1 hK1 hP1 hD1 hS1 => by rw [am_arr_eq hK hK1 (a := 4) rfl] at hP1 hD1; exact fin q H1 hP1 hD1 hS1)
theorem am_s_iret {v : Int32} {ty : FieldType} (hr : am_ret mi = some ty) (hn : narrow ty (.int v) = .int v) (hd : decode (am_code mi) pc = .ok (.ireturn, 1)) (hQ : Q (some (.int v)) h) : am_W mi d Q kc ks pc ls [.int v] h := by
  intro p l e R s m args below meth c D tc ad ad0 h0 A H locs cells slots mc ms lsC hX hE hA hG hag hP hD hS hl
  obtain ⟨g1, g2, g3, g4, g5, g6⟩ := hG
  have hlocks : meth.locks = false := hX.2.2.2.2.2.1
  refine W.widen (k := mc) (n := ms) (by omega) (by omega) ?_
  exact W.zret hX.1 hX.2.1 (hX.2.2.1.trans hr) hn (fun t ht hW => ⟨⟨some (.int v), h, ad, rfl, hQ, hag, by rw [ht]; exact hP, va_K.moved hW.alike hX.2.2.2.2.2.2.2.2, hD⟩, hS.F ht⟩) hS.2.2 hd
theorem am_s_aret {o : Nat} {rt : FieldType} (hr : am_ret mi = some rt) (hrt : (∃ n, rt = .object n) ∨ ∃ t, rt = .array t) (hd : decode (am_code mi) pc = .ok (.areturn, 1)) (hQ : Q (some (.ref o)) h) : am_W mi d Q kc ks pc ls [.ref o] h := by
  intro p l e R s m args below meth c D tc ad ad0 h0 A H locs cells slots mc ms lsC hX hE hA hG hag hP hD hS hl
  obtain ⟨g1, g2, g3, g4, g5, g6⟩ := hG
  have hlocks : meth.locks = false := hX.2.2.2.2.2.1
  refine W.widen (k := mc) (n := ms) (by omega) (by omega) ?_
  exact W.aret hX.1 hX.2.1 (hX.2.2.1.trans hr) hrt (Or.inr ⟨_, rfl⟩) (fun t ht hW => ⟨⟨some (.ref o), h, ad, rfl, hQ, hag, by rw [ht]; exact hP, va_K.moved hW.alike hX.2.2.2.2.2.2.2.2, hD⟩, hS.F ht⟩) hS.2.2 hd
theorem am_s_vret (hr : am_ret mi = none) (hd : decode (am_code mi) pc = .ok (.return_, 1)) (hQ : Q none h) : am_W mi d Q kc ks pc ls [] h := by
  intro p l e R s m args below meth c D tc ad ad0 h0 A H locs cells slots mc ms lsC hX hE hA hG hag hP hD hS hl
  obtain ⟨g1, g2, g3, g4, g5, g6⟩ := hG
  have hlocks : meth.locks = false := hX.2.2.2.2.2.1
  refine W.widen (k := mc) (n := ms) (by omega) (by omega) ?_
  exact W.vret hX.1 hX.2.1 (hX.2.2.1.trans hr) (fun t ht hW => ⟨⟨none, h, ad, rfl, hQ, hag, by rw [ht]; exact hP, va_K.moved hW.alike hX.2.2.2.2.2.2.2.2, hD⟩, hS.F ht⟩) hS.2.2 hd
end AMM
theorem am_al_nones {ad : Nat → Nat} : ∀ (k i : Nat), am_al ad i (am_nones k) = []
  | 0, _ => rfl
  | k + 1, i => am_al_nones k (i + 1)
theorem am_al_in {ad : Nat → Nat} (k : Nat) : ∀ (args : List Value) (i : Nat), am_al ad i (am_in args ++ am_nones k) = lv_args i (args.map (am_v ad))
  | [], i => am_al_nones k i
  | v :: l, i => by
    cases v <;> simp [am_in, am_al, lv_args, am_v, Value.category, am_al_in k l]
theorem am_in_len {ad : Nat → Nat} : ∀ (args : List Value), (lg_sl (args.map (am_v ad))).length = (am_in args).length
  | [] => rfl
  | v :: l => by
    have h := am_in_len (ad := ad) l
    have e : ∀ (w : Value) (ws : List Value), lg_sl (w :: ws) = (if w.category = 2 then [.val w, .second] else [.val w]) ++ lg_sl ws := fun w ws => by simp [lg_sl]
    rw [List.map_cons, e, List.length_append, h]
    cases v <;> simp [am_in, am_v, Value.category] <;> omega
/-- a method's beginning -/
theorem am_Met.of {mi : am_MI} {d kc ks : Nat} {args : List Value} {h : am_H} {Q : Option Value → am_H → Prop} (hy : plainName (am_y mi).cls = true) (hl : (am_in args).length ≤ am_mL mi) (hw : am_W mi d Q kc ks 0 (am_ent (am_mL mi) args) [] h) : am_Met mi d kc ks args h Q := by
  intro l D tc ad sz
  refine Met.ofW (cc := am_code mi) (maxL := am_mL mi) (ret := am_ret mi) hy rfl ?_
  intro p e s m args' below meth c s₁ B hml hv
  obtain ⟨rfl, hsz, hT, hE, hP, hK, hD0, hlen⟩ := hv
  subst hsz
  have hlv := lv_entry (args.map (am_v ad)) (n := am_mL mi) (by rw [am_in_len]; exact hl)
  rw [lg_entry_eq]
  refine hw p l e _ s m _ below meth c D tc ad ad h (va_A (am_w ad tc h) s.heap.size) s.heap [] 0 0 kc ks _ ⟨B.exec, B.bytes, B.returns, hml, findClass_of_methodNamed B.named, B.notSynchronized, (name_of_methodNamed B.named B.method).1, hT, hK⟩ hE (fun q hq => Or.inr hq) ⟨Nat.le_refl _, Nat.le_refl _, by omega, by omega, Nat.le_refl _, Nat.le_refl _⟩ ⟨Nat.le_refl _, hlen, fun _ _ => rfl⟩ hP hD0.self va_S.rf ?_
  unfold am_lv am_ent
  rw [am_al_in]
  exact hlv
end
section
/-! CALLS: any of them runs by the callee's contract; the whole world goes along -/
theorem am_blind {D : va_G} {tc ad : Nat → Nat} {h : am_H} {sz : Nat} {av : List Value} : FrameBlind (va_Pc av (am_Pre D tc ad h sz)) := by
  intro a U g mk q
  obtain ⟨q0, q1, q2, q3, q4, q5, q6, q7⟩ := q
  exact ⟨q0, q1, am_T.warm (U := U.calling g mk a) (State.WarmedH.refl U) q2, am_Ev.warm (U := U.calling g mk a) (State.WarmedH.refl U) q3, q4, va_K.moved (u := U) (U := U.calling g mk a) (Vm.Alike.refl U.vm) q5, q6, q7⟩
theorem am_wA {D : va_G} {tc ad : Nat → Nat} {h : am_H} {A : Nat → Prop} {s : State} {H : Heap} {locs : List Loc} (hA : ∀ q, s.heap.size ≤ q → A q) (hD : va_D A (am_w ad tc h)) (hS : va_S A s.heap H locs) : ∀ q, va_A (am_w ad tc h) H.size q → A q := by
  rintro q (⟨k, e, hk⟩ | hq)
  · exact hD.2 k _ hk
  · exact hA q (Nat.le_trans hS.1 hq)
theorem am_pre_ok {D : va_G} {tc ad ad0 : Nat → Nat} {h h0 : am_H} {A : Nat → Prop} {s U : State} {H : Heap} {locs : List Loc} (hT : am_T s) (hK : va_K D am_cls (am_tys tc) s) (hE : am_Ev ad0 A s s.heap) (hA : ∀ q, s.heap.size ≤ q → A q) (hag : am_ag h0 ad0 ad h) (hP : va_P D am_cls (am_w ad tc h) H) (hD : va_D A (am_w ad tc h)) (hS : va_S A s.heap H locs) (hU : U.heap = H) (hW : s.WarmedH U.vm) : am_Pre D tc ad h H.size U := by
  have hF := am_wA (D := D) hA hD hS
  refine ⟨by rw [hU], hT.warm hW, ?_, by rw [hU]; exact hP, va_K.moved hW.alike hK, hD.weaken (fun _ _ _ _ => trivial), hag.2.1⟩
  rw [hU]
  exact ((hE.kept hS.2.1).narrow hF).warm hW |>.ads (fun i hi => hag.2.2 i (Or.inr (by have := hag.2.1; omega)))
theorem am_al_ns {ad ad' : Nat → Nat} {lo hi : Nat} (e : ∀ i, (i < lo ∨ hi ≤ i) → ad' i = ad i) : ∀ (ls : am_L) (i : Nat), (∀ v, some v ∈ ls → am_nsV lo hi v) → am_al ad' i ls = am_al ad i ls
  | [], _, _ => rfl
  | none :: l, i, h => am_al_ns e l (i + 1) (fun v hv => h v (List.mem_cons_of_mem _ hv))
  | some v :: l, i, h => by
    have hv := h v List.mem_cons_self
    have e1 : am_v ad' v = am_v ad v := by
      cases v <;> first | rfl | exact congrArg Value.ref (e _ hv)
    rw [am_al, am_al, e1, am_al_ns e l (i + 1) (fun v hv => h v (List.mem_cons_of_mem _ hv))]
theorem am_run_go {mi : am_MI} {d : Nat} {Q P : Option Value → am_H → Prop} {kc ks kc' ks' pc : Nat} {ls : am_L} {rest : List Value} {h h0 : am_H} {p : Program} {l : Launch} {e : Env} {R : Room} {s : State} {m : MethodId} {args : Array Value} {below : List Frame} {meth : Method} {c : Code} {D : va_G} {tc : Nat → ClassId} {ad ad0 : Nat → Nat} {A : Nat → Prop} {H : Heap} {locs : List Loc} {cells slots mc ms : Nat} {lsC : Array Slot} {st0 : List Value} {av : Array Value}
    (hX : am_X p s m meth c mi D tc) (hE : am_Ev ad0 A s s.heap) (hA : ∀ q, s.heap.size ≤ q → A q) (hG : am_G d kc ks cells slots mc ms R) (hag : am_ag h0 ad0 ad h) (hD : va_D A (am_w ad tc h)) (hS : va_S A s.heap H locs) (hl : am_lv ad ls (am_mL mi) lsC) (hkc : kc' ≤ kc) (hks : ks' ≤ ks)
    (hr : va_Run p l e R s m args below meth c H locs cells slots kc' ks' (F0 m pc lsC st0) (rest.map (am_v ad)) (am_Q D tc (va_A (am_w ad tc h) H.size) h ad P av) (va_A (am_w ad tc h) H.size))
    (hgo : ∀ (r : Option Value) (h' : am_H), P r h' → (h'.length = h.length ∨ am_ns h.length h'.length ls rest) ∧ am_W mi d Q (kc - kc') (ks - ks') (pc + 3) ls (r.toList ++ rest) h') :
    W p l e R s m args below meth c H locs cells slots (MQ below (am_Q D tc A h0 ad0 Q) args s mc ms A) (F0 m pc lsC st0) := by
  intro T hT X
  obtain ⟨v, st₀, t, T', L, h0', X', hL, e1, e2, ⟨⟨r, h', ad', hv, hp, hag', hP', hK', hD'⟩, hz, hk⟩, stp⟩ := hr T hT X
  cases hv
  rw [h0'] at hz hk
  have hF := am_wA (D := D) hA hD hS
  have hS' : va_S A s.heap T'.heap (locs ++ L) := ⟨Nat.le_trans hS.1 (by rw [e1]; exact hz), fun q h1 h2 => by rw [e1, hk q (Nat.lt_of_lt_of_le h1 hS.1) (fun z => h2 (hF q z))]; exact hS.2.1 q h1 h2, fun q hq => by
      rcases List.mem_append.mp hq with h | h
      · exact hS.2.2 q h
      · exact hF _ (hL q h)⟩
  obtain ⟨hns, hw⟩ := hgo r h' hp
  have hsame : am_al ad' 0 ls = am_al ad 0 ls ∧ rest.map (am_v ad') = rest.map (am_v ad) := by
    rcases hns with hns | hns
    · have e3 : ad' = ad := funext fun i => hag'.2.2 i (by omega)
      rw [e3]; exact ⟨rfl, rfl⟩
    · refine ⟨am_al_ns hag'.2.2 ls 0 hns.1, List.map_congr_left fun v hv => ?_⟩
      have h1 := hns.2 v hv
      cases v <;> first | rfl | exact congrArg Value.ref (hag'.2.2 _ h1)
  have hlv' : am_lv ad' ls (am_mL mi) lsC := by unfold am_lv; rw [hsame.1]; exact hl
  have hst : (r.toList ++ rest).map (am_v ad') = (r.map (am_v ad')).toList ++ rest.map (am_v ad) := by
    rw [List.map_append, hsame.2]; cases r <;> rfl
  obtain ⟨g1, g2, g3, g4, g5, g6⟩ := hG
  have hag2 : am_ag h0 ad0 ad' h' := ⟨Nat.le_trans hag.1 hag'.1, hag'.2.1, fun i hi => by
    have a1 := hag.1
    have a2 := hag'.1
    rw [hag'.2.2 i (by omega), hag.2.2 i (by omega)]⟩
  obtain ⟨t2, a1, b1⟩ := hw p l e R s m args below meth c D tc ad' ad0 h0 A T'.heap (locs ++ L) (cells + kc') (slots + ks') mc ms lsC hX hE hA ⟨g1, g2, by omega, by omega, g5, g6⟩ hag2 (by rw [e1]; exact hP') (hD'.weaken (fun _ _ _ z => hF _ z)) hS' hlv' T' rfl X'
  rw [hst] at a1
  exact ⟨t2, stp t2 a1, b1⟩
/-- what the tables say of a callee -/
def am_ML (mi : am_MI) (b : Nat) : Prop := Cond.code (am_y mi) (am_code mi) (am_mL mi) (am_ret mi) ∈ am_gt ∧ Cond.initialized (am_y mi).cls ∈ am_gt ∧ ((am_y mi).cls ≠ "java/lang/invoke/MethodHandle" ∧ (am_y mi).cls ≠ "java/lang/invoke/VarHandle") ∧ (parseMethodDescriptor (am_y mi).desc).map (fun d => d.parameters.length) = some b ∧ am_mL mi ≤ 45
theorem am_pars {desc : String} {b : Nat} (h : (parseMethodDescriptor desc).map (fun d => d.parameters.length) = some b) : ∀ sig, parseMethodDescriptor desc = some sig → b = sig.parameters.length := by
  intro sig hs
  rw [hs] at h
  exact (Option.some.inj h).symm
theorem am_cb {mi : am_MI} {b d d' kc' ks' : Nat} {R : Room} {s : State} {args : Array Value} {own : String} {ix : Nat} (hM : am_ML mi b) (hT : am_T s) (hd : d' + 1 ≤ d) (h1 : d ≤ R.frames) (h2 : 64 * d ≤ R.locals) (hlk : (Cond.methodLink own ix (am_y mi)).before args s = true) :
    CallB R s args own ix (am_y mi) (am_code mi) (am_mL mi) (am_ret mi) (am_ws mi) (am_R d' kc' ks') kc' ks' b := by
  obtain ⟨m1, m2, m3, m4, m5⟩ := hM
  refine ⟨rfl, rfl, ?_, ?_, ?_, List.mem_cons_self, hT _ m1 args, hT _ m2 args, m3, am_pars m4, hlk⟩
  · show d' + 1 ≤ R.frames; omega
  · show 8 + (am_mL mi + 11) + 64 * d' ≤ R.locals; omega
  · intro w hw a' U hW
    cases List.mem_singleton.mp hw
    exact hT.warm hW _ m1 a'
theorem am_cn {mi : am_MI} {b d d' kc' ks' : Nat} {R : Room} {s : State} {args : Array Value} {own host : String} {ix : Nat} (hM : am_ML mi b) (hT : am_T s) (hd : d' + 1 ≤ d) (h1 : d ≤ R.frames) (h2 : 64 * d ≤ R.locals) (hlk : (Cond.methodLinkNest own ix (am_y mi) host).before args s = true) :
    va_CN R s args own ix (am_y mi) host (am_code mi) (am_mL mi) (am_ret mi) (am_ws mi) (am_R d' kc' ks') kc' ks' b := by
  obtain ⟨m1, m2, m3, m4, m5⟩ := hM
  refine ⟨⟨rfl, rfl, ?_, ?_, ?_, List.mem_cons_self⟩, hT _ m1 args, hT _ m2 args, m3, am_pars m4, hlk⟩
  · show d' + 1 ≤ R.frames; omega
  · show 8 + (am_mL mi + 11) + 64 * d' ≤ R.locals; omega
  · intro w hw a' U hW
    cases List.mem_singleton.mp hw
    exact hT.warm hW _ m1 a'
theorem am_bk {mi : am_MI} {b d d' kc' ks' : Nat} {R : Room} {s : State} (hM : am_ML mi b) (hT : am_T s) (hd : d' + 1 ≤ d) (h1 : d ≤ R.frames) (h2 : 64 * d ≤ R.locals) :
    (am_R d' kc' ks').cells = kc' ∧ (am_R d' kc' ks').slots = ks' ∧ (am_R d' kc' ks').frames + 1 ≤ R.frames ∧ 8 + (am_mL mi + 11) + (am_R d' kc' ks').locals ≤ R.locals ∧ (∀ w ∈ am_ws mi, ∀ (a' : Array Value) (U : State), s.WarmedH U.vm → w.before a' U = true) ∧ Cond.code (am_y mi) (am_code mi) (am_mL mi) (am_ret mi) ∈ am_ws mi := by
  obtain ⟨m1, m2, m3, m4, m5⟩ := hM
  refine ⟨rfl, rfl, ?_, ?_, ?_, List.mem_cons_self⟩
  · show d' + 1 ≤ R.frames; omega
  · show 8 + (am_mL mi + 11) + 64 * d' ≤ R.locals; omega
  · intro w hw a' U hW
    cases List.mem_singleton.mp hw
    exact hT.warm hW _ m1 a'
theorem am_stk {ad : Nat → Nat} {b o : Nat} {st As rest : List Value} (h : am_pop b st [] = some (As, .ref o :: rest)) : st.map (am_v ad) = (As.map (am_v ad)).reverse ++ .ref (ad o) :: rest.map (am_v ad) := by
  obtain ⟨h1, -⟩ := am_pop_eq b st [] As _ h
  rw [List.reverse_nil, List.nil_append] at h1
  rw [h1, List.map_append, List.map_reverse]
  rfl
theorem am_stk0 {ad : Nat → Nat} {b : Nat} {st As rest : List Value} (h : am_pop b st [] = some (As, rest)) : st.map (am_v ad) = (As.map (am_v ad)).reverse ++ rest.map (am_v ad) := by
  obtain ⟨h1, -⟩ := am_pop_eq b st [] As _ h
  rw [List.reverse_nil, List.nil_append] at h1
  rw [h1, List.map_append, List.map_reverse]
theorem am_popl {ad : Nat → Nat} {b : Nat} {st As rest : List Value} (h : am_pop b st [] = some (As, rest)) : (As.map (am_v ad)).length = b := by
  rw [List.length_map, (am_pop_eq b st [] As _ h).2]; simp
theorem am_cat_v {ad : Nat → Nat} {rest : List Value} : ((rest.map (am_v ad)).map fun v => v.category).sum = am_cat rest := by
  unfold am_cat
  rw [List.map_map]
  congr 1
  refine List.map_congr_left fun v _ => ?_
  cases v <;> rfl
section AMC
variable {mi mi' : am_MI} {d : Nat} {Q : Option Value → am_H → Prop} {kc ks pc : Nat} {ls : am_L} {st As rest : List Value} {h : am_H}
/-- invokevirtual of a method that the receiver's class has of its own -/
theorem am_s_callV {ix b o ci : Nat} {fs : List Value} {q : vw_C} (hq : am_cls[ci]? = some q) (hM : am_ML mi' b) (hlk : Cond.methodLink (am_y mi).cls ix (am_y mi') ∈ am_gt) (hin : Cond.instanceMethod (am_y mi') ∈ am_gt) (hse : Cond.selects q.1 (am_y mi') (am_y mi') ∈ am_gt) (hpop : am_pop b st [] = some (As, .ref o :: rest)) (hc : am_nth h o = some (.inr (.inr (ci, fs)))) (hd : decode (am_code mi) pc = .ok (.invokevirtual ix, 3))
    (hk : am_call mi' d kc ks (.ref o :: As) rest ls h (fun kc ks r h => am_W mi d Q kc ks (pc + 3) ls (r.toList ++ rest) h)) : am_W mi d Q kc ks pc ls st h := by
  intro p l e R s m args below meth c D tc ad ad0 h0 A H locs cells slots mc ms lsC hX hE hA hG hag hP hD hS hl
  obtain ⟨d', kc', ks', P, k1, k2, k3, k4, k5, k6⟩ := hk
  have hT := hX.2.2.2.2.2.2.2.1
  have hK := hX.2.2.2.2.2.2.2.2
  obtain ⟨g1, g2, g3, g4, g5, g6⟩ := id hG
  rw [am_stk hpop]
  refine am_run_go (P := P) (av := (Value.ref (ad o) :: As.map (am_v ad)).toArray) hX hE hA hG hag hD hS hl k2 k3 ?_ k6
  exact va_runV (C := q.1) (Ts := am_gt) ⟨hX.1, hX.2.1, hX.2.2.2.1, hX.2.2.2.2.1, hT.use args⟩ (k5 l D tc ad H.size) ⟨am_cb hM hT k1 g1 g2 (hT _ hlk args), hT _ hin args, hT _ hse args⟩ ⟨am_blind, va_recv hK hP hq (am_w_at hc), fun U hU hW => ⟨rfl, am_pre_ok hT hK hE hA hag hP hD hS hU hW⟩⟩ rfl (am_popl hpop) hl.1 rfl (lv_room (by rw [am_cat_v]; exact k4)) hd ⟨by omega, by omega⟩
/-- the same, by a nest mate -/
theorem am_s_callVN {ix b o ci : Nat} {host : String} {fs : List Value} {q : vw_C} (hq : am_cls[ci]? = some q) (hM : am_ML mi' b) (hlk : Cond.methodLinkNest (am_y mi).cls ix (am_y mi') host ∈ am_gt) (hin : Cond.instanceMethod (am_y mi') ∈ am_gt) (hse : Cond.selects q.1 (am_y mi') (am_y mi') ∈ am_gt) (hpop : am_pop b st [] = some (As, .ref o :: rest)) (hc : am_nth h o = some (.inr (.inr (ci, fs)))) (hd : decode (am_code mi) pc = .ok (.invokevirtual ix, 3))
    (hk : am_call mi' d kc ks (.ref o :: As) rest ls h (fun kc ks r h => am_W mi d Q kc ks (pc + 3) ls (r.toList ++ rest) h)) : am_W mi d Q kc ks pc ls st h := by
  intro p l e R s m args below meth c D tc ad ad0 h0 A H locs cells slots mc ms lsC hX hE hA hG hag hP hD hS hl
  obtain ⟨d', kc', ks', P, k1, k2, k3, k4, k5, k6⟩ := hk
  have hT := hX.2.2.2.2.2.2.2.1
  have hK := hX.2.2.2.2.2.2.2.2
  obtain ⟨g1, g2, g3, g4, g5, g6⟩ := id hG
  rw [am_stk hpop]
  refine am_run_go (P := P) (av := (Value.ref (ad o) :: As.map (am_v ad)).toArray) hX hE hA hG hag hD hS hl k2 k3 ?_ k6
  exact va_runVN (C := q.1) (Ts := am_gt) ⟨hX.1, hX.2.1, hX.2.2.2.1, hX.2.2.2.2.1, hT.use args⟩ (k5 l D tc ad H.size) ⟨am_cn hM hT k1 g1 g2 (hT _ hlk args), hT _ hin args, hT _ hse args⟩ ⟨am_blind, va_recv hK hP hq (am_w_at hc), fun U hU hW => ⟨rfl, am_pre_ok hT hK hE hA hag hP hD hS hU hW⟩⟩ rfl (am_popl hpop) hl.1 rfl (lv_room (by rw [am_cat_v]; exact k4)) hd ⟨by omega, by omega⟩
/-- of a text -/
theorem am_s_callT {ix b o : Nat} (hM : am_ML mi' b) (hlk : Cond.methodLink (am_y mi).cls ix (am_y mi') ∈ am_gt) (hin : Cond.instanceMethod (am_y mi') ∈ am_gt) (hse : Cond.selects "java/lang/String" (am_y mi') (am_y mi') ∈ am_gt) (hpop : am_pop b st [] = some (As, .ref o :: rest)) (ho1 : o < 100003) (ho2 : 100000 ≤ o) (hd : decode (am_code mi) pc = .ok (.invokevirtual ix, 3))
    (hk : am_call mi' d kc ks (.ref o :: As) rest ls h (fun kc ks r h => am_W mi d Q kc ks (pc + 3) ls (r.toList ++ rest) h)) : am_W mi d Q kc ks pc ls st h := by
  intro p l e R s m args below meth c D tc ad ad0 h0 A H locs cells slots mc ms lsC hX hE hA hG hag hP hD hS hl
  obtain ⟨d', kc', ks', P, k1, k2, k3, k4, k5, k6⟩ := hk
  have hT := hX.2.2.2.2.2.2.2.1
  have hK := hX.2.2.2.2.2.2.2.2
  obtain ⟨g1, g2, g3, g4, g5, g6⟩ := id hG
  rw [am_stk hpop]
  obtain ⟨adV, hV⟩ := (hE.ads (fun i hi => hag.2.2 i (Or.inr (by have := hag.2.1; omega)))).2.2.1
  have hrec := vk_recv hV (i := o - 100000) (by omega) hS
  rw [show 100000 + (o - 100000) = o by omega] at hrec
  refine am_run_go (P := P) (av := (Value.ref (ad o) :: As.map (am_v ad)).toArray) hX hE hA hG hag hD hS hl k2 k3 ?_ k6
  exact va_runV (C := "java/lang/String") (Ts := am_gt) ⟨hX.1, hX.2.1, hX.2.2.2.1, hX.2.2.2.2.1, hT.use args⟩ (k5 l D tc ad H.size) ⟨am_cb hM hT k1 g1 g2 (hT _ hlk args), hT _ hin args, hT _ hse args⟩ ⟨am_blind, hrec, fun U hU hW => ⟨rfl, am_pre_ok hT hK hE hA hag hP hD hS hU hW⟩⟩ rfl (am_popl hpop) hl.1 rfl (lv_room (by rw [am_cat_v]; exact k4)) hd ⟨by omega, by omega⟩
/-- of a method that a class above names -/
theorem am_s_callU {ix b o ci : Nat} {owner : String} {xn : MethodName} {fs : List Value} {q : vw_C} (hq : am_cls[ci]? = some q) (hM : am_ML mi' b) (hpx : (parseMethodDescriptor xn.desc).map (fun d => d.parameters.length) = some b) (how : owner ≠ "java/lang/invoke/MethodHandle" ∧ owner ≠ "java/lang/invoke/VarHandle") (hlk : Cond.methodLink (am_y mi).cls ix xn ∈ am_gt) (hsm : Cond.sameMethod xn.cls owner xn.name xn.desc ∈ am_gt) (hdc : Cond.declares ⟨owner, xn.name, xn.desc⟩ ∈ am_gt ∨ ∃ (bs : ByteArray) (n : Nat) (rt : Option FieldType), Cond.instanceMethod ⟨owner, xn.name, xn.desc⟩ ∈ am_gt ∧ Cond.code ⟨owner, xn.name, xn.desc⟩ bs n rt ∈ am_gt) (hin : Cond.instanceMethod (am_y mi') ∈ am_gt) (hse : Cond.selects q.1 xn (am_y mi') ∈ am_gt) (hpop : am_pop b st [] = some (As, .ref o :: rest)) (hc : am_nth h o = some (.inr (.inr (ci, fs)))) (hd : decode (am_code mi) pc = .ok (.invokevirtual ix, 3))
    (hk : am_call mi' d kc ks (.ref o :: As) rest ls h (fun kc ks r h => am_W mi d Q kc ks (pc + 3) ls (r.toList ++ rest) h)) : am_W mi d Q kc ks pc ls st h := by
  intro p l e R s m args below meth c D tc ad ad0 h0 A H locs cells slots mc ms lsC hX hE hA hG hag hP hD hS hl
  obtain ⟨d', kc', ks', P, k1, k2, k3, k4, k5, k6⟩ := hk
  have hT := hX.2.2.2.2.2.2.2.1
  have hK := hX.2.2.2.2.2.2.2.2
  obtain ⟨g1, g2, g3, g4, g5, g6⟩ := id hG
  rw [am_stk hpop]
  have hdec : va_Decl s ⟨owner, xn.name, xn.desc⟩ := by
    rcases hdc with z | ⟨bs, n, rt, z1, z2⟩
    · exact va_Decl.abs (hT _ z #[])
    · exact va_Decl.of (hT _ z1 #[]) (hT _ z2 #[])
  have bk := am_bk (kc' := kc') (ks' := ks') hM hT k1 g1 g2
  refine am_run_go (P := P) (av := (Value.ref (ad o) :: As.map (am_v ad)).toArray) hX hE hA hG hag hD hS hl k2 k3 ?_ k6
  exact va_runU (C := q.1) (Ts := am_gt) (owner := owner) (x := xn) ⟨hX.1, hX.2.1, hX.2.2.2.1, hX.2.2.2.2.1, hT.use args⟩ (k5 l D tc ad H.size) ⟨bk, hT _ hM.1 args, hT _ hM.2.1 args, how, am_pars hpx, hT _ hlk args, hT _ hsm args, hdec, hT _ hse args, hT _ hin args⟩ ⟨am_blind, va_recv hK hP hq (am_w_at hc), fun U hU hW => ⟨rfl, am_pre_ok hT hK hE hA hag hP hD hS hU hW⟩⟩ rfl (am_popl hpop) hl.1 rfl (lv_room (by rw [am_cat_v]; exact k4)) hd ⟨by omega, by omega⟩
/-- invokestatic -/
theorem am_s_callS {ix b : Nat} (hM : am_ML mi' b) (hlk : Cond.methodLink (am_y mi).cls ix (am_y mi') ∈ am_gt) (hst : Cond.static (am_y mi') ∈ am_gt) (hpop : am_pop b st [] = some (As, rest)) (hd : decode (am_code mi) pc = .ok (.invokestatic ix, 3))
    (hk : am_call mi' d kc ks As rest ls h (fun kc ks r h => am_W mi d Q kc ks (pc + 3) ls (r.toList ++ rest) h)) : am_W mi d Q kc ks pc ls st h := by
  intro p l e R s m args below meth c D tc ad ad0 h0 A H locs cells slots mc ms lsC hX hE hA hG hag hP hD hS hl
  obtain ⟨d', kc', ks', P, k1, k2, k3, k4, k5, k6⟩ := hk
  have hT := hX.2.2.2.2.2.2.2.1
  have hK := hX.2.2.2.2.2.2.2.2
  obtain ⟨g1, g2, g3, g4, g5, g6⟩ := id hG
  rw [am_stk0 hpop]
  refine am_run_go (P := P) (av := (As.map (am_v ad)).toArray) hX hE hA hG hag hD hS hl k2 k3 ?_ k6
  exact va_runS (Ts := am_gt) ⟨hX.1, hX.2.1, hX.2.2.2.1, hX.2.2.2.2.1, hT.use args⟩ (k5 l D tc ad H.size) ⟨am_cb hM hT k1 g1 g2 (hT _ hlk args), hT _ hst args⟩ ⟨am_blind, fun U hU hW => ⟨rfl, am_pre_ok hT hK hE hA hag hP hD hS hU hW⟩⟩ rfl (am_popl hpop) hl.1 rfl (lv_room (by rw [am_cat_v]; exact k4)) hd ⟨by omega, by omega⟩
theorem am_s_callSN {ix b : Nat} {host : String} (hM : am_ML mi' b) (hlk : Cond.methodLinkNest (am_y mi).cls ix (am_y mi') host ∈ am_gt) (hst : Cond.static (am_y mi') ∈ am_gt) (hpop : am_pop b st [] = some (As, rest)) (hd : decode (am_code mi) pc = .ok (.invokestatic ix, 3))
    (hk : am_call mi' d kc ks As rest ls h (fun kc ks r h => am_W mi d Q kc ks (pc + 3) ls (r.toList ++ rest) h)) : am_W mi d Q kc ks pc ls st h := by
  intro p l e R s m args below meth c D tc ad ad0 h0 A H locs cells slots mc ms lsC hX hE hA hG hag hP hD hS hl
  obtain ⟨d', kc', ks', P, k1, k2, k3, k4, k5, k6⟩ := hk
  have hT := hX.2.2.2.2.2.2.2.1
  have hK := hX.2.2.2.2.2.2.2.2
  obtain ⟨g1, g2, g3, g4, g5, g6⟩ := id hG
  rw [am_stk0 hpop]
  refine am_run_go (P := P) (av := (As.map (am_v ad)).toArray) hX hE hA hG hag hD hS hl k2 k3 ?_ k6
  exact va_runSN (Ts := am_gt) ⟨hX.1, hX.2.1, hX.2.2.2.1, hX.2.2.2.2.1, hT.use args⟩ (k5 l D tc ad H.size) ⟨am_cn hM hT k1 g1 g2 (hT _ hlk args), hT _ hst args, trivial⟩ ⟨am_blind, fun U hU hW => ⟨rfl, am_pre_ok hT hK hE hA hag hP hD hS hU hW⟩⟩ rfl (am_popl hpop) hl.1 rfl (lv_room (by rw [am_cat_v]; exact k4)) hd ⟨by omega, by omega⟩
/-- constructors -/
theorem am_s_callI {ix b o : Nat} (hM : am_ML mi' b) (hr0 : am_ret mi' = none) (hnm : (am_y mi').name = "<init>") (hlk : Cond.methodLink (am_y mi).cls ix (am_y mi') ∈ am_gt) (hin : Cond.instanceMethod (am_y mi') ∈ am_gt) (hpop : am_pop b st [] = some (As, .ref o :: rest)) (hd : decode (am_code mi) pc = .ok (.invokespecial ix, 3))
    (hk : am_call mi' d kc ks (.ref o :: As) rest ls h (fun kc ks r h => am_W mi d Q kc ks (pc + 3) ls (r.toList ++ rest) h)) : am_W mi d Q kc ks pc ls st h := by
  intro p l e R s m args below meth c D tc ad ad0 h0 A H locs cells slots mc ms lsC hX hE hA hG hag hP hD hS hl
  obtain ⟨d', kc', ks', P, k1, k2, k3, k4, k5, k6⟩ := hk
  have hT := hX.2.2.2.2.2.2.2.1
  have hK := hX.2.2.2.2.2.2.2.2
  obtain ⟨g1, g2, g3, g4, g5, g6⟩ := id hG
  rw [am_stk hpop]
  refine am_run_go (P := P) (av := (Value.ref (ad o) :: As.map (am_v ad)).toArray) hX hE hA hG hag hD hS hl k2 k3 ?_ k6
  have cb := am_cb (kc' := kc') (ks' := ks') hM hT k1 g1 g2 (hT _ hlk args)
  rw [hr0] at cb
  exact va_runI (Ts := am_gt) ⟨hX.1, hX.2.1, hX.2.2.2.1, hX.2.2.2.2.1, hT.use args⟩ (k5 l D tc ad H.size) ⟨cb, hnm, hT _ hin args⟩ ⟨am_blind, fun U hU hW => ⟨rfl, am_pre_ok hT hK hE hA hag hP hD hS hU hW⟩⟩ rfl (am_popl hpop) hl.1 rfl (lv_room (by rw [am_cat_v]; exact k4)) hd ⟨by omega, by omega⟩
theorem am_s_callIN {ix b o : Nat} {host : String} (hM : am_ML mi' b) (hr0 : am_ret mi' = none) (hnm : (am_y mi').name = "<init>") (hlk : Cond.methodLinkNest (am_y mi).cls ix (am_y mi') host ∈ am_gt) (hin : Cond.instanceMethod (am_y mi') ∈ am_gt) (hpop : am_pop b st [] = some (As, .ref o :: rest)) (hd : decode (am_code mi) pc = .ok (.invokespecial ix, 3))
    (hk : am_call mi' d kc ks (.ref o :: As) rest ls h (fun kc ks r h => am_W mi d Q kc ks (pc + 3) ls (r.toList ++ rest) h)) : am_W mi d Q kc ks pc ls st h := by
  intro p l e R s m args below meth c D tc ad ad0 h0 A H locs cells slots mc ms lsC hX hE hA hG hag hP hD hS hl
  obtain ⟨d', kc', ks', P, k1, k2, k3, k4, k5, k6⟩ := hk
  have hT := hX.2.2.2.2.2.2.2.1
  have hK := hX.2.2.2.2.2.2.2.2
  obtain ⟨g1, g2, g3, g4, g5, g6⟩ := id hG
  rw [am_stk hpop]
  refine am_run_go (P := P) (av := (Value.ref (ad o) :: As.map (am_v ad)).toArray) hX hE hA hG hag hD hS hl k2 k3 ?_ k6
  have cb := am_cn (kc' := kc') (ks' := ks') hM hT k1 g1 g2 (hT _ hlk args)
  rw [hr0] at cb
  exact va_runIN (Ts := am_gt) ⟨hX.1, hX.2.1, hX.2.2.2.1, hX.2.2.2.2.1, hT.use args⟩ (k5 l D tc ad H.size) ⟨cb, hnm, hT _ hin args⟩ ⟨am_blind, fun U hU hW => ⟨rfl, am_pre_ok hT hK hE hA hag hP hD hS hU hW⟩⟩ rfl (am_popl hpop) hl.1 rfl (lv_room (by rw [am_cat_v]; exact k4)) hd ⟨by omega, by omega⟩
theorem am_obj_in : Cond.instanceMethod objectInit ∈ am_gt ∧ Cond.code objectInit ⟨#[0xb1]⟩ 1 none ∈ am_gt := ⟨by decide +kernel, by decide +kernel⟩
theorem am_s_objInit {ix o : Nat} (hlk : Cond.methodLink (am_y mi).cls ix objectInit ∈ am_gt) (hd1 : 1 ≤ d) (hcat : am_cat st ≤ 8) (hd : decode (am_code mi) pc = .ok (.invokespecial ix, 3)) (hk : am_W mi d Q kc ks (pc + 3) ls st h) : am_W mi d Q kc ks pc ls (.ref o :: st) h := by
  intro p l e R s m args below meth c D tc ad ad0 h0 A H locs cells slots mc ms lsC hX hE hA hG hag hP hD hS hl
  have hT := hX.2.2.2.2.2.2.2.1
  obtain ⟨g1, g2, g3, g4, g5, g6⟩ := id hG
  have hc8 := lv_room (m := m) (pc := pc) (ls := lsC) (rest := (Value.ref o :: st).map (am_v ad)) (st := st.map (am_v ad)) (by rw [am_cat_v]; exact hcat)
  exact W.objInit hX.1 hX.2.1 hX.2.2.2.2.1 (hT _ hlk args) (hT _ am_obj_in.1 args) (hT _ am_obj_in.2 args) rfl (by rw [hX.2.2.2.1]; exact hl.1) rfl hd (by omega) (by omega) (hk p l e R s m args below meth c D tc ad ad0 h0 A H locs cells slots mc ms lsC hX hE hA hG hag hP hD hS hl)
theorem am_cp_in : Cond.native arraycopyName ∈ am_gt ∧ Cond.static arraycopyName ∈ am_gt ∧ Cond.initialized "java/lang/System" ∈ am_gt := ⟨by decide +kernel, by decide +kernel, by decide +kernel⟩
/-- System.arraycopy of two rows of one type -/
theorem am_s_copy {ix a o0 o1 n0 n1 : Nat} {f g : Nat → Int32} {sp dp n : Int32} (ha : a < 3) (hlk : Cond.methodLink (am_y mi).cls ix arraycopyName ∈ am_gt) (h0' : am_nth h o0 = some (.inl (a, n0, f))) (h1' : am_nth h o1 = some (.inl (a, n1, g))) (c1 : ¬ sp < 0) (c2 : ¬ dp < 0) (c3 : ¬ n < 0) (c4 : sp.toNatClampNeg + n.toNatClampNeg ≤ n0) (c5 : dp.toNatClampNeg + n.toNatClampNeg ≤ n1) (c6 : ∀ i, i < n.toNatClampNeg → fits (am_aty a) (.int (f (sp.toNatClampNeg + i))) = true) (hd1 : 1 ≤ d) (hcat : am_cat rest ≤ 8) (hd : decode (am_code mi) pc = .ok (.invokestatic ix, 3))
    (hk : am_W mi d Q kc ks (pc + 3) ls rest (am_put h o1 (.inl (a, n1, va_cpy f g sp.toNatClampNeg dp.toNatClampNeg n.toNatClampNeg)))) : am_W mi d Q kc ks pc ls (.int n :: .int dp :: .ref o1 :: .int sp :: .ref o0 :: rest) h := by
  intro p l e R s m args below meth c D tc ad ad0 h0 A H locs cells slots mc ms lsC hX hE hA hG hag hP hD hS hl
  have hT := hX.2.2.2.2.2.2.2.1
  have hK := hX.2.2.2.2.2.2.2.2
  obtain ⟨g1, g2, g3, g4, g5, g6⟩ := id hG
  have hrm : ((rest.map (am_v ad)).map fun v => v.category).sum + (nativeFrameWords "java/lang/System" "arraycopy" 5 + 11) ≤ R.locals := by
    rw [am_cat_v]
    have : nativeFrameWords "java/lang/System" "arraycopy" 5 = 7 := by decide +kernel
    omega
  rcases (show a = 0 ∨ a = 1 ∨ a = 2 by omega) with rfl | rfl | rfl
  · exact va_copyi hX.1 hX.2.1 (hX.2.2.2.1.trans hl.1.symm) hX.2.2.2.2.1 (hT _ hlk args) (hT _ am_cp_in.1 args) (hT _ am_cp_in.2.1 args) (hT _ am_cp_in.2.2 args) hK hP hD hS o0 o1 0 0 (am_w_at h0') (am_w_at h1') rfl rfl rfl c1 c2 c3 c4 c5 c6 (by omega) hrm hd (fun H1 locs1 hP1 hD1 hS1 => hk p l e R s m args below meth c D tc ad ad0 h0 A H1 locs1 cells slots mc ms lsC hX hE hA hG ⟨by rw [am_put_len]; exact hag.1, by rw [am_put_len]; exact hag.2.1, by rw [am_put_len]; exact hag.2.2⟩ (by rw [am_w_put]; exact hP1) (by rw [am_w_put]; exact hD1) hS1 hl)
  · exact va_copyi hX.1 hX.2.1 (hX.2.2.2.1.trans hl.1.symm) hX.2.2.2.2.1 (hT _ hlk args) (hT _ am_cp_in.1 args) (hT _ am_cp_in.2.1 args) (hT _ am_cp_in.2.2 args) hK hP hD hS o0 o1 1 1 (am_w_at h0') (am_w_at h1') rfl rfl rfl c1 c2 c3 c4 c5 c6 (by omega) hrm hd (fun H1 locs1 hP1 hD1 hS1 => hk p l e R s m args below meth c D tc ad ad0 h0 A H1 locs1 cells slots mc ms lsC hX hE hA hG ⟨by rw [am_put_len]; exact hag.1, by rw [am_put_len]; exact hag.2.1, by rw [am_put_len]; exact hag.2.2⟩ (by rw [am_w_put]; exact hP1) (by rw [am_w_put]; exact hD1) hS1 hl)
  · exact va_copyi hX.1 hX.2.1 (hX.2.2.2.1.trans hl.1.symm) hX.2.2.2.2.1 (hT _ hlk args) (hT _ am_cp_in.1 args) (hT _ am_cp_in.2.1 args) (hT _ am_cp_in.2.2 args) hK hP hD hS o0 o1 2 2 (am_w_at h0') (am_w_at h1') rfl rfl rfl c1 c2 c3 c4 c5 c6 (by omega) hrm hd (fun H1 locs1 hP1 hD1 hS1 => hk p l e R s m args below meth c D tc ad ad0 h0 A H1 locs1 cells slots mc ms lsC hX hE hA hG ⟨by rw [am_put_len]; exact hag.1, by rw [am_put_len]; exact hag.2.1, by rw [am_put_len]; exact hag.2.2⟩ (by rw [am_w_put]; exact hP1) (by rw [am_w_put]; exact hD1) hS1 hl)
/-- super.m(..) -/
theorem am_sub2 {vm : Vm} {a b : ClassId} {k : Class} (h : vm.classes[a]? = some k) (hs : k.super = some b) : vm.isSubclass a b = true := by
  have hl : a < vm.classes.size := (Array.getElem?_eq_some_iff.mp h).1
  obtain ⟨n, hn⟩ : ∃ n, vm.classes.size = n + 1 := ⟨vm.classes.size - 1, by have h9 : 0 < vm.classes.size := Nat.lt_of_le_of_lt (Nat.zero_le a) hl; omega⟩
  simp [Vm.isSubclass, hn, Vm.isSubclassAux, h, hs]
theorem am_s_callSU {ix b o ci : Nat} {xn : MethodName} {fs : List Value} {q : vw_C} (hq : am_cls[ci]? = some q) (hM : am_ML mi' b) (hno : xn.name ≠ "<init>") (hyn : (am_y mi').name = xn.name) (hyd : (am_y mi').desc = xn.desc) (hlk : Cond.methodLink (am_y mi).cls ix xn ∈ am_gt) (hsm : Cond.sameMethod xn.cls (am_y mi').cls xn.name xn.desc ∈ am_gt) (hsp : Cond.superclass (am_y mi).cls xn.cls ∈ am_gt) (hsp2 : xn.cls = (am_y mi').cls ∨ Cond.superclass xn.cls (am_y mi').cls ∈ am_gt) (hin : Cond.instanceMethod (am_y mi') ∈ am_gt) (hpop : am_pop b st [] = some (As, .ref o :: rest)) (hc : am_nth h o = some (.inr (.inr (ci, fs)))) (hd : decode (am_code mi) pc = .ok (.invokespecial ix, 3))
    (hk : am_call mi' d kc ks (.ref o :: As) rest ls h (fun kc ks r h => am_W mi d Q kc ks (pc + 3) ls (r.toList ++ rest) h)) : am_W mi d Q kc ks pc ls st h := by
  intro p l e R s m args below meth c D tc ad ad0 h0 A H locs cells slots mc ms lsC hX hE hA hG hag hP hD hS hl
  obtain ⟨d', kc', ks', P, k1, k2, k3, k4, k5, k6⟩ := hk
  have hT := hX.2.2.2.2.2.2.2.1
  have hK := hX.2.2.2.2.2.2.2.2
  obtain ⟨g1, g2, g3, g4, g5, g6⟩ := id hG
  rw [am_stk hpop]
  refine am_run_go (P := P) (av := (Value.ref (ad o) :: As.map (am_v ad)).toArray) hX hE hA hG hag hD hS hl k2 k3 ?_ k6
  obtain ⟨z1, z2, z3, z4, z5, z6⟩ := am_bk (kc' := kc') (ks' := ks') hM hT k1 g1 g2
  have hB : Back l R p e below s args (am_y mi') 3 8 (PreOf R kc' ks' (va_Pc ((Value.ref o :: As).map (am_v ad)) (am_Pre D tc ad h H.size))) (PostOf (am_Q D tc (va_A (am_w ad tc h) H.size) h ad P) kc' ks' (va_A (am_w ad tc h) H.size)) :=
    back_of (bytes := am_code mi') (maxL := am_mL mi') (ret := am_ret mi') (k5 l D tc ad H.size) am_blind z1 z2 z3 z4 z5 z6 (fun a' U hW => hT.warm hW _ hM.2.1 a')
  obtain ⟨cellB, hcB, hoB, hclB⟩ := va_recv hK hP hq (am_w_at hc)
  obtain ⟨-, hfc, kB, hkB, -⟩ := hK.1 ci _ hq
  have hcc : D.1 ci = cellB.cls := Option.some.inj (hfc.symm.trans hclB)
  rw [hcc] at hkB
  intro T hTh X
  obtain ⟨mk, methM, hnamed, hmethM, hstM, habM⟩ := Cond.instanceMethod_spec (hT _ hin args)
  obtain ⟨methM', cM, hmethM', -, -, -, -, -, -, hsigM⟩ := Cond.code_spec hnamed (hT _ hM.1 args)
  cases hmethM.symm.trans hmethM'
  obtain ⟨ps, dk, kp, hps, hdk, hkp, hsuper, -, -, hnid⟩ := Cond.superclass_spec hX.2.2.2.2.1 (hT _ hsp args)
  have hn : s.methodNamed? ⟨(am_y mi').cls, xn.name, xn.desc⟩ = some mk := by rw [← hyn, ← hyd]; exact hnamed
  have hmc : s.vm.findClass (am_y mi').cls = some mk.cls := findClass_of_methodNamed hnamed
  have hsub : s.vm.isSubclass ps mk.cls = true := by
    rcases hsp2 with e1 | e1
    · rw [e1] at hps
      have hpm : ps = mk.cls := Option.some.inj (hps.symm.trans hmc)
      rw [hpm]; simp [Vm.isSubclass, Vm.isSubclassAux]
    · obtain ⟨ps2, dk2, kp2, hps2, hdk2, hkp2, hsuper2, -, -, -⟩ := Cond.superclass_spec hps (hT _ e1 args)
      cases hps2.symm.trans hmc
      exact am_sub2 hdk2 hsuper2
  have hlen : (As.map (am_v ad)).length = methM.sig.parameters.length := by rw [am_popl hpop]; exact am_pars hM.2.2.2.1 _ hsigM
  obtain ⟨vm₁, X₁, hstep₁⟩ := X.invokespecialUp hX.1 hX.2.2.2.2.1 (hT _ hlk args) (hT _ hsm args) hn hmethM hstM habM hno hdk hnid hps hsuper hsub (a := ad o) (cell := cellB) (by rw [hTh]; exact hcB)
    (fun z hz => by rw [hz] at hoB; cases hoB) hkB (g := F0 m pc lsC ((As.map (am_v ad)).reverse ++ .ref (ad o) :: rest.map (am_v ad))) rfl (argsL := As.map (am_v ad)) (rest := rest.map (am_v ad)) hlen rfl (by rw [hX.2.1]; exact hd)
  obtain ⟨v, ⟨U', l2, c2, s2⟩, X', ⟨g', mk', t, L, e1, e2, hq', h1, hL, h2, h3⟩, hsteps⟩ := hB m meth c ⟨T.setVm vm₁, locs, cells, slots⟩ { F0 m pc lsC ((As.map (am_v ad)).reverse ++ .ref (ad o) :: rest.map (am_v ad)) with stack := rest.map (am_v ad) } (.invokespecial ix) mk (Value.ref (ad o) :: As.map (am_v ad)).toArray X₁ rfl (by show lsC.size = _; rw [hX.2.2.2.1]; exact hl.1) (by rw [hX.2.1]; exact hd) (lv_room (by rw [am_cat_v]; exact k4)) (X₁.named hnamed) ⟨by show cells + kc' ≤ R.cells; omega, by show slots + ks' ≤ R.slots; omega, rfl, am_pre_ok hT hK hE hA hag hP hD hS (by exact hTh) X₁.warmed⟩
  dsimp only [Pt.U, Pt.locs, Pt.cells, Pt.slots] at X' e1 e2 h1 h2 h3 hsteps
  subst h1; subst h2; subst h3
  exact ⟨v, (T.setVm vm₁).calling g' mk' (Value.ref (ad o) :: As.map (am_v ad)).toArray, t, U', L, hTh, X', hL, e1, e2, hq', fun target hh => hstep₁ _ (by rw [doInvoke_state]; exact hsteps.trans hh)⟩
end AMC
end
section
/-! WHAT AN INSTRUCTION's ROW MUST SAY, and then: steps of the abstract machine are steps of the machine -/
def am_VU (tab : Nat → am_MI) (own : String) (ix a b : Nat) (q : vw_C) : Prop := ∃ (xn : MethodName) (owner : String), am_ML (tab a) b ∧ (parseMethodDescriptor xn.desc).map (fun d => d.parameters.length) = some b ∧ (owner ≠ "java/lang/invoke/MethodHandle" ∧ owner ≠ "java/lang/invoke/VarHandle") ∧ Cond.methodLink own ix xn ∈ am_gt ∧ Cond.sameMethod xn.cls owner xn.name xn.desc ∈ am_gt ∧ (Cond.declares ⟨owner, xn.name, xn.desc⟩ ∈ am_gt ∨ ∃ (bs : ByteArray) (n : Nat) (rt : Option FieldType), Cond.instanceMethod ⟨owner, xn.name, xn.desc⟩ ∈ am_gt ∧ Cond.code ⟨owner, xn.name, xn.desc⟩ bs n rt ∈ am_gt) ∧ Cond.instanceMethod (am_y (tab a)) ∈ am_gt ∧ Cond.selects q.1 xn (am_y (tab a)) ∈ am_gt
def am_SU (tab : Nat → am_MI) (own : String) (ix a b : Nat) : Prop := ∃ xn : MethodName, am_ML (tab a) b ∧ xn.name ≠ "<init>" ∧ (am_y (tab a)).name = xn.name ∧ (am_y (tab a)).desc = xn.desc ∧ Cond.methodLink own ix xn ∈ am_gt ∧ Cond.sameMethod xn.cls (am_y (tab a)).cls xn.name xn.desc ∈ am_gt ∧ Cond.superclass own xn.cls ∈ am_gt ∧ (xn.cls = (am_y (tab a)).cls ∨ Cond.superclass xn.cls (am_y (tab a)).cls ∈ am_gt) ∧ Cond.instanceMethod (am_y (tab a)) ∈ am_gt
def am_okI (tab : Nat → am_MI) (mi : am_MI) (pc len a b c : Nat) (k : Int32) (i : Instr) : Prop :=
  match i with
  | .iconst n => len = 1 ∧ Int32.ofInt n = k
  | .bipush n => len = 2 ∧ (Int8.ofInt n).toInt32 = k
  | .sipush n => len = 3 ∧ (Int16.ofInt n).toInt32 = k
  | .ldc ix => len = 2 ∧ match c with
    | 0 => Cond.constant (am_y mi).cls ix k ∈ am_gt
    | _ => (am_y mi).cls = "DeedProofs$RuleReader" ∧ (a = 0 ∧ ix = 56 ∨ a = 1 ∧ ix = 62 ∨ a = 2 ∧ ix = 75)
  | .ldc_w ix => len = 3 ∧ Cond.constant (am_y mi).cls ix k ∈ am_gt
  | .ldc2_w ix => len = 3 ∧ Cond.constantLong (am_y mi).cls ix k.toInt64 ∈ am_gt
  | .iload j => len = 2 ∧ j = a
  | .iload_n j => len = 1 ∧ (j : Nat) = a
  | .lload_n j => len = 1 ∧ (j : Nat) = a
  | .aload j => len = 2 ∧ j = a
  | .aload_n j => len = 1 ∧ (j : Nat) = a
  | .istore j => len = 2 ∧ j = a ∧ a < am_mL mi
  | .istore_n j => len = 1 ∧ (j : Nat) = a ∧ a < am_mL mi
  | .astore j => len = 2 ∧ j = a ∧ a < am_mL mi
  | .astore_n j => len = 1 ∧ (j : Nat) = a ∧ a < am_mL mi
  | .iinc j n => len = 3 ∧ j = a ∧ Int32.ofInt n = k ∧ a < am_mL mi
  | .goto off => len = 3 ∧ (pc : Int) + off = (a : Int)
  | .ifCond _ off => len = 3 ∧ (pc : Int) + off = (a : Int)
  | .if_icmp _ off => len = 3 ∧ (pc : Int) + off = (a : Int)
  | .ifnonnull off => len = 3 ∧ (pc : Int) + off = (a : Int)
  | .lookupswitch _ ps => (ps.toList.zip (ps.toList.drop 1)).all (fun (a, next) => a.1 < next.1) = true
  | .tableswitch .. => True
  | .getstatic ix => len = 3 ∧ (am_y mi).cls = "DeedProofs" ∧ Cond.fieldLink "DeedProofs" ix "DeedProofs" "ABOVE" "[I" ∈ am_gt
  | .getfield ix => len = 3 ∧ am_FL (am_y mi).cls ix a b
  | .putfield ix => len = 3 ∧ am_FP (am_y mi).cls (am_y mi).name ix a b
  | .arraylength => len = 1 ∧ match c with
    | 0 => a < 3
    | _ => a = 3 ∨ a = 4
  | .baload => len = 1 ∧ (a = 1 ∨ a = 2)
  | .bastore => len = 1 ∧ (a = 1 ∨ a = 2)
  | .aaload => len = 1 ∧ (a = 3 ∨ a = 4)
  | .new ix => len = 3 ∧ ∃ q : vw_C, am_cls[a]? = some q ∧ Cond.classLink (am_y mi).cls ix q.1 ∈ am_gt ∧ Cond.instantiable q.1 q.2.2 ∈ am_gt ∧ Cond.initialized q.1 ∈ am_gt
  | .newarray t => len = 2 ∧ (a = 0 ∧ t = .int ∨ a = 1 ∧ t = .byte ∨ a = 2 ∧ t = .boolean)
  | .anewarray ix => len = 3 ∧ (a = 3 ∧ Cond.classLink (am_y mi).cls ix "DeedProofs$Text" ∈ am_gt ∨ a = 4 ∧ Cond.classLink (am_y mi).cls ix "DeedProofs$Line" ∈ am_gt)
  | .areturn => len = 1 ∧ ∃ rt : FieldType, am_ret mi = some rt ∧ ((∃ n, rt = .object n) ∨ ∃ t, rt = .array t)
  | .return_ => len = 1 ∧ am_ret mi = none
  | .invokevirtual ix => len = 3 ∧ match c with
    | 0 => am_ML (tab a) b ∧ ∃ q : vw_C, am_cls[k.toInt.toNat]? = some q ∧ Cond.methodLink (am_y mi).cls ix (am_y (tab a)) ∈ am_gt ∧ Cond.instanceMethod (am_y (tab a)) ∈ am_gt ∧ Cond.selects q.1 (am_y (tab a)) (am_y (tab a)) ∈ am_gt
    | 1 => am_ML (tab a) b ∧ ∃ (q : vw_C) (host : String), am_cls[k.toInt.toNat]? = some q ∧ Cond.methodLinkNest (am_y mi).cls ix (am_y (tab a)) host ∈ am_gt ∧ Cond.instanceMethod (am_y (tab a)) ∈ am_gt ∧ Cond.selects q.1 (am_y (tab a)) (am_y (tab a)) ∈ am_gt
    | 2 => am_ML (tab a) b ∧ Cond.methodLink (am_y mi).cls ix (am_y (tab a)) ∈ am_gt ∧ Cond.instanceMethod (am_y (tab a)) ∈ am_gt ∧ Cond.selects "java/lang/String" (am_y (tab a)) (am_y (tab a)) ∈ am_gt
    | 3 => ∀ ci, (ci = 1 ∨ ci = 3 ∨ ci = 4 ∨ ci = 5 ∨ ci = 8) → ∃ q : vw_C, am_cls[ci]? = some q ∧ am_VU tab (am_y mi).cls ix (am_sel a ci) b q
    | _ => ∃ q : vw_C, am_cls[k.toInt.toNat]? = some q ∧ am_VU tab (am_y mi).cls ix a b q
  | .invokestatic ix => len = 3 ∧ match c with
    | 2 => a < 3 ∧ Cond.methodLink (am_y mi).cls ix arraycopyName ∈ am_gt
    | 1 => am_ML (tab a) b ∧ ∃ host : String, Cond.methodLinkNest (am_y mi).cls ix (am_y (tab a)) host ∈ am_gt ∧ Cond.static (am_y (tab a)) ∈ am_gt
    | _ => am_ML (tab a) b ∧ Cond.methodLink (am_y mi).cls ix (am_y (tab a)) ∈ am_gt ∧ Cond.static (am_y (tab a)) ∈ am_gt
  | .invokespecial ix => len = 3 ∧ match c with
    | 0 => am_ML (tab a) b ∧ am_ret (tab a) = none ∧ (am_y (tab a)).name = "<init>" ∧ Cond.methodLink (am_y mi).cls ix (am_y (tab a)) ∈ am_gt ∧ Cond.instanceMethod (am_y (tab a)) ∈ am_gt
    | 1 => am_ML (tab a) b ∧ am_ret (tab a) = none ∧ (am_y (tab a)).name = "<init>" ∧ ∃ host : String, Cond.methodLinkNest (am_y mi).cls ix (am_y (tab a)) host ∈ am_gt ∧ Cond.instanceMethod (am_y (tab a)) ∈ am_gt
    | 2 => b = 0 ∧ Cond.methodLink (am_y mi).cls ix objectInit ∈ am_gt
    | _ => (∀ (ci : Nat), ∀ c : am_C, (∃ fs, c = .inr (.inr (ci, fs))) → True) ∧ am_SU tab (am_y mi).cls ix a b
  | _ => len = 1
theorem am_call_mono {mi : am_MI} {d kc ks : Nat} {args rest : List Value} {ls : am_L} {h : am_H} {go go' : Nat → Nat → Option Value → am_H → Prop} (hg : ∀ kc ks r h, go kc ks r h → go' kc ks r h) (hc : am_call mi d kc ks args rest ls h go) : am_call mi d kc ks args rest ls h go' := by
  obtain ⟨d', kc', ks', P, k1, k2, k3, k4, k5, k6⟩ := hc
  exact ⟨d', kc', ks', P, k1, k2, k3, k4, k5, fun r h' hp => ⟨(k6 r h' hp).1, hg _ _ _ _ (k6 r h' hp).2⟩⟩
theorem am_br_mono {co : ClassFile.Cond} {x y : Int32} {T F T' F' : Prop} (hT : T → T') (hF : F → F') (hb : am_br co x y T F) : am_br co x y T' F' := by
  cases co <;> exact ⟨fun z => hT (hb.1 z), fun z => hF (hb.2 z)⟩
set_option maxHeartbeats 4000000 in
theorem am_do_ok {tab : Nat → am_MI} {mi : am_MI} {d : Nat} {Q : Option Value → am_H → Prop} {K : am_K} {kc ks pc : Nat} {ls : am_L} {st : List Value} {h : am_H} {len a b c : Nat} {k : Int32} {i : Instr} (hK : ∀ kc ks pc ls st h, K kc ks pc ls st h → am_W mi d Q kc ks pc ls st h)
    (hd : decode (am_code mi) pc = .ok (i, len)) (hok : am_okI tab mi pc len a b c k i) (hw : am_do tab mi d Q K kc ks pc ls st h len a b c k i) : am_W mi d Q kc ks pc ls st h := by
  cases i
  case iconst n =>
    obtain ⟨rfl, hv⟩ := hok
    exact am_s_iconst hv hd (hK _ _ _ _ _ _ hw)
  case bipush n =>
    obtain ⟨rfl, hv⟩ := hok
    exact am_s_bipush hv hd (hK _ _ _ _ _ _ hw)
  case sipush n =>
    obtain ⟨rfl, hv⟩ := hok
    exact am_s_sipush hv hd (hK _ _ _ _ _ _ hw)
  case ldc ix =>
    obtain ⟨rfl, hv⟩ := hok
    dsimp only [am_do] at hw
    cases c with
    | zero => exact am_s_ldc hv hd (hK _ _ _ _ _ _ hw)
    | succ c =>
      obtain ⟨ho, ⟨rfl, rfl⟩ | ⟨rfl, rfl⟩ | ⟨rfl, rfl⟩⟩ := hv
      · exact am_s_str0 ho hd (hK _ _ _ _ _ _ hw)
      · exact am_s_str1 ho hd (hK _ _ _ _ _ _ hw)
      · exact am_s_str2 ho hd (hK _ _ _ _ _ _ hw)
  case ldc_w ix =>
    obtain ⟨rfl, hv⟩ := hok
    exact am_s_ldcw hv hd (hK _ _ _ _ _ _ hw)
  case ldc2_w ix =>
    obtain ⟨rfl, hv⟩ := hok
    exact am_s_ldc2 hv hd (hK _ _ _ _ _ _ hw)
  case aconst_null =>
    cases hok
    exact am_s_null hd (hK _ _ _ _ _ _ hw)
  case iload j =>
    obtain ⟨rfl, rfl⟩ := hok
    dsimp only [am_do] at hw
    split at hw
    · rename_i hx; exact am_s_iload hx hd (hK _ _ _ _ _ _ hw)
    · exact hw.elim
  case iload_n j =>
    obtain ⟨rfl, hv⟩ := hok
    dsimp only [am_do] at hw
    split at hw
    · rename_i hx; exact am_s_iload_n hx hd hv (hK _ _ _ _ _ _ hw)
    · exact hw.elim
  case lload_n j =>
    obtain ⟨rfl, hv⟩ := hok
    dsimp only [am_do] at hw
    split at hw
    · rename_i hx; exact am_s_lload_n hx hd hv (hK _ _ _ _ _ _ hw)
    · exact hw.elim
  case aload j =>
    obtain ⟨rfl, rfl⟩ := hok
    dsimp only [am_do] at hw
    split at hw
    · rename_i hx; exact am_s_aload hx hd (hK _ _ _ _ _ _ hw)
    · rename_i hx; exact am_s_aloadN hx hd (hK _ _ _ _ _ _ hw)
    · exact hw.elim
  case aload_n j =>
    obtain ⟨rfl, hv⟩ := hok
    dsimp only [am_do] at hw
    split at hw
    · rename_i hx; exact am_s_aload_n hx hd hv (hK _ _ _ _ _ _ hw)
    · rename_i hx; exact am_s_aload_nN hx hd hv (hK _ _ _ _ _ _ hw)
    · exact hw.elim
  case istore j =>
    obtain ⟨rfl, rfl, hm⟩ := hok
    dsimp only [am_do] at hw
    split at hw
    · rename_i hx; exact am_s_istore hx hm hd (hK _ _ _ _ _ _ hw)
    · exact hw.elim
  case istore_n j =>
    obtain ⟨rfl, hv, hm⟩ := hok
    dsimp only [am_do] at hw
    split at hw
    · rename_i hx; exact am_s_istore_n hx hm hd hv (hK _ _ _ _ _ _ hw)
    · exact hw.elim
  case astore j =>
    obtain ⟨rfl, rfl, hm⟩ := hok
    dsimp only [am_do] at hw
    split at hw
    · rename_i hx; exact am_s_astore hx hm hd (hK _ _ _ _ _ _ hw)
    · exact hw.elim
  case astore_n j =>
    obtain ⟨rfl, hv, hm⟩ := hok
    dsimp only [am_do] at hw
    split at hw
    · rename_i hx; exact am_s_astore_n hx hm hd hv (hK _ _ _ _ _ _ hw)
    · exact hw.elim
  case iinc j n =>
    obtain ⟨rfl, rfl, hv, hm⟩ := hok
    dsimp only [am_do] at hw
    split at hw
    · rename_i hx1 hx2; exact am_s_iinc hx1 hm hv hx2 hd (hK _ _ _ _ _ _ hw)
    · exact hw.elim
  case iadd =>
    cases hok
    dsimp only [am_do] at hw
    split at hw
    · exact am_s_iadd hd (hK _ _ _ _ _ _ hw)
    · exact hw.elim
  case isub =>
    cases hok
    dsimp only [am_do] at hw
    split at hw
    · exact am_s_isub hd (hK _ _ _ _ _ _ hw)
    · exact hw.elim
  case imul =>
    cases hok
    dsimp only [am_do] at hw
    split at hw
    · exact am_s_imul hd (hK _ _ _ _ _ _ hw)
    · exact hw.elim
  case iand =>
    cases hok
    dsimp only [am_do] at hw
    split at hw
    · exact am_s_iand hd (hK _ _ _ _ _ _ hw)
    · exact hw.elim
  case ior =>
    cases hok
    dsimp only [am_do] at hw
    split at hw
    · exact am_s_ior hd (hK _ _ _ _ _ _ hw)
    · exact hw.elim
  case ixor =>
    cases hok
    dsimp only [am_do] at hw
    split at hw
    · exact am_s_ixor hd (hK _ _ _ _ _ _ hw)
    · exact hw.elim
  case ishl =>
    cases hok
    dsimp only [am_do] at hw
    split at hw
    · exact am_s_ishl hd (hK _ _ _ _ _ _ hw)
    · exact hw.elim
  case ishr =>
    cases hok
    dsimp only [am_do] at hw
    split at hw
    · exact am_s_ishr hd (hK _ _ _ _ _ _ hw)
    · exact hw.elim
  case iushr =>
    cases hok
    dsimp only [am_do] at hw
    split at hw
    · exact am_s_iushr hd (hK _ _ _ _ _ _ hw)
    · exact hw.elim
  case ineg =>
    cases hok
    dsimp only [am_do] at hw
    split at hw
    · exact am_s_ineg hd (hK _ _ _ _ _ _ hw)
    · exact hw.elim
  case land =>
    cases hok
    dsimp only [am_do] at hw
    split at hw
    · exact am_s_land hd (hK _ _ _ _ _ _ hw)
    · exact hw.elim
  case lshr =>
    cases hok
    dsimp only [am_do] at hw
    split at hw
    · exact am_s_lshr hd (hK _ _ _ _ _ _ hw)
    · exact hw.elim
  case lushr =>
    cases hok
    dsimp only [am_do] at hw
    split at hw
    · exact am_s_lushr hd (hK _ _ _ _ _ _ hw)
    · exact hw.elim
  case l2i =>
    cases hok
    dsimp only [am_do] at hw
    split at hw
    · exact am_s_l2i hd (hK _ _ _ _ _ _ hw)
    · exact hw.elim
  case i2b =>
    cases hok
    dsimp only [am_do] at hw
    split at hw
    · exact am_s_i2b hd (hK _ _ _ _ _ _ hw)
    · exact hw.elim
  case i2c =>
    cases hok
    dsimp only [am_do] at hw
    split at hw
    · exact am_s_i2c hd (hK _ _ _ _ _ _ hw)
    · exact hw.elim
  case idiv =>
    cases hok
    dsimp only [am_do] at hw
    split at hw
    · exact am_s_idiv hw.1 hd (hK _ _ _ _ _ _ hw.2)
    · exact hw.elim
  case irem =>
    cases hok
    dsimp only [am_do] at hw
    split at hw
    · exact am_s_irem hw.1 hd (hK _ _ _ _ _ _ hw.2)
    · exact hw.elim
  case dup =>
    cases hok
    dsimp only [am_do] at hw
    split at hw
    · exact am_s_dupi hd (hK _ _ _ _ _ _ hw)
    · exact am_s_dupr hd (hK _ _ _ _ _ _ hw)
    · exact hw.elim
  case dup2 =>
    cases hok
    dsimp only [am_do] at hw
    split at hw
    · exact am_s_dup2 hd (hK _ _ _ _ _ _ hw)
    · exact hw.elim
  case pop =>
    cases hok
    dsimp only [am_do] at hw
    split at hw
    · exact am_s_popi hd (hK _ _ _ _ _ _ hw)
    · exact am_s_popr hd (hK _ _ _ _ _ _ hw)
    · exact hw.elim
  case goto off =>
    obtain ⟨rfl, hv⟩ := hok
    exact am_s_goto hv hd (hK _ _ _ _ _ _ hw)
  case ifCond co off =>
    obtain ⟨rfl, hv⟩ := hok
    dsimp only [am_do] at hw
    split at hw
    · exact am_s_if hv hd (am_br_mono (hK _ _ _ _ _ _) (hK _ _ _ _ _ _) hw)
    · exact hw.elim
  case if_icmp co off =>
    obtain ⟨rfl, hv⟩ := hok
    dsimp only [am_do] at hw
    split at hw
    · exact am_s_icmp hv hd (am_br_mono (hK _ _ _ _ _ _) (hK _ _ _ _ _ _) hw)
    · exact hw.elim
  case ifnonnull off =>
    obtain ⟨rfl, hv⟩ := hok
    dsimp only [am_do] at hw
    split at hw
    · exact am_s_nonnull hv hd (hK _ _ _ _ _ _ hw)
    · exact am_s_nonnullN hd (hK _ _ _ _ _ _ hw)
    · exact hw.elim
  case tableswitch dflt lo hi offs =>
    dsimp only [am_do] at hw
    split at hw
    · obtain ⟨tgt, ⟨h1, h2⟩ | ⟨h1, h2, off, h3, h4⟩, hw⟩ := hw
      · exact am_s_tabO h1 h2 hd (hK _ _ _ _ _ _ hw)
      · exact am_s_tabI h1 h2 h3 h4 hd (hK _ _ _ _ _ _ hw)
    · exact hw.elim
  case lookupswitch dflt ps =>
    dsimp only [am_do] at hw
    split at hw
    · obtain ⟨tgt, h1, hw⟩ := hw
      exact am_s_look hok h1 hd (hK _ _ _ _ _ _ hw)
    · exact hw.elim
  case getstatic ix =>
    obtain ⟨rfl, h1, h2⟩ := hok
    exact am_s_above h1 h2 hd (hK _ _ _ _ _ _ hw)
  case getfield ix =>
    obtain ⟨rfl, h1⟩ := hok
    dsimp only [am_do] at hw
    split at hw
    · obtain ⟨fs, v, h2, h3, hw⟩ := hw
      exact am_s_get h1 h2 h3 hd (hK _ _ _ _ _ _ hw)
    · exact hw.elim
  case putfield ix =>
    obtain ⟨rfl, h1⟩ := hok
    dsimp only [am_do] at hw
    split at hw
    · obtain ⟨fs, h2, h3, h4, hw⟩ := hw
      exact am_s_put h1 h2 h3 h4 hd (hK _ _ _ _ _ _ hw)
    · exact hw.elim
  case arraylength =>
    obtain ⟨rfl, h1⟩ := hok
    dsimp only [am_do] at hw
    split at hw
    · cases c with
      | zero => obtain ⟨n, f, h2, hw⟩ := hw; exact am_s_len h1 h2 hd (hK _ _ _ _ _ _ hw)
      | succ c => obtain ⟨n, f, h2, hw⟩ := hw; exact am_s_lenq h1 h2 hd (hK _ _ _ _ _ _ hw)
    · exact hw.elim
  case iaload =>
    cases hok
    dsimp only [am_do] at hw
    split at hw
    · cases c with
      | zero => obtain ⟨n, f, h2, h3, hw⟩ := hw; exact am_s_iald h2 h3 hd (hK _ _ _ _ _ _ hw)
      | succ c => obtain ⟨rfl, h3, hw⟩ := hw; exact am_s_abald h3 hd (hK _ _ _ _ _ _ hw)
    · exact hw.elim
  case baload =>
    obtain ⟨rfl, h1⟩ := hok
    dsimp only [am_do] at hw
    split at hw
    · obtain ⟨n, f, h2, h3, hw⟩ := hw
      exact am_s_bald h1 h2 h3 hd (hK _ _ _ _ _ _ hw)
    · exact hw.elim
  case iastore =>
    cases hok
    dsimp only [am_do] at hw
    split at hw
    · obtain ⟨n, f, h2, h3, hw⟩ := hw
      exact am_s_iast h2 h3 hd (hK _ _ _ _ _ _ hw)
    · exact hw.elim
  case bastore =>
    obtain ⟨rfl, h1⟩ := hok
    dsimp only [am_do] at hw
    split at hw
    · obtain ⟨n, f, h2, h3, hw⟩ := hw
      exact am_s_bast h1 h2 h3 hd (hK _ _ _ _ _ _ hw)
    · exact hw.elim
  case aaload =>
    obtain ⟨rfl, h1⟩ := hok
    dsimp only [am_do] at hw
    split at hw
    · obtain ⟨n, f, j, h2, h3, h4, hw⟩ := hw
      exact am_s_aald h1 h2 h3 h4 hd (hK _ _ _ _ _ _ hw)
    · exact hw.elim
  case aastore =>
    cases hok
    dsimp only [am_do] at hw
    split at hw
    · obtain ⟨n, f, ci, fs, h2, h3, h4, h5, hw⟩ := hw
      exact am_s_aast h4 h2 h3 h5 hd (hK _ _ _ _ _ _ hw)
    · exact hw.elim
  case new ix =>
    obtain ⟨rfl, h1⟩ := hok
    dsimp only [am_do] at hw
    obtain ⟨k1, k2, k3, k4, hw⟩ := hw
    exact am_s_new h1 k1 k2 k3 k4 hd (hK _ _ _ _ _ _ hw)
  case newarray t =>
    obtain ⟨rfl, h1⟩ := hok
    dsimp only [am_do] at hw
    split at hw
    · obtain ⟨k1, k2, k3, k4, k5, k6, hw⟩ := hw
      exact am_s_newa h1 k1 k2 k3 k4 k5 k6 hd (hK _ _ _ _ _ _ hw)
    · exact hw.elim
  case anewarray ix =>
    obtain ⟨rfl, h1⟩ := hok
    dsimp only [am_do] at hw
    split at hw
    · obtain ⟨k1, k2, k3, k4, k5, k6, hw⟩ := hw
      exact am_s_newq h1 k1 k2 k3 k4 k5 k6 hd (hK _ _ _ _ _ _ hw)
    · exact hw.elim
  case ireturn =>
    cases hok
    dsimp only [am_do] at hw
    split at hw
    · obtain ⟨h1, h2⟩ := hw
      split at h1
      · rename_i hr; exact am_s_iret hr rfl hd h2
      · rename_i hr; exact am_s_iret hr h1 hd h2
      · exact h1.elim
    · exact hw.elim
  case areturn =>
    obtain ⟨rfl, rt, h1, h2⟩ := hok
    dsimp only [am_do] at hw
    split at hw
    · exact am_s_aret h1 h2 hd hw
    · exact hw.elim
  case return_ =>
    obtain ⟨rfl, h1⟩ := hok
    dsimp only [am_do] at hw
    split at hw
    · exact am_s_vret h1 hd hw
    · exact hw.elim
  case invokevirtual ix =>
    obtain ⟨rfl, h1⟩ := hok
    dsimp only [am_do] at hw
    split at hw
    · rename_i hp
      split at hw
      · obtain ⟨h1, q, h2, h3, h4, h5⟩ := h1
        obtain ⟨fs, h6, hw⟩ := hw
        exact am_s_callV h2 h1 h3 h4 h5 hp h6 hd (am_call_mono (fun _ _ _ _ z => hK _ _ _ _ _ _ z) hw)
      · obtain ⟨h1, q, host, h2, h3, h4, h5⟩ := h1
        obtain ⟨fs, h6, hw⟩ := hw
        exact am_s_callVN h2 h1 h3 h4 h5 hp h6 hd (am_call_mono (fun _ _ _ _ z => hK _ _ _ _ _ _ z) hw)
      · obtain ⟨h1, h3, h4, h5⟩ := h1
        obtain ⟨h6, h7, hw⟩ := hw
        exact am_s_callT h1 h3 h4 h5 hp h6 h7 hd (am_call_mono (fun _ _ _ _ z => hK _ _ _ _ _ _ z) hw)
      · obtain ⟨ci, fs, h6, h7, hw⟩ := hw
        obtain ⟨q, h2, xn, owner, u1, u2, u3, u4, u5, u6, u7, u8⟩ := h1 ci h7
        exact am_s_callU h2 u1 u2 u3 u4 u5 u6 u7 u8 hp h6 hd (am_call_mono (fun _ _ _ _ z => hK _ _ _ _ _ _ z) hw)
      · rename_i n0 n1 n2 n3
        obtain ⟨fs, h6, hw⟩ := hw
        have h1' : ∃ q : vw_C, am_cls[k.toInt.toNat]? = some q ∧ am_VU tab (am_y mi).cls ix a b q := by
          revert h1; split <;> first | (intro h1; exact h1) | (intro h1; exact absurd rfl (by assumption))
        obtain ⟨q, h2, xn, owner, u1, u2, u3, u4, u5, u6, u7, u8⟩ := h1'
        exact am_s_callU h2 u1 u2 u3 u4 u5 u6 u7 u8 hp h6 hd (am_call_mono (fun _ _ _ _ z => hK _ _ _ _ _ _ z) hw)
    · exact hw.elim
  case invokestatic ix =>
    obtain ⟨rfl, h1⟩ := hok
    dsimp only [am_do] at hw
    split at hw
    · split at hw
      · obtain ⟨n0, n1, f, g, k1, k2, k3, k4, k5, k6, k7, k8, k9, k10, hw⟩ := hw
        exact am_s_copy h1.1 h1.2 k1 k2 k3 k4 k5 k6 k7 k8 k9 k10 hd (hK _ _ _ _ _ _ hw)
      · exact hw.elim
    · rename_i n2
      split at hw
      · rename_i hp
        revert h1; split
        · exact absurd rfl n2
        · rintro ⟨h1, host, h3, h4⟩; exact am_s_callSN h1 h3 h4 hp hd (am_call_mono (fun _ _ _ _ z => hK _ _ _ _ _ _ z) hw)
        · rintro ⟨h1, h3, h4⟩; exact am_s_callS h1 h3 h4 hp hd (am_call_mono (fun _ _ _ _ z => hK _ _ _ _ _ _ z) hw)
      · exact hw.elim
  case invokespecial ix =>
    obtain ⟨rfl, h1⟩ := hok
    dsimp only [am_do] at hw
    split at hw
    · rename_i hp
      split at hw
      · obtain ⟨h1, h2, h3, h4, h5⟩ := h1
        exact am_s_callI h1 h2 h3 h4 h5 hp hd (am_call_mono (fun _ _ _ _ z => hK _ _ _ _ _ _ z) hw)
      · obtain ⟨h1, h2, h3, host, h4, h5⟩ := h1
        exact am_s_callIN h1 h2 h3 h4 h5 hp hd (am_call_mono (fun _ _ _ _ z => hK _ _ _ _ _ _ z) hw)
      · obtain ⟨rfl, h4⟩ := h1
        obtain ⟨h5, h6, hw⟩ := hw
        cases hp
        exact am_s_objInit h4 h5 h6 hd (hK _ _ _ _ _ _ hw)
      · obtain ⟨ci, fs, q, h2, h6, hw⟩ := hw
        have h1' : am_SU tab (am_y mi).cls ix a b := by
          revert h1; split <;> first | (intro h1; exact h1.2) | (intro h1; exact absurd rfl (by assumption))
        obtain ⟨xn, u1, u2, u3, u4, u5, u6, u7, u8, u9⟩ := h1'
        exact am_s_callSU h2 u1 u2 u3 u4 u5 u6 u7 u8 u9 hp h6 hd (am_call_mono (fun _ _ _ _ z => hK _ _ _ _ _ _ z) hw)
    · exact hw.elim
  all_goals exact hw.elim
def am_ok (tab : Nat → am_MI) (mi : am_MI) : Prop := ∀ (pc len a b c : Nat) (k : Int32) (i : Instr), am_nth (am_ins mi) pc = some (some (i, len, a, b, c, k)) → decode (am_code mi) pc = .ok (i, len) ∧ am_okI tab mi pc len a b c k i
theorem am_go {tab : Nat → am_MI} {mi : am_MI} {d : Nat} {Q : Option Value → am_H → Prop} (hok : am_ok tab mi) : ∀ (n kc ks pc : Nat) (ls : am_L) (st : List Value) (h : am_H), am_wp tab mi d Q n kc ks pc ls st h → am_W mi d Q kc ks pc ls st h
  | 0, _, _, _, _, _, _, hw => hw
  | n + 1, kc, ks, pc, ls, st, h, hw => by
    dsimp only [am_wp] at hw
    split at hw
    · rename_i i len a b c k hi
      obtain ⟨h1, h2⟩ := hok pc len a b c k i hi
      exact am_do_ok (am_go hok n) h1 h2 hw
    · exact hw.elim
end
