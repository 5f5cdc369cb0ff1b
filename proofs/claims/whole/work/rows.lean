section
-- ===== PART A: goes FIRST, ahead of the names: the tables' words, and 'selects' of the private methods out of them =====
/-- a private method of a class that the tables say can be made, by its rows of tables_1 -/
def lw_okq (q : MethodName × Nat) : Prop := (q.1.cls ≠ "java/lang/invoke/MethodHandle" ∧ q.1.cls ≠ "java/lang/invoke/VarHandle") ∧ Cond.instantiable q.1.cls q.2 ∈ tables_1 ∧ Cond.privateMethod q.1 ∈ tables_1 ∧ Cond.instanceMethod q.1 ∈ tables_1
theorem lw_p0 : lw_okq (⟨"DeedProofs", "readTape", "(LDeedProofs$Text;)I"⟩, 7) := ⟨⟨by decide +kernel, by decide +kernel⟩, List.mem_of_getElem? (i := 23) (by decide +kernel), List.mem_of_getElem? (i := 349) (by decide +kernel), List.mem_of_getElem? (i := 350) (by decide +kernel)⟩
theorem lw_p1 : lw_okq (⟨"DeedProofs$RuleReader", "read", "([BILDeedProofs$Text;)I"⟩, 5) := ⟨⟨by decide +kernel, by decide +kernel⟩, List.mem_of_getElem? (i := 255) (by decide +kernel), List.mem_of_getElem? (i := 353) (by decide +kernel), List.mem_of_getElem? (i := 354) (by decide +kernel)⟩
theorem lw_p2 : lw_okq (⟨"DeedProofs$RuleReader", "readParts", "()Z"⟩, 5) := ⟨⟨by decide +kernel, by decide +kernel⟩, List.mem_of_getElem? (i := 255) (by decide +kernel), List.mem_of_getElem? (i := 357) (by decide +kernel), List.mem_of_getElem? (i := 358) (by decide +kernel)⟩
theorem lw_p3 : lw_okq (⟨"DeedProofs$RuleReader", "readPart", "()Z"⟩, 5) := ⟨⟨by decide +kernel, by decide +kernel⟩, List.mem_of_getElem? (i := 255) (by decide +kernel), List.mem_of_getElem? (i := 361) (by decide +kernel), List.mem_of_getElem? (i := 362) (by decide +kernel)⟩
theorem lw_p4 : lw_okq (⟨"DeedProofs$RuleReader", "placeIn", "(Ljava/lang/String;)I"⟩, 5) := ⟨⟨by decide +kernel, by decide +kernel⟩, List.mem_of_getElem? (i := 255) (by decide +kernel), List.mem_of_getElem? (i := 366) (by decide +kernel), List.mem_of_getElem? (i := 367) (by decide +kernel)⟩
theorem lw_p5 : lw_okq (⟨"DeedProofs$RuleReader", "readTerm", "(I)Z"⟩, 5) := ⟨⟨by decide +kernel, by decide +kernel⟩, List.mem_of_getElem? (i := 255) (by decide +kernel), List.mem_of_getElem? (i := 418) (by decide +kernel), List.mem_of_getElem? (i := 419) (by decide +kernel)⟩
theorem lw_p6 : lw_okq (⟨"DeedProofs$RuleReader", "skip", "(C)Z"⟩, 5) := ⟨⟨by decide +kernel, by decide +kernel⟩, List.mem_of_getElem? (i := 255) (by decide +kernel), List.mem_of_getElem? (i := 422) (by decide +kernel), List.mem_of_getElem? (i := 423) (by decide +kernel)⟩
theorem lw_p7 : lw_okq (⟨"DeedProofs$RuleReader", "readArg", "(Z)I"⟩, 5) := ⟨⟨by decide +kernel, by decide +kernel⟩, List.mem_of_getElem? (i := 255) (by decide +kernel), List.mem_of_getElem? (i := 426) (by decide +kernel), List.mem_of_getElem? (i := 427) (by decide +kernel)⟩
theorem lw_p8 : lw_okq (⟨"DeedProofs$RuleReader", "readTest", "(I)Z"⟩, 5) := ⟨⟨by decide +kernel, by decide +kernel⟩, List.mem_of_getElem? (i := 255) (by decide +kernel), List.mem_of_getElem? (i := 431) (by decide +kernel), List.mem_of_getElem? (i := 432) (by decide +kernel)⟩
theorem lw_p9 : lw_okq (⟨"DeedProofs$Book", "has", "(II)Z"⟩, 18) := ⟨⟨by decide +kernel, by decide +kernel⟩, List.mem_of_getElem? (i := 31) (by decide +kernel), List.mem_of_getElem? (i := 440) (by decide +kernel), List.mem_of_getElem? (i := 441) (by decide +kernel)⟩
theorem lw_p10 : lw_okq (⟨"DeedProofs$Book", "changeOn", "(II)I"⟩, 18) := ⟨⟨by decide +kernel, by decide +kernel⟩, List.mem_of_getElem? (i := 31) (by decide +kernel), List.mem_of_getElem? (i := 451) (by decide +kernel), List.mem_of_getElem? (i := 452) (by decide +kernel)⟩
theorem lw_p11 : lw_okq (⟨"DeedProofs$Book", "textOn", "(II)LDeedProofs$Text;"⟩, 18) := ⟨⟨by decide +kernel, by decide +kernel⟩, List.mem_of_getElem? (i := 31) (by decide +kernel), List.mem_of_getElem? (i := 455) (by decide +kernel), List.mem_of_getElem? (i := 456) (by decide +kernel)⟩
theorem lw_p12 : lw_okq (⟨"DeedProofs$Book", "isTrue", "(I)Z"⟩, 18) := ⟨⟨by decide +kernel, by decide +kernel⟩, List.mem_of_getElem? (i := 31) (by decide +kernel), List.mem_of_getElem? (i := 474) (by decide +kernel), List.mem_of_getElem? (i := 475) (by decide +kernel)⟩
theorem lw_p13 : lw_okq (⟨"DeedProofs$Reach", "spread", "(IIZ)V"⟩, 8) := ⟨⟨by decide +kernel, by decide +kernel⟩, List.mem_of_getElem? (i := 190) (by decide +kernel), List.mem_of_getElem? (i := 487) (by decide +kernel), List.mem_of_getElem? (i := 488) (by decide +kernel)⟩
theorem lw_p14 : lw_okq (⟨"DeedProofs$Reach", "begin", "(IZ)V"⟩, 8) := ⟨⟨by decide +kernel, by decide +kernel⟩, List.mem_of_getElem? (i := 190) (by decide +kernel), List.mem_of_getElem? (i := 491) (by decide +kernel), List.mem_of_getElem? (i := 492) (by decide +kernel)⟩
theorem lw_p15 : lw_okq (⟨"DeedProofs$Reach", "arrive", "(II)V"⟩, 8) := ⟨⟨by decide +kernel, by decide +kernel⟩, List.mem_of_getElem? (i := 190) (by decide +kernel), List.mem_of_getElem? (i := 495) (by decide +kernel), List.mem_of_getElem? (i := 496) (by decide +kernel)⟩
def lw_privs_1 : List (MethodName × Nat) := [(⟨"DeedProofs", "readTape", "(LDeedProofs$Text;)I"⟩, 7), (⟨"DeedProofs$RuleReader", "read", "([BILDeedProofs$Text;)I"⟩, 5), (⟨"DeedProofs$RuleReader", "readParts", "()Z"⟩, 5), (⟨"DeedProofs$RuleReader", "readPart", "()Z"⟩, 5), (⟨"DeedProofs$RuleReader", "placeIn", "(Ljava/lang/String;)I"⟩, 5), (⟨"DeedProofs$RuleReader", "readTerm", "(I)Z"⟩, 5), (⟨"DeedProofs$RuleReader", "skip", "(C)Z"⟩, 5), (⟨"DeedProofs$RuleReader", "readArg", "(Z)I"⟩, 5), (⟨"DeedProofs$RuleReader", "readTest", "(I)Z"⟩, 5), (⟨"DeedProofs$Book", "has", "(II)Z"⟩, 18), (⟨"DeedProofs$Book", "changeOn", "(II)I"⟩, 18), (⟨"DeedProofs$Book", "textOn", "(II)LDeedProofs$Text;"⟩, 18), (⟨"DeedProofs$Book", "isTrue", "(I)Z"⟩, 18), (⟨"DeedProofs$Reach", "spread", "(IIZ)V"⟩, 8), (⟨"DeedProofs$Reach", "begin", "(IZ)V"⟩, 8), (⟨"DeedProofs$Reach", "arrive", "(II)V"⟩, 8)]
theorem lw_r1 : ∀ q ∈ lw_privs_1, lw_okq q := List.forall_mem_cons.mpr ⟨lw_p0, List.forall_mem_cons.mpr ⟨lw_p1, List.forall_mem_cons.mpr ⟨lw_p2, List.forall_mem_cons.mpr ⟨lw_p3, List.forall_mem_cons.mpr ⟨lw_p4, List.forall_mem_cons.mpr ⟨lw_p5, List.forall_mem_cons.mpr ⟨lw_p6, List.forall_mem_cons.mpr ⟨lw_p7, List.forall_mem_cons.mpr ⟨lw_p8, List.forall_mem_cons.mpr ⟨lw_p9, List.forall_mem_cons.mpr ⟨lw_p10, List.forall_mem_cons.mpr ⟨lw_p11, List.forall_mem_cons.mpr ⟨lw_p12, List.forall_mem_cons.mpr ⟨lw_p13, List.forall_mem_cons.mpr ⟨lw_p14, List.forall_mem_cons.mpr ⟨lw_p15, fun _ h => absurd h List.not_mem_nil⟩⟩⟩⟩⟩⟩⟩⟩⟩⟩⟩⟩⟩⟩⟩⟩
theorem lw_p16 : lw_okq (⟨"DeedProofs$Reach", "bringLeast", "(I)V"⟩, 8) := ⟨⟨by decide +kernel, by decide +kernel⟩, List.mem_of_getElem? (i := 190) (by decide +kernel), List.mem_of_getElem? (i := 500) (by decide +kernel), List.mem_of_getElem? (i := 501) (by decide +kernel)⟩
theorem lw_p17 : lw_okq (⟨"DeedProofs$Reach", "useIn", "(LDeedProofs$Text;I)V"⟩, 8) := ⟨⟨by decide +kernel, by decide +kernel⟩, List.mem_of_getElem? (i := 190) (by decide +kernel), List.mem_of_getElem? (i := 504) (by decide +kernel), List.mem_of_getElem? (i := 505) (by decide +kernel)⟩
theorem lw_p18 : lw_okq (⟨"DeedProofs$Reach", "bind", "(LDeedProofs$Text;II)Z"⟩, 8) := ⟨⟨by decide +kernel, by decide +kernel⟩, List.mem_of_getElem? (i := 190) (by decide +kernel), List.mem_of_getElem? (i := 508) (by decide +kernel), List.mem_of_getElem? (i := 509) (by decide +kernel)⟩
theorem lw_p19 : lw_okq (⟨"DeedProofs$Reach", "bindArg", "(II)Z"⟩, 8) := ⟨⟨by decide +kernel, by decide +kernel⟩, List.mem_of_getElem? (i := 190) (by decide +kernel), List.mem_of_getElem? (i := 512) (by decide +kernel), List.mem_of_getElem? (i := 513) (by decide +kernel)⟩
theorem lw_p20 : lw_okq (⟨"DeedProofs$Reach", "complete", "(LDeedProofs$Text;I)V"⟩, 8) := ⟨⟨by decide +kernel, by decide +kernel⟩, List.mem_of_getElem? (i := 190) (by decide +kernel), List.mem_of_getElem? (i := 516) (by decide +kernel), List.mem_of_getElem? (i := 517) (by decide +kernel)⟩
theorem lw_p21 : lw_okq (⟨"DeedProofs$Text", "hasInTerms", "(I)Z"⟩, 5) := ⟨⟨by decide +kernel, by decide +kernel⟩, List.mem_of_getElem? (i := 38) (by decide +kernel), List.mem_of_getElem? (i := 520) (by decide +kernel), List.mem_of_getElem? (i := 521) (by decide +kernel)⟩
theorem lw_p22 : lw_okq (⟨"DeedProofs$Reach", "conclude", "(LDeedProofs$Text;)V"⟩, 8) := ⟨⟨by decide +kernel, by decide +kernel⟩, List.mem_of_getElem? (i := 190) (by decide +kernel), List.mem_of_getElem? (i := 524) (by decide +kernel), List.mem_of_getElem? (i := 525) (by decide +kernel)⟩
theorem lw_p23 : lw_okq (⟨"DeedProofs$Text", "testsHold", "([I)Z"⟩, 5) := ⟨⟨by decide +kernel, by decide +kernel⟩, List.mem_of_getElem? (i := 38) (by decide +kernel), List.mem_of_getElem? (i := 528) (by decide +kernel), List.mem_of_getElem? (i := 529) (by decide +kernel)⟩
theorem lw_p24 : lw_okq (⟨"DeedProofs$Text", "factOf", "(I[I)I"⟩, 5) := ⟨⟨by decide +kernel, by decide +kernel⟩, List.mem_of_getElem? (i := 38) (by decide +kernel), List.mem_of_getElem? (i := 532) (by decide +kernel), List.mem_of_getElem? (i := 533) (by decide +kernel)⟩
theorem lw_p25 : lw_okq (⟨"DeedProofs$Reach", "has", "(I)Z"⟩, 8) := ⟨⟨by decide +kernel, by decide +kernel⟩, List.mem_of_getElem? (i := 190) (by decide +kernel), List.mem_of_getElem? (i := 543) (by decide +kernel), List.mem_of_getElem? (i := 544) (by decide +kernel)⟩
theorem lw_p26 : lw_okq (⟨"DeedProofs$Book", "isTitled", "(I)Z"⟩, 18) := ⟨⟨by decide +kernel, by decide +kernel⟩, List.mem_of_getElem? (i := 31) (by decide +kernel), List.mem_of_getElem? (i := 562) (by decide +kernel), List.mem_of_getElem? (i := 563) (by decide +kernel)⟩
theorem lw_p27 : lw_okq (⟨"DeedProofs$Book", "isUsed", "(I)Z"⟩, 18) := ⟨⟨by decide +kernel, by decide +kernel⟩, List.mem_of_getElem? (i := 31) (by decide +kernel), List.mem_of_getElem? (i := 566) (by decide +kernel), List.mem_of_getElem? (i := 567) (by decide +kernel)⟩
theorem lw_p28 : lw_okq (⟨"DeedProofs$Book", "takesEnds", "(I)Z"⟩, 18) := ⟨⟨by decide +kernel, by decide +kernel⟩, List.mem_of_getElem? (i := 31) (by decide +kernel), List.mem_of_getElem? (i := 570) (by decide +kernel), List.mem_of_getElem? (i := 571) (by decide +kernel)⟩
theorem lw_p29 : lw_okq (⟨"DeedProofs$Book", "countSources", "(II)I"⟩, 18) := ⟨⟨by decide +kernel, by decide +kernel⟩, List.mem_of_getElem? (i := 31) (by decide +kernel), List.mem_of_getElem? (i := 574) (by decide +kernel), List.mem_of_getElem? (i := 575) (by decide +kernel)⟩
theorem lw_p30 : lw_okq (⟨"DeedProofs$Book", "rowOf", "(II)I"⟩, 18) := ⟨⟨by decide +kernel, by decide +kernel⟩, List.mem_of_getElem? (i := 31) (by decide +kernel), List.mem_of_getElem? (i := 578) (by decide +kernel), List.mem_of_getElem? (i := 579) (by decide +kernel)⟩
theorem lw_p31 : lw_okq (⟨"DeedProofs$Book", "hasStep", "(II)Z"⟩, 18) := ⟨⟨by decide +kernel, by decide +kernel⟩, List.mem_of_getElem? (i := 31) (by decide +kernel), List.mem_of_getElem? (i := 587) (by decide +kernel), List.mem_of_getElem? (i := 588) (by decide +kernel)⟩
def lw_privs_2 : List (MethodName × Nat) := [(⟨"DeedProofs$Reach", "bringLeast", "(I)V"⟩, 8), (⟨"DeedProofs$Reach", "useIn", "(LDeedProofs$Text;I)V"⟩, 8), (⟨"DeedProofs$Reach", "bind", "(LDeedProofs$Text;II)Z"⟩, 8), (⟨"DeedProofs$Reach", "bindArg", "(II)Z"⟩, 8), (⟨"DeedProofs$Reach", "complete", "(LDeedProofs$Text;I)V"⟩, 8), (⟨"DeedProofs$Text", "hasInTerms", "(I)Z"⟩, 5), (⟨"DeedProofs$Reach", "conclude", "(LDeedProofs$Text;)V"⟩, 8), (⟨"DeedProofs$Text", "testsHold", "([I)Z"⟩, 5), (⟨"DeedProofs$Text", "factOf", "(I[I)I"⟩, 5), (⟨"DeedProofs$Reach", "has", "(I)Z"⟩, 8), (⟨"DeedProofs$Book", "isTitled", "(I)Z"⟩, 18), (⟨"DeedProofs$Book", "isUsed", "(I)Z"⟩, 18), (⟨"DeedProofs$Book", "takesEnds", "(I)Z"⟩, 18), (⟨"DeedProofs$Book", "countSources", "(II)I"⟩, 18), (⟨"DeedProofs$Book", "rowOf", "(II)I"⟩, 18), (⟨"DeedProofs$Book", "hasStep", "(II)Z"⟩, 18)]
theorem lw_r2 : ∀ q ∈ lw_privs_2, lw_okq q := List.forall_mem_cons.mpr ⟨lw_p16, List.forall_mem_cons.mpr ⟨lw_p17, List.forall_mem_cons.mpr ⟨lw_p18, List.forall_mem_cons.mpr ⟨lw_p19, List.forall_mem_cons.mpr ⟨lw_p20, List.forall_mem_cons.mpr ⟨lw_p21, List.forall_mem_cons.mpr ⟨lw_p22, List.forall_mem_cons.mpr ⟨lw_p23, List.forall_mem_cons.mpr ⟨lw_p24, List.forall_mem_cons.mpr ⟨lw_p25, List.forall_mem_cons.mpr ⟨lw_p26, List.forall_mem_cons.mpr ⟨lw_p27, List.forall_mem_cons.mpr ⟨lw_p28, List.forall_mem_cons.mpr ⟨lw_p29, List.forall_mem_cons.mpr ⟨lw_p30, List.forall_mem_cons.mpr ⟨lw_p31, fun _ h => absurd h List.not_mem_nil⟩⟩⟩⟩⟩⟩⟩⟩⟩⟩⟩⟩⟩⟩⟩⟩
theorem lw_p32 : lw_okq (⟨"DeedProofs$Judge", "weigh", "(III)V"⟩, 7) := ⟨⟨by decide +kernel, by decide +kernel⟩, List.mem_of_getElem? (i := 157) (by decide +kernel), List.mem_of_getElem? (i := 591) (by decide +kernel), List.mem_of_getElem? (i := 592) (by decide +kernel)⟩
theorem lw_p33 : lw_okq (⟨"DeedProofs$Judge", "factOfStep", "(III)I"⟩, 7) := ⟨⟨by decide +kernel, by decide +kernel⟩, List.mem_of_getElem? (i := 157) (by decide +kernel), List.mem_of_getElem? (i := 595) (by decide +kernel), List.mem_of_getElem? (i := 596) (by decide +kernel)⟩
theorem lw_p34 : lw_okq (⟨"DeedProofs$Judge", "lackOf", "(III)I"⟩, 7) := ⟨⟨by decide +kernel, by decide +kernel⟩, List.mem_of_getElem? (i := 157) (by decide +kernel), List.mem_of_getElem? (i := 605) (by decide +kernel), List.mem_of_getElem? (i := 606) (by decide +kernel)⟩
theorem lw_p35 : lw_okq (⟨"DeedProofs$Judge", "gives", "(IIII)Z"⟩, 7) := ⟨⟨by decide +kernel, by decide +kernel⟩, List.mem_of_getElem? (i := 157) (by decide +kernel), List.mem_of_getElem? (i := 610) (by decide +kernel), List.mem_of_getElem? (i := 611) (by decide +kernel)⟩
theorem lw_p36 : lw_okq (⟨"DeedProofs$Book", "endIn", "(II)I"⟩, 18) := ⟨⟨by decide +kernel, by decide +kernel⟩, List.mem_of_getElem? (i := 31) (by decide +kernel), List.mem_of_getElem? (i := 615) (by decide +kernel), List.mem_of_getElem? (i := 616) (by decide +kernel)⟩
theorem lw_p37 : lw_okq (⟨"DeedProofs$Book", "takesHoles", "(I)Z"⟩, 18) := ⟨⟨by decide +kernel, by decide +kernel⟩, List.mem_of_getElem? (i := 31) (by decide +kernel), List.mem_of_getElem? (i := 619) (by decide +kernel), List.mem_of_getElem? (i := 620) (by decide +kernel)⟩
theorem lw_p38 : lw_okq (⟨"DeedProofs$Book", "holesOf", "(I)I"⟩, 18) := ⟨⟨by decide +kernel, by decide +kernel⟩, List.mem_of_getElem? (i := 31) (by decide +kernel), List.mem_of_getElem? (i := 623) (by decide +kernel), List.mem_of_getElem? (i := 624) (by decide +kernel)⟩
theorem lw_p39 : lw_okq (⟨"DeedProofs$Judge", "papersUnder", "(I)I"⟩, 7) := ⟨⟨by decide +kernel, by decide +kernel⟩, List.mem_of_getElem? (i := 157) (by decide +kernel), List.mem_of_getElem? (i := 641) (by decide +kernel), List.mem_of_getElem? (i := 642) (by decide +kernel)⟩
theorem lw_p40 : lw_okq (⟨"DeedProofs$Judge", "papersUnderStep", "(II)I"⟩, 7) := ⟨⟨by decide +kernel, by decide +kernel⟩, List.mem_of_getElem? (i := 157) (by decide +kernel), List.mem_of_getElem? (i := 645) (by decide +kernel), List.mem_of_getElem? (i := 646) (by decide +kernel)⟩
theorem lw_p41 : lw_okq (⟨"DeedProofs$Book", "placeOfHole", "(II)I"⟩, 18) := ⟨⟨by decide +kernel, by decide +kernel⟩, List.mem_of_getElem? (i := 31) (by decide +kernel), List.mem_of_getElem? (i := 654) (by decide +kernel), List.mem_of_getElem? (i := 655) (by decide +kernel)⟩
theorem lw_p42 : lw_okq (⟨"DeedProofs$Judge", "saidBy", "(III)I"⟩, 7) := ⟨⟨by decide +kernel, by decide +kernel⟩, List.mem_of_getElem? (i := 157) (by decide +kernel), List.mem_of_getElem? (i := 662) (by decide +kernel), List.mem_of_getElem? (i := 663) (by decide +kernel)⟩
theorem lw_p43 : lw_okq (⟨"DeedProofs$Judge", "factOfTerm", "(III)I"⟩, 7) := ⟨⟨by decide +kernel, by decide +kernel⟩, List.mem_of_getElem? (i := 157) (by decide +kernel), List.mem_of_getElem? (i := 667) (by decide +kernel), List.mem_of_getElem? (i := 668) (by decide +kernel)⟩
theorem lw_p44 : lw_okq (⟨"DeedProofs$Book", "isTitleOf", "(I)Z"⟩, 18) := ⟨⟨by decide +kernel, by decide +kernel⟩, List.mem_of_getElem? (i := 31) (by decide +kernel), List.mem_of_getElem? (i := 737) (by decide +kernel), List.mem_of_getElem? (i := 738) (by decide +kernel)⟩
theorem lw_p45 : lw_okq (⟨"DeedProofs", "standsByProof", "(II)Z"⟩, 7) := ⟨⟨by decide +kernel, by decide +kernel⟩, List.mem_of_getElem? (i := 23) (by decide +kernel), List.mem_of_getElem? (i := 745) (by decide +kernel), List.mem_of_getElem? (i := 746) (by decide +kernel)⟩
theorem lw_p46 : lw_okq (⟨"DeedProofs", "standingToday", "(I)I"⟩, 7) := ⟨⟨by decide +kernel, by decide +kernel⟩, List.mem_of_getElem? (i := 23) (by decide +kernel), List.mem_of_getElem? (i := 753) (by decide +kernel), List.mem_of_getElem? (i := 754) (by decide +kernel)⟩
theorem lw_p47 : lw_okq (⟨"DeedProofs", "followsToday", "(II)Z"⟩, 7) := ⟨⟨by decide +kernel, by decide +kernel⟩, List.mem_of_getElem? (i := 23) (by decide +kernel), List.mem_of_getElem? (i := 769) (by decide +kernel), List.mem_of_getElem? (i := 770) (by decide +kernel)⟩
def lw_privs_3 : List (MethodName × Nat) := [(⟨"DeedProofs$Judge", "weigh", "(III)V"⟩, 7), (⟨"DeedProofs$Judge", "factOfStep", "(III)I"⟩, 7), (⟨"DeedProofs$Judge", "lackOf", "(III)I"⟩, 7), (⟨"DeedProofs$Judge", "gives", "(IIII)Z"⟩, 7), (⟨"DeedProofs$Book", "endIn", "(II)I"⟩, 18), (⟨"DeedProofs$Book", "takesHoles", "(I)Z"⟩, 18), (⟨"DeedProofs$Book", "holesOf", "(I)I"⟩, 18), (⟨"DeedProofs$Judge", "papersUnder", "(I)I"⟩, 7), (⟨"DeedProofs$Judge", "papersUnderStep", "(II)I"⟩, 7), (⟨"DeedProofs$Book", "placeOfHole", "(II)I"⟩, 18), (⟨"DeedProofs$Judge", "saidBy", "(III)I"⟩, 7), (⟨"DeedProofs$Judge", "factOfTerm", "(III)I"⟩, 7), (⟨"DeedProofs$Book", "isTitleOf", "(I)Z"⟩, 18), (⟨"DeedProofs", "standsByProof", "(II)Z"⟩, 7), (⟨"DeedProofs", "standingToday", "(I)I"⟩, 7), (⟨"DeedProofs", "followsToday", "(II)Z"⟩, 7)]
theorem lw_r3 : ∀ q ∈ lw_privs_3, lw_okq q := List.forall_mem_cons.mpr ⟨lw_p32, List.forall_mem_cons.mpr ⟨lw_p33, List.forall_mem_cons.mpr ⟨lw_p34, List.forall_mem_cons.mpr ⟨lw_p35, List.forall_mem_cons.mpr ⟨lw_p36, List.forall_mem_cons.mpr ⟨lw_p37, List.forall_mem_cons.mpr ⟨lw_p38, List.forall_mem_cons.mpr ⟨lw_p39, List.forall_mem_cons.mpr ⟨lw_p40, List.forall_mem_cons.mpr ⟨lw_p41, List.forall_mem_cons.mpr ⟨lw_p42, List.forall_mem_cons.mpr ⟨lw_p43, List.forall_mem_cons.mpr ⟨lw_p44, List.forall_mem_cons.mpr ⟨lw_p45, List.forall_mem_cons.mpr ⟨lw_p46, List.forall_mem_cons.mpr ⟨lw_p47, fun _ h => absurd h List.not_mem_nil⟩⟩⟩⟩⟩⟩⟩⟩⟩⟩⟩⟩⟩⟩⟩⟩
theorem lw_p48 : lw_okq (⟨"DeedProofs", "fewest", "(III)I"⟩, 7) := ⟨⟨by decide +kernel, by decide +kernel⟩, List.mem_of_getElem? (i := 23) (by decide +kernel), List.mem_of_getElem? (i := 783) (by decide +kernel), List.mem_of_getElem? (i := 784) (by decide +kernel)⟩
theorem lw_p49 : lw_okq (⟨"DeedProofs$Tactician", "play", "(II)V"⟩, 6) := ⟨⟨by decide +kernel, by decide +kernel⟩, List.mem_of_getElem? (i := 229) (by decide +kernel), List.mem_of_getElem? (i := 805) (by decide +kernel), List.mem_of_getElem? (i := 806) (by decide +kernel)⟩
theorem lw_p50 : lw_okq (⟨"DeedProofs$Reach", "settleFrom", "(I)V"⟩, 8) := ⟨⟨by decide +kernel, by decide +kernel⟩, List.mem_of_getElem? (i := 190) (by decide +kernel), List.mem_of_getElem? (i := 810) (by decide +kernel), List.mem_of_getElem? (i := 811) (by decide +kernel)⟩
theorem lw_p51 : lw_okq (⟨"DeedProofs$Tactician", "playPieces", "(II)V"⟩, 6) := ⟨⟨by decide +kernel, by decide +kernel⟩, List.mem_of_getElem? (i := 229) (by decide +kernel), List.mem_of_getElem? (i := 814) (by decide +kernel), List.mem_of_getElem? (i := 815) (by decide +kernel)⟩
theorem lw_p52 : lw_okq (⟨"DeedProofs$Tactician", "endOfTry", "(I)I"⟩, 6) := ⟨⟨by decide +kernel, by decide +kernel⟩, List.mem_of_getElem? (i := 229) (by decide +kernel), List.mem_of_getElem? (i := 818) (by decide +kernel), List.mem_of_getElem? (i := 819) (by decide +kernel)⟩
theorem lw_p53 : lw_okq (⟨"DeedProofs$Tactician", "signAt", "(I)I"⟩, 6) := ⟨⟨by decide +kernel, by decide +kernel⟩, List.mem_of_getElem? (i := 229) (by decide +kernel), List.mem_of_getElem? (i := 822) (by decide +kernel), List.mem_of_getElem? (i := 823) (by decide +kernel)⟩
theorem lw_p54 : lw_okq (⟨"DeedProofs$Tactician", "playTry", "(III)Z"⟩, 6) := ⟨⟨by decide +kernel, by decide +kernel⟩, List.mem_of_getElem? (i := 229) (by decide +kernel), List.mem_of_getElem? (i := 826) (by decide +kernel), List.mem_of_getElem? (i := 827) (by decide +kernel)⟩
theorem lw_p55 : lw_okq (⟨"DeedProofs$Reach", "useOnce", "(LDeedProofs$Text;)V"⟩, 8) := ⟨⟨by decide +kernel, by decide +kernel⟩, List.mem_of_getElem? (i := 190) (by decide +kernel), List.mem_of_getElem? (i := 832) (by decide +kernel), List.mem_of_getElem? (i := 833) (by decide +kernel)⟩
theorem lw_p56 : lw_okq (⟨"DeedProofs$Book", "become", "(LDeedProofs$Book;)V"⟩, 18) := ⟨⟨by decide +kernel, by decide +kernel⟩, List.mem_of_getElem? (i := 31) (by decide +kernel), List.mem_of_getElem? (i := 845) (by decide +kernel), List.mem_of_getElem? (i := 846) (by decide +kernel)⟩
theorem lw_p57 : lw_okq (⟨"DeedProofs$Text", "become", "(LDeedProofs$Text;)V"⟩, 5) := ⟨⟨by decide +kernel, by decide +kernel⟩, List.mem_of_getElem? (i := 38) (by decide +kernel), List.mem_of_getElem? (i := 850) (by decide +kernel), List.mem_of_getElem? (i := 851) (by decide +kernel)⟩
theorem lw_p58 : lw_okq (⟨"DeedProofsModel", "reads", "()I"⟩, 15) := ⟨⟨by decide +kernel, by decide +kernel⟩, List.mem_of_getElem? (i := 863) (by decide +kernel), List.mem_of_getElem? (i := 931) (by decide +kernel), List.mem_of_getElem? (i := 932) (by decide +kernel)⟩
theorem lw_p59 : lw_okq (⟨"DeedProofsModel", "part", "(I)V"⟩, 15) := ⟨⟨by decide +kernel, by decide +kernel⟩, List.mem_of_getElem? (i := 863) (by decide +kernel), List.mem_of_getElem? (i := 935) (by decide +kernel), List.mem_of_getElem? (i := 936) (by decide +kernel)⟩
theorem lw_p60 : lw_okq (⟨"DeedProofsModel", "here", "()I"⟩, 15) := ⟨⟨by decide +kernel, by decide +kernel⟩, List.mem_of_getElem? (i := 863) (by decide +kernel), List.mem_of_getElem? (i := 939) (by decide +kernel), List.mem_of_getElem? (i := 940) (by decide +kernel)⟩
theorem lw_p61 : lw_okq (⟨"DeedProofsModel", "term", "(I)V"⟩, 15) := ⟨⟨by decide +kernel, by decide +kernel⟩, List.mem_of_getElem? (i := 863) (by decide +kernel), List.mem_of_getElem? (i := 946) (by decide +kernel), List.mem_of_getElem? (i := 947) (by decide +kernel)⟩
theorem lw_p62 : lw_okq (⟨"DeedProofsModel", "eats", "(I)V"⟩, 15) := ⟨⟨by decide +kernel, by decide +kernel⟩, List.mem_of_getElem? (i := 863) (by decide +kernel), List.mem_of_getElem? (i := 950) (by decide +kernel), List.mem_of_getElem? (i := 951) (by decide +kernel)⟩
theorem lw_p63 : lw_okq (⟨"DeedProofsModel", "argument", "()I"⟩, 15) := ⟨⟨by decide +kernel, by decide +kernel⟩, List.mem_of_getElem? (i := 863) (by decide +kernel), List.mem_of_getElem? (i := 954) (by decide +kernel), List.mem_of_getElem? (i := 955) (by decide +kernel)⟩
def lw_privs_4 : List (MethodName × Nat) := [(⟨"DeedProofs", "fewest", "(III)I"⟩, 7), (⟨"DeedProofs$Tactician", "play", "(II)V"⟩, 6), (⟨"DeedProofs$Reach", "settleFrom", "(I)V"⟩, 8), (⟨"DeedProofs$Tactician", "playPieces", "(II)V"⟩, 6), (⟨"DeedProofs$Tactician", "endOfTry", "(I)I"⟩, 6), (⟨"DeedProofs$Tactician", "signAt", "(I)I"⟩, 6), (⟨"DeedProofs$Tactician", "playTry", "(III)Z"⟩, 6), (⟨"DeedProofs$Reach", "useOnce", "(LDeedProofs$Text;)V"⟩, 8), (⟨"DeedProofs$Book", "become", "(LDeedProofs$Book;)V"⟩, 18), (⟨"DeedProofs$Text", "become", "(LDeedProofs$Text;)V"⟩, 5), (⟨"DeedProofsModel", "reads", "()I"⟩, 15), (⟨"DeedProofsModel", "part", "(I)V"⟩, 15), (⟨"DeedProofsModel", "here", "()I"⟩, 15), (⟨"DeedProofsModel", "term", "(I)V"⟩, 15), (⟨"DeedProofsModel", "eats", "(I)V"⟩, 15), (⟨"DeedProofsModel", "argument", "()I"⟩, 15)]
theorem lw_r4 : ∀ q ∈ lw_privs_4, lw_okq q := List.forall_mem_cons.mpr ⟨lw_p48, List.forall_mem_cons.mpr ⟨lw_p49, List.forall_mem_cons.mpr ⟨lw_p50, List.forall_mem_cons.mpr ⟨lw_p51, List.forall_mem_cons.mpr ⟨lw_p52, List.forall_mem_cons.mpr ⟨lw_p53, List.forall_mem_cons.mpr ⟨lw_p54, List.forall_mem_cons.mpr ⟨lw_p55, List.forall_mem_cons.mpr ⟨lw_p56, List.forall_mem_cons.mpr ⟨lw_p57, List.forall_mem_cons.mpr ⟨lw_p58, List.forall_mem_cons.mpr ⟨lw_p59, List.forall_mem_cons.mpr ⟨lw_p60, List.forall_mem_cons.mpr ⟨lw_p61, List.forall_mem_cons.mpr ⟨lw_p62, List.forall_mem_cons.mpr ⟨lw_p63, fun _ h => absurd h List.not_mem_nil⟩⟩⟩⟩⟩⟩⟩⟩⟩⟩⟩⟩⟩⟩⟩⟩
theorem lw_p64 : lw_okq (⟨"DeedProofsModel", "test", "(I)V"⟩, 15) := ⟨⟨by decide +kernel, by decide +kernel⟩, List.mem_of_getElem? (i := 863) (by decide +kernel), List.mem_of_getElem? (i := 958) (by decide +kernel), List.mem_of_getElem? (i := 959) (by decide +kernel)⟩
theorem lw_p65 : lw_okq (⟨"DeedProofsModel", "lettersIn", "(II)I"⟩, 15) := ⟨⟨by decide +kernel, by decide +kernel⟩, List.mem_of_getElem? (i := 863) (by decide +kernel), List.mem_of_getElem? (i := 962) (by decide +kernel), List.mem_of_getElem? (i := 963) (by decide +kernel)⟩
theorem lw_p66 : lw_okq (⟨"DeedProofsModel", "termLetters", "(I)I"⟩, 15) := ⟨⟨by decide +kernel, by decide +kernel⟩, List.mem_of_getElem? (i := 863) (by decide +kernel), List.mem_of_getElem? (i := 966) (by decide +kernel), List.mem_of_getElem? (i := 967) (by decide +kernel)⟩
theorem lw_p67 : lw_okq (⟨"DeedProofsModel", "isRule", "(I)Z"⟩, 15) := ⟨⟨by decide +kernel, by decide +kernel⟩, List.mem_of_getElem? (i := 863) (by decide +kernel), List.mem_of_getElem? (i := 974) (by decide +kernel), List.mem_of_getElem? (i := 975) (by decide +kernel)⟩
theorem lw_p68 : lw_okq (⟨"DeedProofsModel", "changeOn", "(II)I"⟩, 15) := ⟨⟨by decide +kernel, by decide +kernel⟩, List.mem_of_getElem? (i := 863) (by decide +kernel), List.mem_of_getElem? (i := 985) (by decide +kernel), List.mem_of_getElem? (i := 986) (by decide +kernel)⟩
theorem lw_p69 : lw_okq (⟨"DeedProofsModel", "textOn", "(II)I"⟩, 15) := ⟨⟨by decide +kernel, by decide +kernel⟩, List.mem_of_getElem? (i := 863) (by decide +kernel), List.mem_of_getElem? (i := 989) (by decide +kernel), List.mem_of_getElem? (i := 990) (by decide +kernel)⟩
theorem lw_p70 : lw_okq (⟨"DeedProofsModel", "isPaper", "(I)Z"⟩, 15) := ⟨⟨by decide +kernel, by decide +kernel⟩, List.mem_of_getElem? (i := 863) (by decide +kernel), List.mem_of_getElem? (i := 1004) (by decide +kernel), List.mem_of_getElem? (i := 1005) (by decide +kernel)⟩
theorem lw_p71 : lw_okq (⟨"DeedProofsModel", "works", "(I)V"⟩, 15) := ⟨⟨by decide +kernel, by decide +kernel⟩, List.mem_of_getElem? (i := 863) (by decide +kernel), List.mem_of_getElem? (i := 1016) (by decide +kernel), List.mem_of_getElem? (i := 1017) (by decide +kernel)⟩
theorem lw_p72 : lw_okq (⟨"DeedProofsModel", "begins", "()V"⟩, 15) := ⟨⟨by decide +kernel, by decide +kernel⟩, List.mem_of_getElem? (i := 863) (by decide +kernel), List.mem_of_getElem? (i := 1020) (by decide +kernel), List.mem_of_getElem? (i := 1021) (by decide +kernel)⟩
theorem lw_p73 : lw_okq (⟨"DeedProofsModel", "sets", "(I)V"⟩, 15) := ⟨⟨by decide +kernel, by decide +kernel⟩, List.mem_of_getElem? (i := 863) (by decide +kernel), List.mem_of_getElem? (i := 1025) (by decide +kernel), List.mem_of_getElem? (i := 1026) (by decide +kernel)⟩
theorem lw_p74 : lw_okq (⟨"DeedProofsModel", "isPlain", "(I)Z"⟩, 15) := ⟨⟨by decide +kernel, by decide +kernel⟩, List.mem_of_getElem? (i := 863) (by decide +kernel), List.mem_of_getElem? (i := 1029) (by decide +kernel), List.mem_of_getElem? (i := 1030) (by decide +kernel)⟩
theorem lw_p75 : lw_okq (⟨"DeedProofsModel", "areBelow", "(II)Z"⟩, 15) := ⟨⟨by decide +kernel, by decide +kernel⟩, List.mem_of_getElem? (i := 863) (by decide +kernel), List.mem_of_getElem? (i := 1033) (by decide +kernel), List.mem_of_getElem? (i := 1034) (by decide +kernel)⟩
theorem lw_p76 : lw_okq (⟨"DeedProofsModel", "factAt", "(I)I"⟩, 15) := ⟨⟨by decide +kernel, by decide +kernel⟩, List.mem_of_getElem? (i := 863) (by decide +kernel), List.mem_of_getElem? (i := 1037) (by decide +kernel), List.mem_of_getElem? (i := 1038) (by decide +kernel)⟩
theorem lw_p77 : lw_okq (⟨"DeedProofsModel", "value", "(I)I"⟩, 15) := ⟨⟨by decide +kernel, by decide +kernel⟩, List.mem_of_getElem? (i := 863) (by decide +kernel), List.mem_of_getElem? (i := 1041) (by decide +kernel), List.mem_of_getElem? (i := 1042) (by decide +kernel)⟩
theorem lw_p78 : lw_okq (⟨"DeedProofsModel", "testsHold", "(I)Z"⟩, 15) := ⟨⟨by decide +kernel, by decide +kernel⟩, List.mem_of_getElem? (i := 863) (by decide +kernel), List.mem_of_getElem? (i := 1045) (by decide +kernel), List.mem_of_getElem? (i := 1046) (by decide +kernel)⟩
theorem lw_p79 : lw_okq (⟨"DeedProofsModel", "sizes", "(I)V"⟩, 15) := ⟨⟨by decide +kernel, by decide +kernel⟩, List.mem_of_getElem? (i := 863) (by decide +kernel), List.mem_of_getElem? (i := 1049) (by decide +kernel), List.mem_of_getElem? (i := 1050) (by decide +kernel)⟩
def lw_privs_5 : List (MethodName × Nat) := [(⟨"DeedProofsModel", "test", "(I)V"⟩, 15), (⟨"DeedProofsModel", "lettersIn", "(II)I"⟩, 15), (⟨"DeedProofsModel", "termLetters", "(I)I"⟩, 15), (⟨"DeedProofsModel", "isRule", "(I)Z"⟩, 15), (⟨"DeedProofsModel", "changeOn", "(II)I"⟩, 15), (⟨"DeedProofsModel", "textOn", "(II)I"⟩, 15), (⟨"DeedProofsModel", "isPaper", "(I)Z"⟩, 15), (⟨"DeedProofsModel", "works", "(I)V"⟩, 15), (⟨"DeedProofsModel", "begins", "()V"⟩, 15), (⟨"DeedProofsModel", "sets", "(I)V"⟩, 15), (⟨"DeedProofsModel", "isPlain", "(I)Z"⟩, 15), (⟨"DeedProofsModel", "areBelow", "(II)Z"⟩, 15), (⟨"DeedProofsModel", "factAt", "(I)I"⟩, 15), (⟨"DeedProofsModel", "value", "(I)I"⟩, 15), (⟨"DeedProofsModel", "testsHold", "(I)Z"⟩, 15), (⟨"DeedProofsModel", "sizes", "(I)V"⟩, 15)]
theorem lw_r5 : ∀ q ∈ lw_privs_5, lw_okq q := List.forall_mem_cons.mpr ⟨lw_p64, List.forall_mem_cons.mpr ⟨lw_p65, List.forall_mem_cons.mpr ⟨lw_p66, List.forall_mem_cons.mpr ⟨lw_p67, List.forall_mem_cons.mpr ⟨lw_p68, List.forall_mem_cons.mpr ⟨lw_p69, List.forall_mem_cons.mpr ⟨lw_p70, List.forall_mem_cons.mpr ⟨lw_p71, List.forall_mem_cons.mpr ⟨lw_p72, List.forall_mem_cons.mpr ⟨lw_p73, List.forall_mem_cons.mpr ⟨lw_p74, List.forall_mem_cons.mpr ⟨lw_p75, List.forall_mem_cons.mpr ⟨lw_p76, List.forall_mem_cons.mpr ⟨lw_p77, List.forall_mem_cons.mpr ⟨lw_p78, List.forall_mem_cons.mpr ⟨lw_p79, fun _ h => absurd h List.not_mem_nil⟩⟩⟩⟩⟩⟩⟩⟩⟩⟩⟩⟩⟩⟩⟩⟩
theorem lw_p80 : lw_okq (⟨"DeedProofsModel", "isProof", "(I)Z"⟩, 15) := ⟨⟨by decide +kernel, by decide +kernel⟩, List.mem_of_getElem? (i := 863) (by decide +kernel), List.mem_of_getElem? (i := 1065) (by decide +kernel), List.mem_of_getElem? (i := 1066) (by decide +kernel)⟩
theorem lw_p81 : lw_okq (⟨"DeedProofsModel", "isUsed", "(I)Z"⟩, 15) := ⟨⟨by decide +kernel, by decide +kernel⟩, List.mem_of_getElem? (i := 863) (by decide +kernel), List.mem_of_getElem? (i := 1069) (by decide +kernel), List.mem_of_getElem? (i := 1070) (by decide +kernel)⟩
theorem lw_p82 : lw_okq (⟨"DeedProofsModel", "usesEnds", "(I)Z"⟩, 15) := ⟨⟨by decide +kernel, by decide +kernel⟩, List.mem_of_getElem? (i := 863) (by decide +kernel), List.mem_of_getElem? (i := 1073) (by decide +kernel), List.mem_of_getElem? (i := 1074) (by decide +kernel)⟩
theorem lw_p83 : lw_okq (⟨"DeedProofsModel", "isStep", "(II)Z"⟩, 15) := ⟨⟨by decide +kernel, by decide +kernel⟩, List.mem_of_getElem? (i := 863) (by decide +kernel), List.mem_of_getElem? (i := 1084) (by decide +kernel), List.mem_of_getElem? (i := 1085) (by decide +kernel)⟩
theorem lw_p84 : lw_okq (⟨"DeedProofsModel", "lacksOn", "(III)I"⟩, 15) := ⟨⟨by decide +kernel, by decide +kernel⟩, List.mem_of_getElem? (i := 863) (by decide +kernel), List.mem_of_getElem? (i := 1088) (by decide +kernel), List.mem_of_getElem? (i := 1089) (by decide +kernel)⟩
theorem lw_p85 : lw_okq (⟨"DeedProofsModel", "isFrom", "(IIII)Z"⟩, 15) := ⟨⟨by decide +kernel, by decide +kernel⟩, List.mem_of_getElem? (i := 863) (by decide +kernel), List.mem_of_getElem? (i := 1092) (by decide +kernel), List.mem_of_getElem? (i := 1093) (by decide +kernel)⟩
theorem lw_p86 : lw_okq (⟨"DeedProofsModel", "termOn", "(IIII)I"⟩, 15) := ⟨⟨by decide +kernel, by decide +kernel⟩, List.mem_of_getElem? (i := 863) (by decide +kernel), List.mem_of_getElem? (i := 1096) (by decide +kernel), List.mem_of_getElem? (i := 1097) (by decide +kernel)⟩
theorem lw_p87 : lw_okq (⟨"DeedProofsModel", "saysOn", "(III)I"⟩, 15) := ⟨⟨by decide +kernel, by decide +kernel⟩, List.mem_of_getElem? (i := 863) (by decide +kernel), List.mem_of_getElem? (i := 1100) (by decide +kernel), List.mem_of_getElem? (i := 1101) (by decide +kernel)⟩
theorem lw_p88 : lw_okq (⟨"DeedProofsModel", "isTaken", "(II)Z"⟩, 15) := ⟨⟨by decide +kernel, by decide +kernel⟩, List.mem_of_getElem? (i := 863) (by decide +kernel), List.mem_of_getElem? (i := 1104) (by decide +kernel), List.mem_of_getElem? (i := 1105) (by decide +kernel)⟩
theorem lw_p89 : lw_okq (⟨"DeedProofsModel", "holesOf", "(II)I"⟩, 15) := ⟨⟨by decide +kernel, by decide +kernel⟩, List.mem_of_getElem? (i := 863) (by decide +kernel), List.mem_of_getElem? (i := 1108) (by decide +kernel), List.mem_of_getElem? (i := 1109) (by decide +kernel)⟩
theorem lw_p90 : lw_okq (⟨"DeedProofsModel", "leansOf", "(I)I"⟩, 15) := ⟨⟨by decide +kernel, by decide +kernel⟩, List.mem_of_getElem? (i := 863) (by decide +kernel), List.mem_of_getElem? (i := 1124) (by decide +kernel), List.mem_of_getElem? (i := 1125) (by decide +kernel)⟩
theorem lw_p91 : lw_okq (⟨"DeedProofsModel", "leansFrom", "(III)I"⟩, 15) := ⟨⟨by decide +kernel, by decide +kernel⟩, List.mem_of_getElem? (i := 863) (by decide +kernel), List.mem_of_getElem? (i := 1140) (by decide +kernel), List.mem_of_getElem? (i := 1141) (by decide +kernel)⟩
theorem lw_p92 : lw_okq (⟨"DeedProofsModel", "showsFrom", "(III)I"⟩, 15) := ⟨⟨by decide +kernel, by decide +kernel⟩, List.mem_of_getElem? (i := 863) (by decide +kernel), List.mem_of_getElem? (i := 1147) (by decide +kernel), List.mem_of_getElem? (i := 1148) (by decide +kernel)⟩
theorem lw_p93 : lw_okq (⟨"DeedProofsModel", "endsFrom", "(III)I"⟩, 15) := ⟨⟨by decide +kernel, by decide +kernel⟩, List.mem_of_getElem? (i := 863) (by decide +kernel), List.mem_of_getElem? (i := 1151) (by decide +kernel), List.mem_of_getElem? (i := 1152) (by decide +kernel)⟩
theorem lw_p94 : lw_okq (⟨"DeedProofsModel", "isTitle", "(I)Z"⟩, 15) := ⟨⟨by decide +kernel, by decide +kernel⟩, List.mem_of_getElem? (i := 863) (by decide +kernel), List.mem_of_getElem? (i := 1167) (by decide +kernel), List.mem_of_getElem? (i := 1168) (by decide +kernel)⟩
theorem lw_p95 : lw_okq (⟨"DeedProofsModel", "standsOn", "(II)I"⟩, 15) := ⟨⟨by decide +kernel, by decide +kernel⟩, List.mem_of_getElem? (i := 863) (by decide +kernel), List.mem_of_getElem? (i := 1171) (by decide +kernel), List.mem_of_getElem? (i := 1172) (by decide +kernel)⟩
def lw_privs_6 : List (MethodName × Nat) := [(⟨"DeedProofsModel", "isProof", "(I)Z"⟩, 15), (⟨"DeedProofsModel", "isUsed", "(I)Z"⟩, 15), (⟨"DeedProofsModel", "usesEnds", "(I)Z"⟩, 15), (⟨"DeedProofsModel", "isStep", "(II)Z"⟩, 15), (⟨"DeedProofsModel", "lacksOn", "(III)I"⟩, 15), (⟨"DeedProofsModel", "isFrom", "(IIII)Z"⟩, 15), (⟨"DeedProofsModel", "termOn", "(IIII)I"⟩, 15), (⟨"DeedProofsModel", "saysOn", "(III)I"⟩, 15), (⟨"DeedProofsModel", "isTaken", "(II)Z"⟩, 15), (⟨"DeedProofsModel", "holesOf", "(II)I"⟩, 15), (⟨"DeedProofsModel", "leansOf", "(I)I"⟩, 15), (⟨"DeedProofsModel", "leansFrom", "(III)I"⟩, 15), (⟨"DeedProofsModel", "showsFrom", "(III)I"⟩, 15), (⟨"DeedProofsModel", "endsFrom", "(III)I"⟩, 15), (⟨"DeedProofsModel", "isTitle", "(I)Z"⟩, 15), (⟨"DeedProofsModel", "standsOn", "(II)I"⟩, 15)]
theorem lw_r6 : ∀ q ∈ lw_privs_6, lw_okq q := List.forall_mem_cons.mpr ⟨lw_p80, List.forall_mem_cons.mpr ⟨lw_p81, List.forall_mem_cons.mpr ⟨lw_p82, List.forall_mem_cons.mpr ⟨lw_p83, List.forall_mem_cons.mpr ⟨lw_p84, List.forall_mem_cons.mpr ⟨lw_p85, List.forall_mem_cons.mpr ⟨lw_p86, List.forall_mem_cons.mpr ⟨lw_p87, List.forall_mem_cons.mpr ⟨lw_p88, List.forall_mem_cons.mpr ⟨lw_p89, List.forall_mem_cons.mpr ⟨lw_p90, List.forall_mem_cons.mpr ⟨lw_p91, List.forall_mem_cons.mpr ⟨lw_p92, List.forall_mem_cons.mpr ⟨lw_p93, List.forall_mem_cons.mpr ⟨lw_p94, List.forall_mem_cons.mpr ⟨lw_p95, fun _ h => absurd h List.not_mem_nil⟩⟩⟩⟩⟩⟩⟩⟩⟩⟩⟩⟩⟩⟩⟩⟩
theorem lw_p96 : lw_okq (⟨"DeedProofsModel", "followsOn", "(II)Z"⟩, 15) := ⟨⟨by decide +kernel, by decide +kernel⟩, List.mem_of_getElem? (i := 863) (by decide +kernel), List.mem_of_getElem? (i := 1175) (by decide +kernel), List.mem_of_getElem? (i := 1176) (by decide +kernel)⟩
theorem lw_p97 : lw_okq (⟨"DeedProofsModel", "fewest", "(III)I"⟩, 15) := ⟨⟨by decide +kernel, by decide +kernel⟩, List.mem_of_getElem? (i := 863) (by decide +kernel), List.mem_of_getElem? (i := 1202) (by decide +kernel), List.mem_of_getElem? (i := 1203) (by decide +kernel)⟩
theorem lw_p98 : lw_okq (⟨"DeedProofsModel", "readsTactic", "()V"⟩, 15) := ⟨⟨by decide +kernel, by decide +kernel⟩, List.mem_of_getElem? (i := 863) (by decide +kernel), List.mem_of_getElem? (i := 1214) (by decide +kernel), List.mem_of_getElem? (i := 1215) (by decide +kernel)⟩
theorem lw_p99 : lw_okq (⟨"DeedProofsModel", "readsPiece", "()V"⟩, 15) := ⟨⟨by decide +kernel, by decide +kernel⟩, List.mem_of_getElem? (i := 863) (by decide +kernel), List.mem_of_getElem? (i := 1218) (by decide +kernel), List.mem_of_getElem? (i := 1219) (by decide +kernel)⟩
theorem lw_p100 : lw_okq (⟨"DeedProofsModel", "readsTry", "()V"⟩, 15) := ⟨⟨by decide +kernel, by decide +kernel⟩, List.mem_of_getElem? (i := 863) (by decide +kernel), List.mem_of_getElem? (i := 1222) (by decide +kernel), List.mem_of_getElem? (i := 1223) (by decide +kernel)⟩
theorem lw_p101 : lw_okq (⟨"DeedProofsModel", "runsTactic", "(I)Z"⟩, 15) := ⟨⟨by decide +kernel, by decide +kernel⟩, List.mem_of_getElem? (i := 863) (by decide +kernel), List.mem_of_getElem? (i := 1230) (by decide +kernel), List.mem_of_getElem? (i := 1231) (by decide +kernel)⟩
theorem lw_p102 : lw_okq (⟨"DeedProofsModel", "runsTry", "(I)Z"⟩, 15) := ⟨⟨by decide +kernel, by decide +kernel⟩, List.mem_of_getElem? (i := 863) (by decide +kernel), List.mem_of_getElem? (i := 1234) (by decide +kernel), List.mem_of_getElem? (i := 1235) (by decide +kernel)⟩
theorem lw_p103 : lw_okq (⟨"DeedProofsModel", "behindTry", "(I)I"⟩, 15) := ⟨⟨by decide +kernel, by decide +kernel⟩, List.mem_of_getElem? (i := 863) (by decide +kernel), List.mem_of_getElem? (i := 1238) (by decide +kernel), List.mem_of_getElem? (i := 1239) (by decide +kernel)⟩
theorem lw_p104 : lw_okq (⟨"DeedProofsModel", "byteAt", "(I)I"⟩, 15) := ⟨⟨by decide +kernel, by decide +kernel⟩, List.mem_of_getElem? (i := 863) (by decide +kernel), List.mem_of_getElem? (i := 1242) (by decide +kernel), List.mem_of_getElem? (i := 1243) (by decide +kernel)⟩
theorem lw_p105 : lw_okq (⟨"DeedProofsModel", "runsOnce", "(I)Z"⟩, 15) := ⟨⟨by decide +kernel, by decide +kernel⟩, List.mem_of_getElem? (i := 863) (by decide +kernel), List.mem_of_getElem? (i := 1246) (by decide +kernel), List.mem_of_getElem? (i := 1247) (by decide +kernel)⟩
theorem lw_p106 : lw_okq (⟨"DeedProofsModel", "runs", "(I)Z"⟩, 15) := ⟨⟨by decide +kernel, by decide +kernel⟩, List.mem_of_getElem? (i := 863) (by decide +kernel), List.mem_of_getElem? (i := 1250) (by decide +kernel), List.mem_of_getElem? (i := 1251) (by decide +kernel)⟩
def lw_privs_7 : List (MethodName × Nat) := [(⟨"DeedProofsModel", "followsOn", "(II)Z"⟩, 15), (⟨"DeedProofsModel", "fewest", "(III)I"⟩, 15), (⟨"DeedProofsModel", "readsTactic", "()V"⟩, 15), (⟨"DeedProofsModel", "readsPiece", "()V"⟩, 15), (⟨"DeedProofsModel", "readsTry", "()V"⟩, 15), (⟨"DeedProofsModel", "runsTactic", "(I)Z"⟩, 15), (⟨"DeedProofsModel", "runsTry", "(I)Z"⟩, 15), (⟨"DeedProofsModel", "behindTry", "(I)I"⟩, 15), (⟨"DeedProofsModel", "byteAt", "(I)I"⟩, 15), (⟨"DeedProofsModel", "runsOnce", "(I)Z"⟩, 15), (⟨"DeedProofsModel", "runs", "(I)Z"⟩, 15)]
theorem lw_r7 : ∀ q ∈ lw_privs_7, lw_okq q := List.forall_mem_cons.mpr ⟨lw_p96, List.forall_mem_cons.mpr ⟨lw_p97, List.forall_mem_cons.mpr ⟨lw_p98, List.forall_mem_cons.mpr ⟨lw_p99, List.forall_mem_cons.mpr ⟨lw_p100, List.forall_mem_cons.mpr ⟨lw_p101, List.forall_mem_cons.mpr ⟨lw_p102, List.forall_mem_cons.mpr ⟨lw_p103, List.forall_mem_cons.mpr ⟨lw_p104, List.forall_mem_cons.mpr ⟨lw_p105, List.forall_mem_cons.mpr ⟨lw_p106, fun _ h => absurd h List.not_mem_nil⟩⟩⟩⟩⟩⟩⟩⟩⟩⟩⟩
def lw_privs : List (MethodName × Nat) := lw_privs_1 ++ (lw_privs_2 ++ (lw_privs_3 ++ (lw_privs_4 ++ (lw_privs_5 ++ (lw_privs_6 ++ (lw_privs_7))))))
def lw_tbl : List Cond := k2_sels lw_privs ++ tables_1
theorem lw_privs_ok : ∀ q ∈ lw_privs, lw_okq q := by
  show ∀ q ∈ lw_privs_1 ++ (lw_privs_2 ++ (lw_privs_3 ++ (lw_privs_4 ++ (lw_privs_5 ++ (lw_privs_6 ++ (lw_privs_7)))))), lw_okq q
  exact List.forall_mem_append.mpr ⟨lw_r1, List.forall_mem_append.mpr ⟨lw_r2, List.forall_mem_append.mpr ⟨lw_r3, List.forall_mem_append.mpr ⟨lw_r4, List.forall_mem_append.mpr ⟨lw_r5, List.forall_mem_append.mpr ⟨lw_r6, lw_r7⟩⟩⟩⟩⟩⟩
end
section
/-! names of the classes: fields in the order of the slots; printed by program from the claim (NAMES) -/
def RX0 : String := "DeedProofs$Book"
def TX0 : u_T := fun k => match k with
  | 0 => ("DeedProofs$Book", "counts", "[I", true)
  | 1 => ("DeedProofs$Book", "tape", "[B", true)
  | 2 => ("DeedProofs$Book", "texts", "[LDeedProofs$Text;", true)
  | 3 => ("DeedProofs$Book", "changeRule", "[I", true)
  | 4 => ("DeedProofs$Book", "changeDay", "[I", true)
  | 5 => ("DeedProofs$Book", "paperFact", "[I", true)
  | 6 => ("DeedProofs$Book", "paperPerson", "[I", true)
  | 7 => ("DeedProofs$Book", "truePapers", "I", false)
  | 8 => ("DeedProofs$Book", "proofKind", "[I", true)
  | 9 => ("DeedProofs$Book", "stepCount", "[I", true)
  | 10 => ("DeedProofs$Book", "stepRows", "[I", true)
  | 11 => ("DeedProofs$Book", "titleProof", "[I", true)
  | 12 => ("DeedProofs$Book", "titleFact", "[I", true)
  | 13 => ("DeedProofs$Book", "titleDay", "[I", true)
  | 14 => ("DeedProofs$Book", "tacticSize", "[I", true)
  | 15 => ("DeedProofs$Book", "tacticBytes", "[B", true)
  | 16 => ("DeedProofs$Book", "found", "[Z", true)
  | _ => ("DeedProofs$Book", "hasRun", "Z", false)
def tyX0 : Nat → FieldType := fun k => match k with
  | 0 => .array .int
  | 1 => .array .byte
  | 2 => .array (.object "DeedProofs$Text")
  | 3 => .array .int
  | 4 => .array .int
  | 5 => .array .int
  | 6 => .array .int
  | 7 => .int
  | 8 => .array .int
  | 9 => .array .int
  | 10 => .array .int
  | 11 => .array .int
  | 12 => .array .int
  | 13 => .array .int
  | 14 => .array .int
  | 15 => .array .byte
  | 16 => .array .boolean
  | _ => .boolean
theorem nmX0 : ∀ a, a < 18 → ∀ b, b < 18 → a ≠ b → (TX0 a).2.1 ≠ (TX0 b).2.1 := by decide +kernel
theorem tyX0_ok : ∀ k, k < 18 → parseFieldDescriptor (TX0 k).2.2.1 = some (tyX0 k) := by decide +kernel
abbrev cX0_init : ByteArray := prog_2_method_1_code
def yX0_init : MethodName := ⟨RX0, "<init>", "()V"⟩
abbrev cX0_become : ByteArray := prog_2_method_2_code
def yX0_become : MethodName := ⟨RX0, "become", "(LDeedProofs$Book;)V"⟩
abbrev cX0_has : ByteArray := prog_2_method_3_code
def yX0_has : MethodName := ⟨RX0, "has", "(II)Z"⟩
abbrev cX0_hasStep : ByteArray := prog_2_method_4_code
def yX0_hasStep : MethodName := ⟨RX0, "hasStep", "(II)Z"⟩
abbrev cX0_isTrue : ByteArray := prog_2_method_5_code
def yX0_isTrue : MethodName := ⟨RX0, "isTrue", "(I)Z"⟩
abbrev cX0_changeOn : ByteArray := prog_2_method_6_code
def yX0_changeOn : MethodName := ⟨RX0, "changeOn", "(II)I"⟩
abbrev cX0_textOn : ByteArray := prog_2_method_7_code
def yX0_textOn : MethodName := ⟨RX0, "textOn", "(II)LDeedProofs$Text;"⟩
abbrev cX0_rowOf : ByteArray := prog_2_method_8_code
def yX0_rowOf : MethodName := ⟨RX0, "rowOf", "(II)I"⟩
abbrev cX0_takesHoles : ByteArray := prog_2_method_9_code
def yX0_takesHoles : MethodName := ⟨RX0, "takesHoles", "(I)Z"⟩
abbrev cX0_takesEnds : ByteArray := prog_2_method_10_code
def yX0_takesEnds : MethodName := ⟨RX0, "takesEnds", "(I)Z"⟩
abbrev cX0_endIn : ByteArray := prog_2_method_11_code
def yX0_endIn : MethodName := ⟨RX0, "endIn", "(II)I"⟩
abbrev cX0_isTitled : ByteArray := prog_2_method_12_code
def yX0_isTitled : MethodName := ⟨RX0, "isTitled", "(I)Z"⟩
abbrev cX0_isTitleOf : ByteArray := prog_2_method_13_code
def yX0_isTitleOf : MethodName := ⟨RX0, "isTitleOf", "(I)Z"⟩
abbrev cX0_isUsed : ByteArray := prog_2_method_14_code
def yX0_isUsed : MethodName := ⟨RX0, "isUsed", "(I)Z"⟩
abbrev cX0_holesOf : ByteArray := prog_2_method_15_code
def yX0_holesOf : MethodName := ⟨RX0, "holesOf", "(I)I"⟩
abbrev cX0_countSources : ByteArray := prog_2_method_16_code
def yX0_countSources : MethodName := ⟨RX0, "countSources", "(II)I"⟩
abbrev cX0_placeOfHole : ByteArray := prog_2_method_17_code
def yX0_placeOfHole : MethodName := ⟨RX0, "placeOfHole", "(II)I"⟩
def RX1 : String := "DeedProofs$Cut"
def TX1 : u_T := fun k => match k with
  | _ => ("", "", "", false)
def tyX1 : Nat → FieldType := fun k => match k with
  | _ => .int
theorem nmX1 : ∀ a, a < 0 → ∀ b, b < 0 → a ≠ b → (TX1 a).2.1 ≠ (TX1 b).2.1 := by decide +kernel
theorem tyX1_ok : ∀ k, k < 0 → parseFieldDescriptor (TX1 k).2.2.1 = some (tyX1 k) := by decide +kernel
abbrev cX1_init : ByteArray := prog_3_method_1_code
def yX1_init : MethodName := ⟨RX1, "<init>", "()V"⟩
abbrev cX1_actEnds : ByteArray := prog_3_method_2_code
def yX1_actEnds : MethodName := ⟨RX1, "actEnds", "(III)I"⟩
def RX2 : String := "DeedProofs$Judge"
def TX2 : u_T := fun k => match k with
  | 0 => ("DeedProofs$Judge", "book", "LDeedProofs$Book;", true)
  | 1 => ("DeedProofs$Judge", "lack", "[I", true)
  | 2 => ("DeedProofs$Judge", "fact", "[I", true)
  | 3 => ("DeedProofs$Judge", "taken", "[Z", true)
  | 4 => ("DeedProofs$Judge", "under", "[I", true)
  | 5 => ("DeedProofs$Judge", "values", "[I", true)
  | _ => ("DeedProofs$Judge", "papers", "I", false)
def tyX2 : Nat → FieldType := fun k => match k with
  | 0 => .object "DeedProofs$Book"
  | 1 => .array .int
  | 2 => .array .int
  | 3 => .array .boolean
  | 4 => .array .int
  | 5 => .array .int
  | _ => .int
theorem nmX2 : ∀ a, a < 7 → ∀ b, b < 7 → a ≠ b → (TX2 a).2.1 ≠ (TX2 b).2.1 := by decide +kernel
theorem tyX2_ok : ∀ k, k < 7 → parseFieldDescriptor (TX2 k).2.2.1 = some (tyX2 k) := by decide +kernel
abbrev cX2_init : ByteArray := prog_4_method_1_code
def yX2_init : MethodName := ⟨RX2, "<init>", "(LDeedProofs$Book;)V"⟩
abbrev cX2_weigh : ByteArray := prog_4_method_2_code
def yX2_weigh : MethodName := ⟨RX2, "weigh", "(III)V"⟩
abbrev cX2_lackOf : ByteArray := prog_4_method_3_code
def yX2_lackOf : MethodName := ⟨RX2, "lackOf", "(III)I"⟩
abbrev cX2_gives : ByteArray := prog_4_method_4_code
def yX2_gives : MethodName := ⟨RX2, "gives", "(IIII)Z"⟩
abbrev cX2_factOfStep : ByteArray := prog_4_method_5_code
def yX2_factOfStep : MethodName := ⟨RX2, "factOfStep", "(III)I"⟩
abbrev cX2_factOfTerm : ByteArray := prog_4_method_6_code
def yX2_factOfTerm : MethodName := ⟨RX2, "factOfTerm", "(III)I"⟩
abbrev cX2_saidBy : ByteArray := prog_4_method_7_code
def yX2_saidBy : MethodName := ⟨RX2, "saidBy", "(III)I"⟩
abbrev cX2_papersUnder : ByteArray := prog_4_method_8_code
def yX2_papersUnder : MethodName := ⟨RX2, "papersUnder", "(I)I"⟩
abbrev cX2_papersUnderStep : ByteArray := prog_4_method_9_code
def yX2_papersUnderStep : MethodName := ⟨RX2, "papersUnderStep", "(II)I"⟩
def RX3 : String := "DeedProofs$Line"
def TX3 : u_T := fun k => match k with
  | _ => ("", "", "", false)
def tyX3 : Nat → FieldType := fun k => match k with
  | _ => .int
theorem nmX3 : ∀ a, a < 0 → ∀ b, b < 0 → a ≠ b → (TX3 a).2.1 ≠ (TX3 b).2.1 := by decide +kernel
theorem tyX3_ok : ∀ k, k < 0 → parseFieldDescriptor (TX3 k).2.2.1 = some (tyX3 k) := by decide +kernel
abbrev cX3_init : ByteArray := prog_5_method_1_code
def yX3_init : MethodName := ⟨RX3, "<init>", "()V"⟩
abbrev cX3_actLeans : ByteArray := prog_5_method_2_code
def yX3_actLeans : MethodName := ⟨RX3, "actLeans", "(III)I"⟩
abbrev cX3_actShows : ByteArray := prog_5_method_3_code
def yX3_actShows : MethodName := ⟨RX3, "actShows", "(III)I"⟩
abbrev cX3_actEnds : ByteArray := prog_5_method_4_code
def yX3_actEnds : MethodName := ⟨RX3, "actEnds", "(III)I"⟩
def RX4 : String := "DeedProofs$Open"
def TX4 : u_T := fun k => match k with
  | _ => ("", "", "", false)
def tyX4 : Nat → FieldType := fun k => match k with
  | _ => .int
theorem nmX4 : ∀ a, a < 0 → ∀ b, b < 0 → a ≠ b → (TX4 a).2.1 ≠ (TX4 b).2.1 := by decide +kernel
theorem tyX4_ok : ∀ k, k < 0 → parseFieldDescriptor (TX4 k).2.2.1 = some (tyX4 k) := by decide +kernel
abbrev cX4_init : ByteArray := prog_6_method_1_code
def yX4_init : MethodName := ⟨RX4, "<init>", "()V"⟩
abbrev cX4_actShows : ByteArray := prog_6_method_2_code
def yX4_actShows : MethodName := ⟨RX4, "actShows", "(III)I"⟩
abbrev cX4_actEnds : ByteArray := prog_6_method_3_code
def yX4_actEnds : MethodName := ⟨RX4, "actEnds", "(III)I"⟩
def RX5 : String := "DeedProofs$Piece"
def TX5 : u_T := fun k => match k with
  | _ => ("", "", "", false)
def tyX5 : Nat → FieldType := fun k => match k with
  | _ => .int
theorem nmX5 : ∀ a, a < 0 → ∀ b, b < 0 → a ≠ b → (TX5 a).2.1 ≠ (TX5 b).2.1 := by decide +kernel
theorem tyX5_ok : ∀ k, k < 0 → parseFieldDescriptor (TX5 k).2.2.1 = some (tyX5 k) := by decide +kernel
abbrev cX5_init : ByteArray := prog_7_method_1_code
def yX5_init : MethodName := ⟨RX5, "<init>", "()V"⟩
abbrev cX5_actLeans : ByteArray := prog_7_method_2_code
def yX5_actLeans : MethodName := ⟨RX5, "actLeans", "(III)I"⟩
def RX6 : String := "DeedProofs$Reach"
def TX6 : u_T := fun k => match k with
  | 0 => ("DeedProofs$Reach", "book", "LDeedProofs$Book;", true)
  | 1 => ("DeedProofs$Reach", "cost", "[I", true)
  | 2 => ("DeedProofs$Reach", "reached", "[I", true)
  | 3 => ("DeedProofs$Reach", "size", "I", false)
  | 4 => ("DeedProofs$Reach", "settled", "[Z", true)
  | 5 => ("DeedProofs$Reach", "bySize", "Z", false)
  | 6 => ("DeedProofs$Reach", "inForce", "[LDeedProofs$Text;", true)
  | _ => ("DeedProofs$Reach", "values", "[I", true)
def tyX6 : Nat → FieldType := fun k => match k with
  | 0 => .object "DeedProofs$Book"
  | 1 => .array .int
  | 2 => .array .int
  | 3 => .int
  | 4 => .array .boolean
  | 5 => .boolean
  | 6 => .array (.object "DeedProofs$Text")
  | _ => .array .int
theorem nmX6 : ∀ a, a < 8 → ∀ b, b < 8 → a ≠ b → (TX6 a).2.1 ≠ (TX6 b).2.1 := by decide +kernel
theorem tyX6_ok : ∀ k, k < 8 → parseFieldDescriptor (TX6 k).2.2.1 = some (tyX6 k) := by decide +kernel
abbrev cX6_init : ByteArray := prog_8_method_1_code
def yX6_init : MethodName := ⟨RX6, "<init>", "(LDeedProofs$Book;)V"⟩
abbrev cX6_has : ByteArray := prog_8_method_2_code
def yX6_has : MethodName := ⟨RX6, "has", "(I)Z"⟩
abbrev cX6_begin : ByteArray := prog_8_method_3_code
def yX6_begin : MethodName := ⟨RX6, "begin", "(IZ)V"⟩
abbrev cX6_spread : ByteArray := prog_8_method_4_code
def yX6_spread : MethodName := ⟨RX6, "spread", "(IIZ)V"⟩
abbrev cX6_bringLeast : ByteArray := prog_8_method_5_code
def yX6_bringLeast : MethodName := ⟨RX6, "bringLeast", "(I)V"⟩
abbrev cX6_useIn : ByteArray := prog_8_method_6_code
def yX6_useIn : MethodName := ⟨RX6, "useIn", "(LDeedProofs$Text;I)V"⟩
abbrev cX6_useOnce : ByteArray := prog_8_method_7_code
def yX6_useOnce : MethodName := ⟨RX6, "useOnce", "(LDeedProofs$Text;)V"⟩
abbrev cX6_settleFrom : ByteArray := prog_8_method_8_code
def yX6_settleFrom : MethodName := ⟨RX6, "settleFrom", "(I)V"⟩
abbrev cX6_bind : ByteArray := prog_8_method_9_code
def yX6_bind : MethodName := ⟨RX6, "bind", "(LDeedProofs$Text;II)Z"⟩
abbrev cX6_bindArg : ByteArray := prog_8_method_10_code
def yX6_bindArg : MethodName := ⟨RX6, "bindArg", "(II)Z"⟩
abbrev cX6_complete : ByteArray := prog_8_method_11_code
def yX6_complete : MethodName := ⟨RX6, "complete", "(LDeedProofs$Text;I)V"⟩
abbrev cX6_conclude : ByteArray := prog_8_method_12_code
def yX6_conclude : MethodName := ⟨RX6, "conclude", "(LDeedProofs$Text;)V"⟩
abbrev cX6_arrive : ByteArray := prog_8_method_13_code
def yX6_arrive : MethodName := ⟨RX6, "arrive", "(II)V"⟩
def RX7 : String := "DeedProofs$RuleReader"
def TX7 : u_T := fun k => match k with
  | 0 => ("DeedProofs$RuleReader", "tape", "[B", false)
  | 1 => ("DeedProofs$RuleReader", "size", "I", false)
  | 2 => ("DeedProofs$RuleReader", "at", "I", false)
  | 3 => ("DeedProofs$RuleReader", "text", "LDeedProofs$Text;", false)
  | _ => ("DeedProofs$RuleReader", "askedLetters", "I", false)
def tyX7 : Nat → FieldType := fun k => match k with
  | 0 => .array .byte
  | 1 => .int
  | 2 => .int
  | 3 => .object "DeedProofs$Text"
  | _ => .int
theorem nmX7 : ∀ a, a < 5 → ∀ b, b < 5 → a ≠ b → (TX7 a).2.1 ≠ (TX7 b).2.1 := by decide +kernel
theorem tyX7_ok : ∀ k, k < 5 → parseFieldDescriptor (TX7 k).2.2.1 = some (tyX7 k) := by decide +kernel
abbrev cX7_init : ByteArray := prog_9_method_1_code
def yX7_init : MethodName := ⟨RX7, "<init>", "()V"⟩
abbrev cX7_read : ByteArray := prog_9_method_2_code
def yX7_read : MethodName := ⟨RX7, "read", "([BILDeedProofs$Text;)I"⟩
abbrev cX7_readParts : ByteArray := prog_9_method_3_code
def yX7_readParts : MethodName := ⟨RX7, "readParts", "()Z"⟩
abbrev cX7_readPart : ByteArray := prog_9_method_4_code
def yX7_readPart : MethodName := ⟨RX7, "readPart", "()Z"⟩
abbrev cX7_readTerm : ByteArray := prog_9_method_5_code
def yX7_readTerm : MethodName := ⟨RX7, "readTerm", "(I)Z"⟩
abbrev cX7_readTest : ByteArray := prog_9_method_6_code
def yX7_readTest : MethodName := ⟨RX7, "readTest", "(I)Z"⟩
abbrev cX7_readArg : ByteArray := prog_9_method_7_code
def yX7_readArg : MethodName := ⟨RX7, "readArg", "(Z)I"⟩
abbrev cX7_placeIn : ByteArray := prog_9_method_8_code
def yX7_placeIn : MethodName := ⟨RX7, "placeIn", "(Ljava/lang/String;)I"⟩
abbrev cX7_skip : ByteArray := prog_9_method_9_code
def yX7_skip : MethodName := ⟨RX7, "skip", "(C)Z"⟩
def RX8 : String := "DeedProofs$Shared"
def TX8 : u_T := fun k => match k with
  | _ => ("", "", "", false)
def tyX8 : Nat → FieldType := fun k => match k with
  | _ => .int
theorem nmX8 : ∀ a, a < 0 → ∀ b, b < 0 → a ≠ b → (TX8 a).2.1 ≠ (TX8 b).2.1 := by decide +kernel
theorem tyX8_ok : ∀ k, k < 0 → parseFieldDescriptor (TX8 k).2.2.1 = some (tyX8 k) := by decide +kernel
abbrev cX8_init : ByteArray := prog_10_method_1_code
def yX8_init : MethodName := ⟨RX8, "<init>", "()V"⟩
abbrev cX8_actShows : ByteArray := prog_10_method_2_code
def yX8_actShows : MethodName := ⟨RX8, "actShows", "(III)I"⟩
def RX9 : String := "DeedProofs$Tactician"
def TX9 : u_T := fun k => match k with
  | 0 => ("DeedProofs$Tactician", "book", "LDeedProofs$Book;", true)
  | 1 => ("DeedProofs$Tactician", "reach", "LDeedProofs$Reach;", true)
  | 2 => ("DeedProofs$Tactician", "spent", "I", false)
  | 3 => ("DeedProofs$Tactician", "limit", "I", false)
  | 4 => ("DeedProofs$Tactician", "start", "I", false)
  | _ => ("DeedProofs$Tactician", "size", "I", false)
def tyX9 : Nat → FieldType := fun k => match k with
  | 0 => .object "DeedProofs$Book"
  | 1 => .object "DeedProofs$Reach"
  | 2 => .int
  | 3 => .int
  | 4 => .int
  | _ => .int
theorem nmX9 : ∀ a, a < 6 → ∀ b, b < 6 → a ≠ b → (TX9 a).2.1 ≠ (TX9 b).2.1 := by decide +kernel
theorem tyX9_ok : ∀ k, k < 6 → parseFieldDescriptor (TX9 k).2.2.1 = some (tyX9 k) := by decide +kernel
abbrev cX9_init : ByteArray := prog_11_method_1_code
def yX9_init : MethodName := ⟨RX9, "<init>", "(LDeedProofs$Book;LDeedProofs$Reach;)V"⟩
abbrev cX9_faultOf : ByteArray := prog_11_method_2_code
def yX9_faultOf : MethodName := ⟨RX9, "faultOf", "([BI)I"⟩
abbrev cX9_play : ByteArray := prog_11_method_3_code
def yX9_play : MethodName := ⟨RX9, "play", "(II)V"⟩
abbrev cX9_signAt : ByteArray := prog_11_method_4_code
def yX9_signAt : MethodName := ⟨RX9, "signAt", "(I)I"⟩
abbrev cX9_playPieces : ByteArray := prog_11_method_5_code
def yX9_playPieces : MethodName := ⟨RX9, "playPieces", "(II)V"⟩
abbrev cX9_playTry : ByteArray := prog_11_method_6_code
def yX9_playTry : MethodName := ⟨RX9, "playTry", "(III)Z"⟩
abbrev cX9_endOfTry : ByteArray := prog_11_method_7_code
def yX9_endOfTry : MethodName := ⟨RX9, "endOfTry", "(I)I"⟩
def RX10 : String := "DeedProofs$Text"
def TX10 : u_T := fun k => match k with
  | 0 => ("DeedProofs$Text", "terms", "I", false)
  | 1 => ("DeedProofs$Text", "tests", "I", false)
  | 2 => ("DeedProofs$Text", "termLetters", "I", false)
  | 3 => ("DeedProofs$Text", "parts", "[I", true)
  | _ => ("DeedProofs$Text", "checks", "[I", true)
def tyX10 : Nat → FieldType := fun k => match k with
  | 0 => .int
  | 1 => .int
  | 2 => .int
  | 3 => .array .int
  | _ => .array .int
theorem nmX10 : ∀ a, a < 5 → ∀ b, b < 5 → a ≠ b → (TX10 a).2.1 ≠ (TX10 b).2.1 := by decide +kernel
theorem tyX10_ok : ∀ k, k < 5 → parseFieldDescriptor (TX10 k).2.2.1 = some (tyX10 k) := by decide +kernel
abbrev cX10_init : ByteArray := prog_12_method_1_code
def yX10_init : MethodName := ⟨RX10, "<init>", "()V"⟩
abbrev cX10_newValues : ByteArray := prog_12_method_2_code
def yX10_newValues : MethodName := ⟨RX10, "newValues", "()[I"⟩
abbrev cX10_putLetters : ByteArray := prog_12_method_3_code
def yX10_putLetters : MethodName := ⟨RX10, "putLetters", "(I[I)V"⟩
abbrev cX10_hasInTerms : ByteArray := prog_12_method_4_code
def yX10_hasInTerms : MethodName := ⟨RX10, "hasInTerms", "(I)Z"⟩
abbrev cX10_factOf : ByteArray := prog_12_method_5_code
def yX10_factOf : MethodName := ⟨RX10, "factOf", "(I[I)I"⟩
abbrev cX10_testsHold : ByteArray := prog_12_method_6_code
def yX10_testsHold : MethodName := ⟨RX10, "testsHold", "([I)Z"⟩
abbrev cX10_become : ByteArray := prog_12_method_7_code
def yX10_become : MethodName := ⟨RX10, "become", "(LDeedProofs$Text;)V"⟩
def RX11 : String := "DeedProofs"
def TX11 : u_T := fun k => match k with
  | 0 => ("DeedProofs", "book", "LDeedProofs$Book;", true)
  | 1 => ("DeedProofs", "judge", "LDeedProofs$Judge;", true)
  | 2 => ("DeedProofs", "reach", "LDeedProofs$Reach;", true)
  | 3 => ("DeedProofs", "tactician", "LDeedProofs$Tactician;", true)
  | 4 => ("DeedProofs", "reader", "LDeedProofs$RuleReader;", true)
  | 5 => ("DeedProofs", "kinds", "[LDeedProofs$Line;", true)
  | _ => ("DeedProofs", "kept", "LDeedProofs$Book;", false)
def tyX11 : Nat → FieldType := fun k => match k with
  | 0 => .object "DeedProofs$Book"
  | 1 => .object "DeedProofs$Judge"
  | 2 => .object "DeedProofs$Reach"
  | 3 => .object "DeedProofs$Tactician"
  | 4 => .object "DeedProofs$RuleReader"
  | 5 => .array (.object "DeedProofs$Line")
  | _ => .object "DeedProofs$Book"
theorem nmX11 : ∀ a, a < 7 → ∀ b, b < 7 → a ≠ b → (TX11 a).2.1 ≠ (TX11 b).2.1 := by decide +kernel
theorem tyX11_ok : ∀ k, k < 7 → parseFieldDescriptor (TX11 k).2.2.1 = some (tyX11 k) := by decide +kernel
abbrev cX11_init : ByteArray := prog_1_method_1_code
def yX11_init : MethodName := ⟨RX11, "<init>", "()V"⟩
abbrev cX11_day : ByteArray := prog_1_method_2_code
def yX11_day : MethodName := ⟨RX11, "day", "(I)I"⟩
abbrev cX11_feed : ByteArray := prog_1_method_3_code
def yX11_feed : MethodName := ⟨RX11, "feed", "(JI)I"⟩
abbrev cX11_rule : ByteArray := prog_1_method_4_code
def yX11_rule : MethodName := ⟨RX11, "rule", "()I"⟩
abbrev cX11_change : ByteArray := prog_1_method_5_code
def yX11_change : MethodName := ⟨RX11, "change", "(II)I"⟩
abbrev cX11_told : ByteArray := prog_1_method_6_code
def yX11_told : MethodName := ⟨RX11, "told", "(III)I"⟩
abbrev cX11_paper : ByteArray := prog_1_method_7_code
def yX11_paper : MethodName := ⟨RX11, "paper", "(II)I"⟩
abbrev cX11_shown : ByteArray := prog_1_method_8_code
def yX11_shown : MethodName := ⟨RX11, "shown", "(IZ)I"⟩
abbrev cX11_of : ByteArray := prog_1_method_9_code
def yX11_of : MethodName := ⟨RX11, "of", "(II)I"⟩
abbrev cX11_follows : ByteArray := prog_1_method_10_code
def yX11_follows : MethodName := ⟨RX11, "follows", "(III)I"⟩
abbrev cX11_many : ByteArray := prog_1_method_11_code
def yX11_many : MethodName := ⟨RX11, "many", "(I)I"⟩
abbrev cX11_proof : ByteArray := prog_1_method_12_code
def yX11_proof : MethodName := ⟨RX11, "proof", "(I)I"⟩
abbrev cX11_step : ByteArray := prog_1_method_13_code
def yX11_step : MethodName := ⟨RX11, "step", "(IIIIIII)I"⟩
abbrev cX11_lacks : ByteArray := prog_1_method_14_code
def yX11_lacks : MethodName := ⟨RX11, "lacks", "(III)I"⟩
abbrev cX11_says : ByteArray := prog_1_method_15_code
def yX11_says : MethodName := ⟨RX11, "says", "(III)I"⟩
abbrev cX11_check : ByteArray := prog_1_method_16_code
def yX11_check : MethodName := ⟨RX11, "check", "(II)I"⟩
abbrev cX11_leans : ByteArray := prog_1_method_17_code
def yX11_leans : MethodName := ⟨RX11, "leans", "(I)I"⟩
abbrev cX11_hole : ByteArray := prog_1_method_18_code
def yX11_hole : MethodName := ⟨RX11, "hole", "(II)I"⟩
abbrev cX11_fill : ByteArray := prog_1_method_19_code
def yX11_fill : MethodName := ⟨RX11, "fill", "(II)I"⟩
abbrev cX11_act : ByteArray := prog_1_method_20_code
def yX11_act : MethodName := ⟨RX11, "act", "(III)I"⟩
abbrev cX11_as : ByteArray := prog_1_method_21_code
def yX11_as : MethodName := ⟨RX11, "as", "(II)I"⟩
abbrev cX11_title : ByteArray := prog_1_method_22_code
def yX11_title : MethodName := ⟨RX11, "title", "(I)I"⟩
abbrev cX11_stand : ByteArray := prog_1_method_23_code
def yX11_stand : MethodName := ⟨RX11, "stand", "(II)I"⟩
abbrev cX11_fall : ByteArray := prog_1_method_24_code
def yX11_fall : MethodName := ⟨RX11, "fall", "(I)I"⟩
abbrev cX11_carry : ByteArray := prog_1_method_25_code
def yX11_carry : MethodName := ⟨RX11, "carry", "(II)I"⟩
abbrev cX11_clash : ByteArray := prog_1_method_26_code
def yX11_clash : MethodName := ⟨RX11, "clash", "(II)I"⟩
abbrev cX11_every : ByteArray := prog_1_method_27_code
def yX11_every : MethodName := ⟨RX11, "every", "(I)I"⟩
abbrev cX11_enough : ByteArray := prog_1_method_28_code
def yX11_enough : MethodName := ⟨RX11, "enough", "(II)I"⟩
abbrev cX11_could : ByteArray := prog_1_method_29_code
def yX11_could : MethodName := ⟨RX11, "could", "(II)I"⟩
abbrev cX11_tactic : ByteArray := prog_1_method_30_code
def yX11_tactic : MethodName := ⟨RX11, "tactic", "()I"⟩
abbrev cX11_run : ByteArray := prog_1_method_31_code
def yX11_run : MethodName := ⟨RX11, "run", "(III)I"⟩
abbrev cX11_found : ByteArray := prog_1_method_32_code
def yX11_found : MethodName := ⟨RX11, "found", "(I)I"⟩
abbrev cX11_image : ByteArray := prog_1_method_33_code
def yX11_image : MethodName := ⟨RX11, "image", "()I"⟩
abbrev cX11_undo : ByteArray := prog_1_method_34_code
def yX11_undo : MethodName := ⟨RX11, "undo", "()I"⟩
abbrev cX11_count : ByteArray := prog_1_method_35_code
def yX11_count : MethodName := ⟨RX11, "count", "(I)I"⟩
abbrev cX11_isDay : ByteArray := prog_1_method_36_code
def yX11_isDay : MethodName := ⟨RX11, "isDay", "(I)Z"⟩
abbrev cX11_isFact : ByteArray := prog_1_method_37_code
def yX11_isFact : MethodName := ⟨RX11, "isFact", "(I)Z"⟩
abbrev cX11_isPerson : ByteArray := prog_1_method_38_code
def yX11_isPerson : MethodName := ⟨RX11, "isPerson", "(I)Z"⟩
abbrev cX11_isKind : ByteArray := prog_1_method_39_code
def yX11_isKind : MethodName := ⟨RX11, "isKind", "(I)Z"⟩
abbrev cX11_readTape : ByteArray := prog_1_method_40_code
def yX11_readTape : MethodName := ⟨RX11, "readTape", "(LDeedProofs$Text;)I"⟩
abbrev cX11_followsToday : ByteArray := prog_1_method_41_code
def yX11_followsToday : MethodName := ⟨RX11, "followsToday", "(II)Z"⟩
abbrev cX11_standsByProof : ByteArray := prog_1_method_42_code
def yX11_standsByProof : MethodName := ⟨RX11, "standsByProof", "(II)Z"⟩
abbrev cX11_standingToday : ByteArray := prog_1_method_43_code
def yX11_standingToday : MethodName := ⟨RX11, "standingToday", "(I)I"⟩
abbrev cX11_fewest : ByteArray := prog_1_method_44_code
def yX11_fewest : MethodName := ⟨RX11, "fewest", "(III)I"⟩
def RX12 : String := "DeedProofsModel"
def TX12 : u_T := fun k => match k with
  | 0 => ("DeedProofsModel", "p", "[I", true)
  | 1 => ("DeedProofsModel", "imaged", "[I", true)
  | 2 => ("DeedProofsModel", "hasImage", "Z", false)
  | 3 => ("DeedProofsModel", "at", "I", false)
  | 4 => ("DeedProofsModel", "isFaulty", "Z", false)
  | 5 => ("DeedProofsModel", "height", "[I", true)
  | 6 => ("DeedProofsModel", "size", "[I", true)
  | 7 => ("DeedProofsModel", "letters", "[I", true)
  | 8 => ("DeedProofsModel", "keptFalse", "[I", true)
  | 9 => ("DeedProofsModel", "asked", "[I", true)
  | 10 => ("DeedProofsModel", "opens", "I", false)
  | 11 => ("DeedProofsModel", "running", "I", false)
  | 12 => ("DeedProofsModel", "pays", "I", false)
  | 13 => ("DeedProofsModel", "spent", "I", false)
  | _ => ("DeedProofsModel", "news", "[I", true)
def tyX12 : Nat → FieldType := fun k => match k with
  | 0 => .array .int
  | 1 => .array .int
  | 2 => .boolean
  | 3 => .int
  | 4 => .boolean
  | 5 => .array .int
  | 6 => .array .int
  | 7 => .array .int
  | 8 => .array .int
  | 9 => .array .int
  | 10 => .int
  | 11 => .int
  | 12 => .int
  | 13 => .int
  | _ => .array .int
theorem nmX12 : ∀ a, a < 15 → ∀ b, b < 15 → a ≠ b → (TX12 a).2.1 ≠ (TX12 b).2.1 := by decide +kernel
theorem tyX12_ok : ∀ k, k < 15 → parseFieldDescriptor (TX12 k).2.2.1 = some (tyX12 k) := by decide +kernel
abbrev cX12_init : ByteArray := prog_14_method_1_code
def yX12_init : MethodName := ⟨RX12, "<init>", "()V"⟩
abbrev cX12_in : ByteArray := prog_14_method_3_code
def yX12_in : MethodName := ⟨RX12, "in", "(III)Z"⟩
abbrev cX12_isDay : ByteArray := prog_14_method_4_code
def yX12_isDay : MethodName := ⟨RX12, "isDay", "(I)Z"⟩
abbrev cX12_isFact : ByteArray := prog_14_method_5_code
def yX12_isFact : MethodName := ⟨RX12, "isFact", "(I)Z"⟩
abbrev cX12_day : ByteArray := prog_14_method_6_code
def yX12_day : MethodName := ⟨RX12, "day", "(I)I"⟩
abbrev cX12_feed : ByteArray := prog_14_method_7_code
def yX12_feed : MethodName := ⟨RX12, "feed", "(JI)I"⟩
abbrev cX12_here : ByteArray := prog_14_method_8_code
def yX12_here : MethodName := ⟨RX12, "here", "()I"⟩
abbrev cX12_eats : ByteArray := prog_14_method_9_code
def yX12_eats : MethodName := ⟨RX12, "eats", "(I)V"⟩
abbrev cX12_shapeOf : ByteArray := prog_14_method_10_code
def yX12_shapeOf : MethodName := ⟨RX12, "shapeOf", "(I)I"⟩
abbrev cX12_argument : ByteArray := prog_14_method_11_code
def yX12_argument : MethodName := ⟨RX12, "argument", "()I"⟩
abbrev cX12_term : ByteArray := prog_14_method_12_code
def yX12_term : MethodName := ⟨RX12, "term", "(I)V"⟩
abbrev cX12_test : ByteArray := prog_14_method_13_code
def yX12_test : MethodName := ⟨RX12, "test", "(I)V"⟩
abbrev cX12_part : ByteArray := prog_14_method_14_code
def yX12_part : MethodName := ⟨RX12, "part", "(I)V"⟩
abbrev cX12_lettersIn : ByteArray := prog_14_method_15_code
def yX12_lettersIn : MethodName := ⟨RX12, "lettersIn", "(II)I"⟩
abbrev cX12_termLetters : ByteArray := prog_14_method_16_code
def yX12_termLetters : MethodName := ⟨RX12, "termLetters", "(I)I"⟩
abbrev cX12_reads : ByteArray := prog_14_method_17_code
def yX12_reads : MethodName := ⟨RX12, "reads", "()I"⟩
abbrev cX12_rule : ByteArray := prog_14_method_18_code
def yX12_rule : MethodName := ⟨RX12, "rule", "()I"⟩
abbrev cX12_isRule : ByteArray := prog_14_method_19_code
def yX12_isRule : MethodName := ⟨RX12, "isRule", "(I)Z"⟩
abbrev cX12_change : ByteArray := prog_14_method_20_code
def yX12_change : MethodName := ⟨RX12, "change", "(II)I"⟩
abbrev cX12_changeOn : ByteArray := prog_14_method_21_code
def yX12_changeOn : MethodName := ⟨RX12, "changeOn", "(II)I"⟩
abbrev cX12_textOn : ByteArray := prog_14_method_22_code
def yX12_textOn : MethodName := ⟨RX12, "textOn", "(II)I"⟩
abbrev cX12_told : ByteArray := prog_14_method_23_code
def yX12_told : MethodName := ⟨RX12, "told", "(III)I"⟩
abbrev cX12_paper : ByteArray := prog_14_method_24_code
def yX12_paper : MethodName := ⟨RX12, "paper", "(II)I"⟩
abbrev cX12_isPaper : ByteArray := prog_14_method_25_code
def yX12_isPaper : MethodName := ⟨RX12, "isPaper", "(I)Z"⟩
abbrev cX12_shown : ByteArray := prog_14_method_26_code
def yX12_shown : MethodName := ⟨RX12, "shown", "(IZ)I"⟩
abbrev cX12_of : ByteArray := prog_14_method_27_code
def yX12_of : MethodName := ⟨RX12, "of", "(II)I"⟩
abbrev cX12_sets : ByteArray := prog_14_method_28_code
def yX12_sets : MethodName := ⟨RX12, "sets", "(I)V"⟩
abbrev cX12_value : ByteArray := prog_14_method_29_code
def yX12_value : MethodName := ⟨RX12, "value", "(I)I"⟩
abbrev cX12_factAt : ByteArray := prog_14_method_30_code
def yX12_factAt : MethodName := ⟨RX12, "factAt", "(I)I"⟩
abbrev cX12_testsHold : ByteArray := prog_14_method_31_code
def yX12_testsHold : MethodName := ⟨RX12, "testsHold", "(I)Z"⟩
abbrev cX12_isPlain : ByteArray := prog_14_method_32_code
def yX12_isPlain : MethodName := ⟨RX12, "isPlain", "(I)Z"⟩
abbrev cX12_areBelow : ByteArray := prog_14_method_33_code
def yX12_areBelow : MethodName := ⟨RX12, "areBelow", "(II)Z"⟩
abbrev cX12_begins : ByteArray := prog_14_method_34_code
def yX12_begins : MethodName := ⟨RX12, "begins", "()V"⟩
abbrev cX12_works : ByteArray := prog_14_method_35_code
def yX12_works : MethodName := ⟨RX12, "works", "(I)V"⟩
abbrev cX12_sizes : ByteArray := prog_14_method_36_code
def yX12_sizes : MethodName := ⟨RX12, "sizes", "(I)V"⟩
abbrev cX12_followsOn : ByteArray := prog_14_method_37_code
def yX12_followsOn : MethodName := ⟨RX12, "followsOn", "(II)Z"⟩
abbrev cX12_follows : ByteArray := prog_14_method_38_code
def yX12_follows : MethodName := ⟨RX12, "follows", "(III)I"⟩
abbrev cX12_many : ByteArray := prog_14_method_39_code
def yX12_many : MethodName := ⟨RX12, "many", "(I)I"⟩
abbrev cX12_isProof : ByteArray := prog_14_method_40_code
def yX12_isProof : MethodName := ⟨RX12, "isProof", "(I)Z"⟩
abbrev cX12_stepAt : ByteArray := prog_14_method_41_code
def yX12_stepAt : MethodName := ⟨RX12, "stepAt", "(II)I"⟩
abbrev cX12_proof : ByteArray := prog_14_method_42_code
def yX12_proof : MethodName := ⟨RX12, "proof", "(I)I"⟩
abbrev cX12_isUsed : ByteArray := prog_14_method_43_code
def yX12_isUsed : MethodName := ⟨RX12, "isUsed", "(I)Z"⟩
abbrev cX12_step : ByteArray := prog_14_method_44_code
def yX12_step : MethodName := ⟨RX12, "step", "(IIIIIII)I"⟩
abbrev cX12_saysOn : ByteArray := prog_14_method_45_code
def yX12_saysOn : MethodName := ⟨RX12, "saysOn", "(III)I"⟩
abbrev cX12_termOn : ByteArray := prog_14_method_46_code
def yX12_termOn : MethodName := ⟨RX12, "termOn", "(IIII)I"⟩
abbrev cX12_isFrom : ByteArray := prog_14_method_47_code
def yX12_isFrom : MethodName := ⟨RX12, "isFrom", "(IIII)Z"⟩
abbrev cX12_lacksOn : ByteArray := prog_14_method_48_code
def yX12_lacksOn : MethodName := ⟨RX12, "lacksOn", "(III)I"⟩
abbrev cX12_holesOf : ByteArray := prog_14_method_49_code
def yX12_holesOf : MethodName := ⟨RX12, "holesOf", "(II)I"⟩
abbrev cX12_isTaken : ByteArray := prog_14_method_50_code
def yX12_isTaken : MethodName := ⟨RX12, "isTaken", "(II)Z"⟩
abbrev cX12_isStep : ByteArray := prog_14_method_51_code
def yX12_isStep : MethodName := ⟨RX12, "isStep", "(II)Z"⟩
abbrev cX12_lacks : ByteArray := prog_14_method_52_code
def yX12_lacks : MethodName := ⟨RX12, "lacks", "(III)I"⟩
abbrev cX12_says : ByteArray := prog_14_method_53_code
def yX12_says : MethodName := ⟨RX12, "says", "(III)I"⟩
abbrev cX12_check : ByteArray := prog_14_method_54_code
def yX12_check : MethodName := ⟨RX12, "check", "(II)I"⟩
abbrev cX12_usesEnds : ByteArray := prog_14_method_55_code
def yX12_usesEnds : MethodName := ⟨RX12, "usesEnds", "(I)Z"⟩
abbrev cX12_leansOf : ByteArray := prog_14_method_56_code
def yX12_leansOf : MethodName := ⟨RX12, "leansOf", "(I)I"⟩
abbrev cX12_leans : ByteArray := prog_14_method_57_code
def yX12_leans : MethodName := ⟨RX12, "leans", "(I)I"⟩
abbrev cX12_hole : ByteArray := prog_14_method_58_code
def yX12_hole : MethodName := ⟨RX12, "hole", "(II)I"⟩
abbrev cX12_fill : ByteArray := prog_14_method_59_code
def yX12_fill : MethodName := ⟨RX12, "fill", "(II)I"⟩
abbrev cX12_aboveOf : ByteArray := prog_14_method_60_code
def yX12_aboveOf : MethodName := ⟨RX12, "aboveOf", "(I)I"⟩
abbrev cX12_leansFrom : ByteArray := prog_14_method_61_code
def yX12_leansFrom : MethodName := ⟨RX12, "leansFrom", "(III)I"⟩
abbrev cX12_showsFrom : ByteArray := prog_14_method_62_code
def yX12_showsFrom : MethodName := ⟨RX12, "showsFrom", "(III)I"⟩
abbrev cX12_endsFrom : ByteArray := prog_14_method_63_code
def yX12_endsFrom : MethodName := ⟨RX12, "endsFrom", "(III)I"⟩
abbrev cX12_act : ByteArray := prog_14_method_64_code
def yX12_act : MethodName := ⟨RX12, "act", "(III)I"⟩
abbrev cX12_as : ByteArray := prog_14_method_65_code
def yX12_as : MethodName := ⟨RX12, "as", "(II)I"⟩
abbrev cX12_isTitle : ByteArray := prog_14_method_66_code
def yX12_isTitle : MethodName := ⟨RX12, "isTitle", "(I)Z"⟩
abbrev cX12_title : ByteArray := prog_14_method_67_code
def yX12_title : MethodName := ⟨RX12, "title", "(I)I"⟩
abbrev cX12_standsOn : ByteArray := prog_14_method_68_code
def yX12_standsOn : MethodName := ⟨RX12, "standsOn", "(II)I"⟩
abbrev cX12_stand : ByteArray := prog_14_method_69_code
def yX12_stand : MethodName := ⟨RX12, "stand", "(II)I"⟩
abbrev cX12_fall : ByteArray := prog_14_method_70_code
def yX12_fall : MethodName := ⟨RX12, "fall", "(I)I"⟩
abbrev cX12_carry : ByteArray := prog_14_method_71_code
def yX12_carry : MethodName := ⟨RX12, "carry", "(II)I"⟩
abbrev cX12_clash : ByteArray := prog_14_method_72_code
def yX12_clash : MethodName := ⟨RX12, "clash", "(II)I"⟩
abbrev cX12_every : ByteArray := prog_14_method_73_code
def yX12_every : MethodName := ⟨RX12, "every", "(I)I"⟩
abbrev cX12_many0 : ByteArray := prog_14_method_74_code
def yX12_many0 : MethodName := ⟨RX12, "many0", "(I)I"⟩
abbrev cX12_fewest : ByteArray := prog_14_method_75_code
def yX12_fewest : MethodName := ⟨RX12, "fewest", "(III)I"⟩
abbrev cX12_enough : ByteArray := prog_14_method_76_code
def yX12_enough : MethodName := ⟨RX12, "enough", "(II)I"⟩
abbrev cX12_could : ByteArray := prog_14_method_77_code
def yX12_could : MethodName := ⟨RX12, "could", "(II)I"⟩
abbrev cX12_readsTactic : ByteArray := prog_14_method_78_code
def yX12_readsTactic : MethodName := ⟨RX12, "readsTactic", "()V"⟩
abbrev cX12_readsPiece : ByteArray := prog_14_method_79_code
def yX12_readsPiece : MethodName := ⟨RX12, "readsPiece", "()V"⟩
abbrev cX12_readsTry : ByteArray := prog_14_method_80_code
def yX12_readsTry : MethodName := ⟨RX12, "readsTry", "()V"⟩
abbrev cX12_tactic : ByteArray := prog_14_method_81_code
def yX12_tactic : MethodName := ⟨RX12, "tactic", "()I"⟩
abbrev cX12_byteAt : ByteArray := prog_14_method_82_code
def yX12_byteAt : MethodName := ⟨RX12, "byteAt", "(I)I"⟩
abbrev cX12_runs : ByteArray := prog_14_method_83_code
def yX12_runs : MethodName := ⟨RX12, "runs", "(I)Z"⟩
abbrev cX12_behindTry : ByteArray := prog_14_method_84_code
def yX12_behindTry : MethodName := ⟨RX12, "behindTry", "(I)I"⟩
abbrev cX12_runsTry : ByteArray := prog_14_method_85_code
def yX12_runsTry : MethodName := ⟨RX12, "runsTry", "(I)Z"⟩
abbrev cX12_runsOnce : ByteArray := prog_14_method_86_code
def yX12_runsOnce : MethodName := ⟨RX12, "runsOnce", "(I)Z"⟩
abbrev cX12_runsTactic : ByteArray := prog_14_method_87_code
def yX12_runsTactic : MethodName := ⟨RX12, "runsTactic", "(I)Z"⟩
abbrev cX12_run : ByteArray := prog_14_method_88_code
def yX12_run : MethodName := ⟨RX12, "run", "(III)I"⟩
abbrev cX12_found : ByteArray := prog_14_method_89_code
def yX12_found : MethodName := ⟨RX12, "found", "(I)I"⟩
abbrev cX12_image : ByteArray := prog_14_method_90_code
def yX12_image : MethodName := ⟨RX12, "image", "()I"⟩
abbrev cX12_undo : ByteArray := prog_14_method_91_code
def yX12_undo : MethodName := ⟨RX12, "undo", "()I"⟩
abbrev cX12_count : ByteArray := prog_14_method_92_code
def yX12_count : MethodName := ⟨RX12, "count", "(I)I"⟩
end
section
/-! THE ABSTRACT MACHINE: cells by their places (numbers from 0 on), what is on stack and in locals as values whose references are places; 'ad' says at which address a place lies. A step of it is a step of the machine (part 04). -/
def am_nth {α : Type} : List α → Nat → Option α
  | [], _ => none
  | a :: _, 0 => some a
  | _ :: l, n + 1 => am_nth l n
def am_put {α : Type} : List α → Nat → α → List α
  | [], _, _ => []
  | _ :: l, 0, v => v :: l
  | a :: l, n + 1, v => a :: am_put l n v
theorem am_nth_eq {α : Type} : ∀ (l : List α) (n : Nat), am_nth l n = l[n]?
  | [], n => by simp [am_nth]
  | a :: l, 0 => by simp [am_nth]
  | a :: l, n + 1 => by rw [am_nth, am_nth_eq l n]; simp
theorem am_put_eq {α : Type} : ∀ (l : List α) (n : Nat) (v : α), am_put l n v = l.set n v
  | [], n, v => by simp [am_put]
  | a :: l, 0, v => by simp [am_put]
  | a :: l, n + 1, v => by rw [am_put, am_put_eq l n v]; simp
/-- instruction, its length, three numbers (a local's place, a target, a field ..), a constant -/
abbrev am_I : Type := Instr × Nat × Nat × Nat × Nat × Int32
/-- a method: its name, its bytes, its locals, what it returns, its instructions by their places -/
abbrev am_MI : Type := MethodName × ByteArray × Nat × Option FieldType × List (Option am_I)
/-- a cell: an array of ints (bytes, booleans), an array of references, an object -/
abbrev am_C : Type := (Nat × Nat × (Nat → Int32)) ⊕ (Nat × Nat × (Nat → Option Nat)) ⊕ (Nat × List Value)
abbrev am_H : Type := List am_C
abbrev am_L : Type := List (Option Value)
def am_v (ad : Nat → Nat) : Value → Value
  | .ref i => .ref (ad i)
  | v => v
def am_e (ad : Nat → Nat) (tc : Nat → ClassId) : am_C → va_E
  | .inl (t, n, f) => .inl (tc t, n, .inl f)
  | .inr (.inl (t, n, f)) => .inl (tc t, n, .inr (.inr (.inr (.inr (fun j => (f j).map ad)))))
  | .inr (.inr (ci, fs)) => .inr (ci, fs.map (am_v ad))
def am_w (ad : Nat → Nat) (tc : Nat → ClassId) (h : am_H) : va_W := h.mapIdx (fun i c => (ad i, am_e ad tc c))
theorem am_w_at {ad : Nat → Nat} {tc : Nat → ClassId} {h : am_H} {i : Nat} {c : am_C} (hi : am_nth h i = some c) : (am_w ad tc h)[i]? = some (ad i, am_e ad tc c) := by
  rw [am_nth_eq] at hi
  simp [am_w, List.getElem?_mapIdx, hi]
theorem am_w_len {ad : Nat → Nat} {tc : Nat → ClassId} {h : am_H} : (am_w ad tc h).length = h.length := by simp [am_w]
theorem am_w_put {ad : Nat → Nat} {tc : Nat → ClassId} {h : am_H} {i : Nat} {c : am_C} : am_w ad tc (am_put h i c) = (am_w ad tc h).set i (ad i, am_e ad tc c) := by
  rw [am_put_eq]
  apply List.ext_getElem?
  intro j
  by_cases hj : i = j
  · subst hj
    by_cases hl : i < h.length
    · simp [am_w, List.getElem?_mapIdx, hl]
    · have h1 : h.length ≤ i := by omega
      simp [am_w, List.getElem?_mapIdx, h1]
  · simp [am_w, List.getElem?_mapIdx, List.getElem?_set_ne hj]
theorem am_put_len {α : Type} (l : List α) (n : Nat) (v : α) : (am_put l n v).length = l.length := by rw [am_put_eq]; simp
/-- the classes whose objects the worlds hold, and the arrays' types -/
abbrev am_cls : List vw_C := [(RX0, TX0, 18), (RX1, TX1, 0), (RX2, TX2, 7), (RX3, TX3, 0), (RX4, TX4, 0), (RX5, TX5, 0), (RX6, TX6, 8), (RX7, TX7, 5), (RX8, TX8, 0), (RX9, TX9, 6), (RX10, TX10, 5), (RX11, TX11, 7), (RX12, TX12, 15)]
abbrev am_tys (tc : Nat → ClassId) : List (ClassId × FieldType) := [(tc 0, .int), (tc 1, .byte), (tc 2, .boolean), (tc 3, .object "DeedProofs$Text"), (tc 4, .object "DeedProofs$Line")]
/-- the words that every state has: those of the tables that a warmed state keeps -/
def am_good : Cond → Bool
  | .fieldLinkNest .. => true
  | .methodLinkNest .. => true
  | .declares _ => true
  | .castable .. => true
  | w => goodWord w
def am_gt : List Cond := lw_tbl.filter am_good
def am_T (U : State) : Prop := ∀ w ∈ am_gt, ∀ a : Array Value, w.before a U = true
theorem am_T.warm {s U : State} (hW : s.WarmedH U.vm) (h : am_T s) : am_T U := by
  intro w hw a
  have hg := (List.mem_filter.mp hw).2
  have h0 := h w hw
  cases w <;> first
    | exact va_Nw.use rfl (va_Nw.warmF hW (h0 #[]))
    | exact va_Nw.use rfl (va_Nw.warmM hW (h0 #[]))
    | exact va_Nw.use rfl (va_Nw.warmD hW (h0 #[]))
    | exact va_Nw.use rfl (va_Nw.warmC hW (h0 #[]))
    | exact word_at hW (good_of_word hg) (h0 #[])
theorem am_T.use {s : State} (h : am_T s) (args : Array Value) : ∀ w ∈ am_gt, w.before args s = true := fun w hw => h w hw args
/-- what lies outside the worlds and stays: the texts and the row ABOVE; places from 100000 on -/
def am_len : List Nat := [6, 9, 3]
def am_byt : List (List Int32) := [[111, 115, 104, 109, 108, 119], [48, 49, 50, 51, 52, 97, 98, 99, 100], [60, 61, 35]]
def am_abv (j : Nat) : Int32 := [-1, 0, 0, 0, 1].getD j 0
def am_Ev (ad : Nat → Nat) (A : Nat → Prop) (U : State) (H : Heap) : Prop :=
  (va_AO "DeedProofs$Text" U ∧ va_AO "DeedProofs$Line" U) ∧
  (vk_R "DeedProofs$RuleReader" 56 "oshmlw" (ad 100000) U ∧ vk_R "DeedProofs$RuleReader" 62 "01234abcd" (ad 100001) U ∧ vk_R "DeedProofs$RuleReader" 75 "<=#" (ad 100002) U) ∧
  (∃ adV : Nat → Nat, vk_S 3 am_len am_byt (fun i => ad (100000 + i)) adV A U H) ∧
  va_Z "java/lang/String" "COMPACT_STRINGS" "Z" (.int 1) A U H ∧
  va_Z "DeedProofs" "ABOVE" "[I" (.ref (ad 100003)) A U H ∧ va_T .int (ad 100003) 5 (fun j => .int (am_abv j)) A U H
theorem am_Ev.warm {ad : Nat → Nat} {A : Nat → Prop} {s U : State} {H : Heap} (hW : s.WarmedH U.vm) (h : am_Ev ad A s H) : am_Ev ad A U H := by
  obtain ⟨⟨a1, a2⟩, ⟨b1, b2, b3⟩, ⟨adV, c1⟩, d1, d2, d3⟩ := h
  exact ⟨⟨a1.moved hW.alike, a2.moved hW.alike⟩, ⟨b1.warm hW, b2.warm hW, b3.warm hW⟩, ⟨adV, c1.moved hW.alike⟩, d1.moved hW.alike, d2.moved hW.alike, d3.moved hW.alike⟩
theorem am_Ev.kept {ad : Nat → Nat} {A : Nat → Prop} {U : State} {H H1 : Heap} (h : am_Ev ad A U H) (hq : ∀ a : Nat, a < H.size → ¬ A a → H1[a]? = H[a]?) : am_Ev ad A U H1 := by
  obtain ⟨a, b, ⟨adV, c1⟩, d1, d2, d3⟩ := h
  exact ⟨a, b, ⟨adV, c1.kept hq⟩, d1.kept hq, d2.kept hq, d3.kept hq⟩
theorem am_Ev.narrow {ad : Nat → Nat} {A B : Nat → Prop} {U : State} {H : Heap} (h : am_Ev ad A U H) (hAB : ∀ q, B q → A q) : am_Ev ad B U H := by
  obtain ⟨a, b, ⟨adV, c1⟩, d1, d2, d3⟩ := h
  exact ⟨a, b, ⟨adV, c1.narrow hAB⟩, d1.narrow hAB, d2.narrow hAB, d3.narrow hAB⟩
theorem am_Ev.ads {ad ad' : Nat → Nat} {A : Nat → Prop} {U : State} {H : Heap} (h : am_Ev ad A U H) (e : ∀ i, 100000 ≤ i → ad' i = ad i) : am_Ev ad' A U H := by
  unfold am_Ev at h ⊢
  have e1 : (fun i => ad' (100000 + i)) = (fun i => ad (100000 + i)) := funext fun i => e _ (by omega)
  rw [e 100000 (by omega), e 100001 (by omega), e 100002 (by omega), e 100003 (by omega), e1]
  exact h
/-- locals -/
def am_al (ad : Nat → Nat) : Nat → am_L → List (Nat × Value)
  | _, [] => []
  | i, none :: l => am_al ad (i + 1) l
  | i, some v :: l => (i, am_v ad v) :: am_al ad (i + 1) l
theorem am_al_mem {ad : Nat → Nat} : ∀ (ls : am_L) (i : Nat) (q : Nat × Value), q ∈ am_al ad i ls ↔ ∃ (k : Nat) (v : Value), q = (i + k, am_v ad v) ∧ am_nth ls k = some (some v)
  | [], i, q => by simp [am_al, am_nth]
  | none :: l, i, q => by
    rw [am_al, am_al_mem l (i + 1) q]
    constructor
    · rintro ⟨k, v, h1, h2⟩
      exact ⟨k + 1, v, by rw [h1]; congr 1; omega, h2⟩
    · rintro ⟨k, v, h1, h2⟩
      cases k with
      | zero => cases h2
      | succ k => exact ⟨k, v, by rw [h1]; congr 1; omega, h2⟩
  | some w :: l, i, q => by
    rw [am_al, List.mem_cons, am_al_mem l (i + 1) q]
    constructor
    · rintro (h | ⟨k, v, h1, h2⟩)
      · exact ⟨0, w, h, rfl⟩
      · exact ⟨k + 1, v, by rw [h1]; congr 1; omega, h2⟩
    · rintro ⟨k, v, h1, h2⟩
      cases k with
      | zero => cases h2; exact Or.inl h1
      | succ k => exact Or.inr ⟨k, v, by rw [h1]; congr 1; omega, h2⟩
def am_lv (ad : Nat → Nat) (ls : am_L) (n : Nat) (lsC : Array Slot) : Prop := lv_has lsC n (am_al ad 0 ls)
theorem am_lv.get {ad : Nat → Nat} {ls : am_L} {n : Nat} {lsC : Array Slot} (h : am_lv ad ls n lsC) {i : Nat} {v : Value} (hi : am_nth ls i = some (some v)) : lsC[i]? = some (.val (am_v ad v)) :=
  h.2.2 (i, am_v ad v) ((am_al_mem ls 0 _).mpr ⟨i, v, by simp, hi⟩)
/-- no long stands in the place ahead -/
def am_nl (ls : am_L) : Nat → Bool
  | 0 => true
  | i + 1 => match am_nth ls i with
    | some (some (.long _)) => false
    | some (some (.double _)) => false
    | _ => true
theorem am_nth_put {α : Type} : ∀ (l : List α) (i j : Nat) (v : α), am_nth (am_put l i v) j = if j = i then (if i < l.length then some v else none) else am_nth l j := by
  intro l i j v
  rw [am_nth_eq, am_put_eq, am_nth_eq, List.getElem?_set]
  by_cases h : i = j
  · subst h; simp
  · have h' : ¬ j = i := fun e => h e.symm
    simp [h, h']
theorem am_lv.put {ad : Nat → Nat} {ls : am_L} {n : Nat} {lsC : Array Slot} {i : Nat} {v : Value} (hn : am_nl ls i = true)
    (h : lv_has lsC n ((i, am_v ad v) :: (am_al ad 0 ls).filter (fun q => !(q.1 == i) && !(q.1 + 1 == i && q.2.category == 2)))) : am_lv ad (am_put ls i (some v)) n lsC := by
  refine ⟨h.1, h.2.1, fun q hq => ?_⟩
  obtain ⟨k, w, rfl, hk⟩ := (am_al_mem _ 0 q).mp hq
  rw [am_nth_put] at hk
  rw [Nat.zero_add]
  by_cases hki : k = i
  · rw [if_pos hki] at hk
    by_cases hl : i < ls.length
    · rw [if_pos hl] at hk
      cases hk
      subst hki
      exact h.2.2 _ List.mem_cons_self
    · rw [if_neg hl] at hk; cases hk
  · rw [if_neg hki] at hk
    refine h.2.2 (k, am_v ad w) (List.mem_cons_of_mem _ (List.mem_filter.mpr ⟨(am_al_mem ls 0 _).mpr ⟨k, w, by simp, hk⟩, ?_⟩))
    have h2 : ¬ (k + 1 = i ∧ (am_v ad w).category = 2) := by
      rintro ⟨e, hc⟩
      subst e
      simp only [am_nl, hk] at hn
      cases w <;> simp_all [am_v, Value.category]
    simp only [Bool.and_eq_true, Bool.not_eq_true', beq_eq_false_iff_ne, ne_eq, Bool.and_eq_false_iff]
    refine ⟨hki, ?_⟩
    by_cases he : k + 1 = i
    · exact Or.inr fun hc => h2 ⟨he, hc⟩
    · exact Or.inl he
end
