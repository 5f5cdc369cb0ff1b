section
-- ===== PART A: goes FIRST, ahead of the names: the tables' words, and 'selects' of the private methods out of them =====
/-- a private method of a class that the tables say can be made, by its rows of tables_1 -/
def lw_okq (q : MethodName × Nat) : Prop := (q.1.cls ≠ "java/lang/invoke/MethodHandle" ∧ q.1.cls ≠ "java/lang/invoke/VarHandle") ∧ Cond.instantiable q.1.cls q.2 ∈ tables_1 ∧ Cond.privateMethod q.1 ∈ tables_1 ∧ Cond.instanceMethod q.1 ∈ tables_1
theorem lw_p0 : lw_okq (⟨"DeedProofs", "readTape", "(LDeedProofs$Text;)I"⟩, 7) := ⟨⟨by decide +kernel, by decide +kernel⟩, List.mem_of_getElem? (i := 23) (by decide +kernel), List.mem_of_getElem? (i := 349) (by decide +kernel), List.mem_of_getElem? (i := 350) (by decide +kernel)⟩
theorem lw_p1 : lw_okq (⟨"DeedProofs$RuleReader", "read", "([BILDeedProofs$Text;)I"⟩, 5) := ⟨⟨by decide +kernel, by decide +kernel⟩, List.mem_of_getElem? (i := 255) (by decide +kernel), List.mem_of_getElem? (i := 353) (by decide +kernel), List.mem_of_getElem? (i := 354) (by decide +kernel)⟩
theorem lw_p2 : lw_okq (⟨"DeedProofs$RuleReader", "readParts", "()Z"⟩, 5) := ⟨⟨by decide +kernel, by decide +kernel⟩, List.mem_of_getElem? (i := 255) (by decide +kernel), List.mem_of_getElem? (i := 357) (by decide +kernel), List.mem_of_getElem? (i := 358) (by decide +kernel)⟩
theorem lw_p3 : lw_okq (⟨"DeedProofs$RuleReader", "readPart", "()Z"⟩, 5) := ⟨⟨by decide +kernel, by decide +kernel⟩, List.mem_of_getElem? (i := 255) (by decide +kernel), List.mem_of_getElem? (i := 361) (by decide +kernel), List.mem_of_getElem? (i := 362) (by decide +kernel)⟩
theorem lw_p4 : lw_okq (⟨"DeedProofs$RuleReader", "placeIn", "(Ljava/lang/String;)I"⟩, 5) := ⟨⟨by decide +kernel, by decide +kernel⟩, List.mem_of_getElem? (i := 255) (by decide +kernel), List.mem_of_getElem? (i := 366) (by decide +kernel), List.mem_of_getElem? (i := 367) (by decide +kernel)⟩
theorem lw_p5 : lw_okq (⟨"DeedProofs$RuleReader", "readTerm", "(I)Z"⟩, 5) := ⟨⟨by decide +kernel, by decide +kernel⟩, List.mem_of_getElem? (i := 255) (by decide +kernel), List.mem_of_getElem? (i := 418) (by decide +kernel), List.mem_of_getElem? (i := 419) (by decide +kernel)⟩
theorem lw_p6 : lw_okq (⟨"DeedProofs$RuleReader", "skip", "(C)Z"⟩, 5) := ⟨⟨by decide +kernel, by decide +kernel⟩, List.mem_of_getElem? (i := 255) (by decide +kernel), List.mem_of_getElem? (i := 422) (by decide +kernel), List.mem_of_getElem? (i := 423) (by decide +kernel)⟩
theorem lw_p7 : lw_okq (⟨"DeedProofs$RuleReader", "readArg", "(Z)I"⟩, 5) := ⟨⟨by decide +kernel, by decide +kernel⟩, List.mem_of_getElem? (i := 255) (by decide +kernel), List.mem_of_getElem? (i := 426) (by decide +kernel), List.mem_of_getElem? (i := 427) (by decide +kernel)⟩
theorem lw_p8 : lw_okq (⟨"DeedProofs$RuleReader", "readTest", "(I)Z"⟩, 5) := ⟨⟨by decide +kernel, by decide +kernel⟩, List.mem_of_getElem? (i := 255) (by decide +kernel), List.mem_of_getElem? (i := 431) (by decide +kernel), List.mem_of_getElem? (i := 432) (by decide +kernel)⟩
theorem lw_p9 : lw_okq (⟨"DeedProofs$Book", "has", "(II)Z"⟩, 18) := ⟨⟨by decide +kernel, by decide +kernel⟩, List.mem_of_getElem? (i := 31) (by decide +kernel), List.mem_of_getElem? (i := 440) (by decide +kernel), List.mem_of_getElem? (i := 441) (by decide +kernel)⟩
theorem lw_p10 : lw_okq (⟨"DeedProofs$Book", "changeOn", "(II)I"⟩, 18) := ⟨⟨by decide +kernel, by decide +kernel⟩, List.mem_of_getElem? (i := 31) (by decide +kernel), List.mem_of_getElem? (i := 451) (by decide +kernel), List.mem_of_getElem? (i := 452) (by decide +kernel)⟩
theorem lw_p11 : lw_okq (⟨"DeedProofs$Book", "textOn", "(II)LDeedProofs$Text;"⟩, 18) := ⟨⟨by decide +kernel, by decide +kernel⟩, List.mem_of_getElem? (i := 31) (by decide +kernel), List.mem_of_getElem? (i := 455) (by decide +kernel), List.mem_of_getElem? (i := 456) (by decide +kernel)⟩
theorem lw_p12 : lw_okq (⟨"DeedProofs$Book", "isTrue", "(I)Z"⟩, 18) := ⟨⟨by decide +kernel, by decide +kernel⟩, List.mem_of_getElem? (i := 31) (by decide +kernel), List.mem_of_getElem? (i := 474) (by decide +kernel), List.mem_of_getElem? (i := 475) (by decide +kernel)⟩
theorem lw_p13 : lw_okq (⟨"DeedProofs$Reach", "spread", "(IIZ)V"⟩, 8) := ⟨⟨by decide +kernel, by decide +kernel⟩, List.mem_of_getElem? (i := 190) (by decide +kernel), List.mem_of_getElem? (i := 487) (by decide +kernel), List.mem_of_getElem? (i := 488) (by decide +kernel)⟩
theorem lw_p14 : lw_okq (⟨"DeedProofs$Reach", "begin", "(IZ)V"⟩, 8) := ⟨⟨by decide +kernel, by decide +kernel⟩, List.mem_of_getElem? (i := 190) (by decide +kernel), List.mem_of_getElem? (i := 491) (by decide +kernel), List.mem_of_getElem? (i := 492) (by decide +kernel)⟩
theorem lw_p15 : lw_okq (⟨"DeedProofs$Reach", "arrive", "(II)V"⟩, 8) := ⟨⟨by decide +kernel, by decide +kernel⟩, List.mem_of_getElem? (i := 190) (by decide +kernel), List.mem_of_getElem? (i := 495) (by decide +kernel), List.mem_of_getElem? (i := 496) (by decide +kernel)⟩
def lw_privs_1 : List (MethodName × Nat) := [(⟨"DeedProofs", "readTape", "(LDeedProofs$Text;)I"⟩, 7), (⟨"DeedProofs$RuleReader", "read", "([BILDeedProofs$Text;)I"⟩, 5), (⟨"DeedProofs$RuleReader", "readParts", "()Z"⟩, 5), (⟨"DeedProofs$RuleReader", "readPart", "()Z"⟩, 5), (⟨"DeedProofs$RuleReader", "placeIn", "(Ljava/lang/String;)I"⟩, 5), (⟨"DeedProofs$RuleReader", "readTerm", "(I)Z"⟩, 5), (⟨"DeedProofs$RuleReader", "skip", "(C)Z"⟩, 5), (⟨"DeedProofs$RuleReader", "readArg", "(Z)I"⟩, 5), (⟨"DeedProofs$RuleReader", "readTest", "(I)Z"⟩, 5), (⟨"DeedProofs$Book", "has", "(II)Z"⟩, 18), (⟨"DeedProofs$Book", "changeOn", "(II)I"⟩, 18), (⟨"DeedProofs$Book", "textOn", "(II)LDeedProofs$Text;"⟩, 18), (⟨"DeedProofs$Book", "isTrue", "(I)Z"⟩, 18), (⟨"DeedProofs$Reach", "spread", "(IIZ)V"⟩, 8), (⟨"DeedProofs$Reach", "begin", "(IZ)V"⟩, 8), (⟨"DeedProofs$Reach", "arrive", "(II)V"⟩, 8)]
theorem lw_r1 : ∀ q ∈ lw_privs_1, lw_okq q := List.forall_mem_cons.mpr ⟨lw_p0, List.forall_mem_cons.mpr ⟨lw_p1, List.forall_mem_cons.mpr ⟨lw_p2, List.forall_mem_cons.mpr ⟨lw_p3, List.forall_mem_cons.mpr ⟨lw_p4, List.forall_mem_cons.mpr ⟨lw_p5, List.forall_mem_cons.mpr ⟨lw_p6, List.forall_mem_cons.mpr ⟨lw_p7, List.forall_mem_cons.mpr ⟨lw_p8, List.forall_mem_cons.mpr ⟨lw_p9, List.forall_mem_cons.mpr ⟨lw_p10, List.forall_mem_cons.mpr ⟨lw_p11, List.forall_mem_cons.mpr ⟨lw_p12, List.forall_mem_cons.mpr ⟨lw_p13, List.forall_mem_cons.mpr ⟨lw_p14, List.forall_mem_cons.mpr ⟨lw_p15, fun _ h => absurd h List.not_mem_nil⟩⟩⟩⟩⟩⟩⟩⟩⟩⟩⟩⟩⟩⟩⟩⟩
theorem lw_p16 : lw_okq (⟨"DeedProofs$Reach", "bringLeast", "(I)V"⟩, 8) := ⟨⟨by decide +kernel, by decide +kernel⟩, List.mem_of_getElem? (i := 190) (by decide +kernel), List.mem_of_getElem? (i := 500) (by decide +kernel), List.mem_of_getElem? (i := 501) (by decide +kernel)⟩
theorem lw_p17 : lw_okq (⟨"DeedProofs$Reach", "useIn", "(LDeedProofs$Text;I)V"⟩, 8) := ⟨⟨by decide +kernel, by decide +kernel⟩, List.mem_of_getElem? (i := 190) (by decide +kernel), List.mem_of_getElem? (i := 504) (by decide +kernel), List.mem_of_getElem? (i := 505) (by decide +kernel)⟩
theorem lw_p18 : lw_okq (⟨"DeedProofs$Reach", "bind", "(LDeedProofs$Text;II)Z"⟩, 8) := ⟨⟨by decide +kernel, by decide +kernel⟩, List.mem_of_getElem? (i := 190) (by decide +kernel), List.mem_of_getElem? (i := 508) (by decide +kernel), List.mem_of_getElem? (i := 509) (by decide +kernel)⟩
theorem lw_p19 : lw_okq (⟨"DeedProofs$Reach", "bindArg", "(II)Z"⟩, 8) := ⟨⟨by decide +kernel, by decide +kernel⟩, List.mem_of_getElem? (i := 190) (by decide +kernel), List.mem_of_getElem? (i := 512) (by decide +kernel), List.mem_of_getElem? (i := 513) (by decide +kernel)⟩
theorem lw_p20 : lw_okq (⟨"DeedProofs$Reach", "complete", "(LDeedProofs$Text;I)V"⟩, 8) := ⟨⟨by decide +kernel, by decide +kernel⟩, List.mem_of_getElem? (i := 190) (by decide +kernel), List.mem_of_getElem? (i := 516) (by decide +kernel), List.mem_of_getElem? (i := 517) (by decide +kernel)⟩
theorem lw_p21 : lw_okq (⟨"DeedProofs$Text", "hasInTerms", "(I)Z"⟩, 5) := ⟨⟨by decide +kernel, by decide +kernel⟩, List.mem_of_getElem? (i := 38) (by decide +kernel), List.mem_of_getElem? (i := 520) (by decide +kernel), List.mem_of_getElem? (i := 521) (by decide +kernel)⟩
theorem lw_p22 : lw_okq (⟨"DeedProofs$Reach", "conclude", "(LDeedProofs$Text;)V"⟩, 8) := ⟨⟨by decide +kernel, by decide +kernel⟩, List.mem_of_getElem? (i := 190) (by decide +kernel), List.mem_of_getElem? (i := 524) (by decide +kernel), List.mem_of_getElem? (i := 525) (by decide +kernel)⟩
theorem lw_p23 : lw_okq (⟨"DeedProofs$Text", "testsHold", "([I)Z"⟩, 5) := ⟨⟨by decide +kernel, by decide +kernel⟩, List.mem_of_getElem? (i := 38) (by decide +kernel), List.mem_of_getElem? (i := 528) (by decide +kernel), List.mem_of_getElem? (i := 529) (by decide +kernel)⟩
theorem lw_p24 : lw_okq (⟨"DeedProofs$Text", "factOf", "(I[I)I"⟩, 5) := ⟨⟨by decide +kernel, by decide +kernel⟩, List.mem_of_getElem? (i := 38) (by decide +kernel), List.mem_of_getElem? (i := 532) (by decide +kernel), List.mem_of_getElem? (i := 533) (by decide +kernel)⟩
theorem lw_p25 : lw_okq (⟨"DeedProofs$Reach", "has", "(I)Z"⟩, 8) := ⟨⟨by decide +kernel, by decide +kernel⟩, List.mem_of_getElem? (i := 190) (by decide +kernel), List.mem_of_getElem? (i := 543) (by decide +kernel), List.mem_of_getElem? (i := 544) (by decide +kernel)⟩
theorem lw_p26 : lw_okq (⟨"DeedProofs$Book", "isTitled", "(I)Z"⟩, 18) := ⟨⟨by decide +kernel, by decide +kernel⟩, List.mem_of_getElem? (i := 31) (by decide +kernel), List.mem_of_getElem? (i := 562) (by decide +kernel), List.mem_of_getElem? (i := 563) (by decide +kernel)⟩
theorem lw_p27 : lw_okq (⟨"DeedProofs$Book", "isUsed", "(I)Z"⟩, 18) := ⟨⟨by decide +kernel, by decide +kernel⟩, List.mem_of_getElem? (i := 31) (by decide +kernel), List.mem_of_getElem? (i := 566) (by decide +kernel), List.mem_of_getElem? (i := 567) (by decide +kernel)⟩
theorem lw_p28 : lw_okq (⟨"DeedProofs$Book", "takesEnds", "(I)Z"⟩, 18) := ⟨⟨by decide +kernel, by decide +kernel⟩, List.mem_of_getElem? (i := 31) (by decide +kernel), List.mem_of_getElem? (i := 570) (by decide +kernel), List.mem_of_getElem? (i := 571) (by decide +kernel)⟩
theorem lw_p29 : lw_okq (⟨"DeedProofs$Book", "countSources", "(II)I"⟩, 18) := ⟨⟨by decide +kernel, by decide +kernel⟩, List.mem_of_getElem? (i := 31) (by decide +kernel), List.mem_of_getElem? (i := 574) (by decide +kernel), List.mem_of_getElem? (i := 575) (by decide +kernel)⟩
theorem lw_p30 : lw_okq (⟨"DeedProofs$Book", "rowOf", "(II)I"⟩, 18) := ⟨⟨by decide +kernel, by decide +kernel⟩, List.mem_of_getElem? (i := 31) (by decide +kernel), List.mem_of_getElem? (i := 578) (by decide +kernel), List.mem_of_getElem? (i := 579) (by decide +kernel)⟩
theorem lw_p31 : lw_okq (⟨"DeedProofs$Book", "hasStep", "(II)Z"⟩, 18) := ⟨⟨by decide +kernel, by decide +kernel⟩, List.mem_of_getElem? (i := 31) (by decide +kernel), List.mem_of_getElem? (i := 587) (by decide +kernel), List.mem_of_getElem? (i := 588) (by decide +kernel)⟩
def lw_privs_2 : List (MethodName × Nat) := [(⟨"DeedProofs$Reach", "bringLeast", "(I)V"⟩, 8), (⟨"DeedProofs$Reach", "useIn", "(LDeedProofs$Text;I)V"⟩, 8), (⟨"DeedProofs$Reach", "bind", "(LDeedProofs$Text;II)Z"⟩, 8), (⟨"DeedProofs$Reach", "bindArg", "(II)Z"⟩, 8), (⟨"DeedProofs$Reach", "complete", "(LDeedProofs$Text;I)V"⟩, 8), (⟨"DeedProofs$Text", "hasInTerms", "(I)Z"⟩, 5), (⟨"DeedProofs$Reach", "conclude", "(LDeedProofs$Text;)V"⟩, 8), (⟨"DeedProofs$Text", "testsHold", "([I)Z"⟩, 5), (⟨"DeedProofs$Text", "factOf", "(I[I)I"⟩, 5), (⟨"DeedProofs$Reach", "has", "(I)Z"⟩, 8), (⟨"DeedProofs$Book", "isTitled", "(I)Z"⟩, 18), (⟨"DeedProofs$Book", "isUsed", "(I)Z"⟩, 18), (⟨"DeedProofs$Book", "takesEnds", "(I)Z"⟩, 18), (⟨"DeedProofs$Book", "countSources", "(II)I"⟩, 18), (⟨"DeedProofs$Book", "rowOf", "(II)I"⟩, 18), (⟨"DeedProofs$Book", "hasStep", "(II)Z"⟩, 18)]
theorem lw_r2 : ∀ q ∈ lw_privs_2, lw_okq q := List.forall_mem_cons.mpr ⟨lw_p16, List.forall_mem_cons.mpr ⟨lw_p17, List.forall_mem_cons.mpr ⟨lw_p18, List.forall_mem_cons.mpr ⟨lw_p19, List.forall_mem_cons.mpr ⟨lw_p20, List.forall_mem_cons.mpr ⟨lw_p21, List.forall_mem_cons.mpr ⟨lw_p22, List.forall_mem_cons.mpr ⟨lw_p23, List.forall_mem_cons.mpr ⟨lw_p24, List.forall_mem_cons.mpr ⟨lw_p25, List.forall_mem_cons.mpr ⟨lw_p26, List.forall_mem_cons.mpr ⟨lw_p27, List.forall_mem_cons.mpr ⟨lw_p28, List.forall_mem_cons.mpr ⟨lw_p29, List.forall_mem_cons.mpr ⟨lw_p30, List.forall_mem_cons.mpr ⟨lw_p31, fun _ h => absurd h List.not_mem_nil⟩⟩⟩⟩⟩⟩⟩⟩⟩⟩⟩⟩⟩⟩⟩⟩
theorem lw_p32 : lw_okq (⟨"DeedProofs$Judge", "weigh", "(III)V"⟩, 7) := ⟨⟨by decide +kernel, by decide +kernel⟩, List.mem_of_getElem? (i := 157) (by decide +kernel), List.mem_of_getElem? (i := 591) (by decide +kernel), List.mem_of_getElem? (i := 592) (by decide +kernel)⟩
theorem lw_p33 : lw_okq (⟨"DeedProofs$Judge", "factOfStep", "(III)I"⟩, 7) := ⟨⟨by decide +kernel, by decide +kernel⟩, List.mem_of_getElem? (i := 157) (by decide +kernel), List.mem_of_getElem? (i := 595) (by decide +kernel), List.mem_of_getElem? (i := 596) (by decide +kernel)⟩
theorem lw_p34 : lw_okq (⟨"DeedProofs$Judge", "lackOf", "(III)I"⟩, 7) := ⟨⟨by decide +kernel, by decide +kernel⟩, List.mem_of_getElem? (i := 157) (by decide +kernel), List.mem_of_getElem? (i := 605) (by decide +kernel), List.mem_of_getElem? (i := 606) (by decide +kernel)⟩
theorem lw_p35 : lw_okq (⟨"DeedProofs$Judge", "gives", "(IIII)Z"⟩, 7) := ⟨⟨by decide +kernel, by decide +kernel⟩, List.mem_of_getElem? (i := 157) (by decide +kernel), List.mem_of_getElem? (i := 610) (by decide +kernel), List.mem_of_getElem? (i := 611) (by decide +kernel)⟩
theorem lw_p36 : lw_okq (⟨"DeedProofs$Book", "endIn", "(II)I"⟩, 18) := ⟨⟨by decide +kernel, by decide +kernel⟩, List.mem_of_getElem? (i := 31) (by decide +kernel), List.mem_of_getElem? (i := 615) (by decide +kernel), List.mem_of_getElem? (i := 616) (by decide +kernel)⟩
theorem lw_p37 : lw_okq (⟨"DeedProofs$Book", "takesHoles", "(I)Z"⟩, 18) := ⟨⟨by decide +kernel, by decide +kernel⟩, List.mem_of_getElem? (i := 31) (by decide +kernel), List.mem_of_getElem? (i := 619) (by decide +kernel), List.mem_of_getElem? (i := 620) (by decide +kernel)⟩
theorem lw_p38 : lw_okq (⟨"DeedProofs$Book", "holesOf", "(I)I"⟩, 18) := ⟨⟨by decide +kernel, by decide +kernel⟩, List.mem_of_getElem? (i := 31) (by decide +kernel), List.mem_of_getElem? (i := 623) (by decide +kernel), List.mem_of_getElem? (i := 624) (by decide +kernel)⟩
theorem lw_p39 : lw_okq (⟨"DeedProofs$Judge", "papersUnder", "(I)I"⟩, 7) := ⟨⟨by decide +kernel, by decide +kernel⟩, List.mem_of_getElem? (i := 157) (by decide +kernel), List.mem_of_getElem? (i := 641) (by decide +kernel), List.mem_of_getElem? (i := 642) (by decide +kernel)⟩
theorem lw_p40 : lw_okq (⟨"DeedProofs$Judge", "papersUnderStep", "(II)I"⟩, 7) := ⟨⟨by decide +kernel, by decide +kernel⟩, List.mem_of_getElem? (i := 157) (by decide +kernel), List.mem_of_getElem? (i := 645) (by decide +kernel), List.mem_of_getElem? (i := 646) (by decide +kernel)⟩
theorem lw_p41 : lw_okq (⟨"DeedProofs$Book", "placeOfHole", "(II)I"⟩, 18) := ⟨⟨by decide +kernel, by decide +kernel⟩, List.mem_of_getElem? (i := 31) (by decide +kernel), List.mem_of_getElem? (i := 654) (by decide +kernel), List.mem_of_getElem? (i := 655) (by decide +kernel)⟩
theorem lw_p42 : lw_okq (⟨"DeedProofs$Judge", "saidBy", "(III)I"⟩, 7) := ⟨⟨by decide +kernel, by decide +kernel⟩, List.mem_of_getElem? (i := 157) (by decide +kernel), List.mem_of_getElem? (i := 662) (by decide +kernel), List.mem_of_getElem? (i := 663) (by decide +kernel)⟩
theorem lw_p43 : lw_okq (⟨"DeedProofs$Judge", "factOfTerm", "(III)I"⟩, 7) := ⟨⟨by decide +kernel, by decide +kernel⟩, List.mem_of_getElem? (i := 157) (by decide +kernel), List.mem_of_getElem? (i := 667) (by decide +kernel), List.mem_of_getElem? (i := 668) (by decide +kernel)⟩
theorem lw_p44 : lw_okq (⟨"DeedProofs$Book", "isTitleOf", "(I)Z"⟩, 18) := ⟨⟨by decide +kernel, by decide +kernel⟩, List.mem_of_getElem? (i := 31) (by decide +kernel), List.mem_of_getElem? (i := 737) (by decide +kernel), List.mem_of_getElem? (i := 738) (by decide +kernel)⟩
theorem lw_p45 : lw_okq (⟨"DeedProofs", "standsByProof", "(II)Z"⟩, 7) := ⟨⟨by decide +kernel, by decide +kernel⟩, List.mem_of_getElem? (i := 23) (by decide +kernel), List.mem_of_getElem? (i := 745) (by decide +kernel), List.mem_of_getElem? (i := 746) (by decide +kernel)⟩
theorem lw_p46 : lw_okq (⟨"DeedProofs", "standingToday", "(I)I"⟩, 7) := ⟨⟨by decide +kernel, by decide +kernel⟩, List.mem_of_getElem? (i := 23) (by decide +kernel), List.mem_of_getElem? (i := 753) (by decide +kernel), List.mem_of_getElem? (i := 754) (by decide +kernel)⟩
theorem lw_p47 : lw_okq (⟨"DeedProofs", "followsToday", "(II)Z"⟩, 7) := ⟨⟨by decide +kernel, by decide +kernel⟩, List.mem_of_getElem? (i := 23) (by decide +kernel), List.mem_of_getElem? (i := 769) (by decide +kernel), List.mem_of_getElem? (i := 770) (by decide +kernel)⟩
def lw_privs_3 : List (MethodName × Nat) := [(⟨"DeedProofs$Judge", "weigh", "(III)V"⟩, 7), (⟨"DeedProofs$Judge", "factOfStep", "(III)I"⟩, 7), (⟨"DeedProofs$Judge", "lackOf", "(III)I"⟩, 7), (⟨"DeedProofs$Judge", "gives", "(IIII)Z"⟩, 7), (⟨"DeedProofs$Book", "endIn", "(II)I"⟩, 18), (⟨"DeedProofs$Book", "takesHoles", "(I)Z"⟩, 18), (⟨"DeedProofs$Book", "holesOf", "(I)I"⟩, 18), (⟨"DeedProofs$Judge", "papersUnder", "(I)I"⟩, 7), (⟨"DeedProofs$Judge", "papersUnderStep", "(II)I"⟩, 7), (⟨"DeedProofs$Book", "placeOfHole", "(II)I"⟩, 18), (⟨"DeedProofs$Judge", "saidBy", "(III)I"⟩, 7), (⟨"DeedProofs$Judge", "factOfTerm", "(III)I"⟩, 7), (⟨"DeedProofs$Book", "isTitleOf", "(I)Z"⟩, 18), (⟨"DeedProofs", "standsByProof", "(II)Z"⟩, 7), (⟨"DeedProofs", "standingToday", "(I)I"⟩, 7), (⟨"DeedProofs", "followsToday", "(II)Z"⟩, 7)]
theorem lw_r3 : ∀ q ∈ lw_privs_3, lw_okq q := List.forall_mem_cons.mpr ⟨lw_p32, List.forall_mem_cons.mpr ⟨lw_p33, List.forall_mem_cons.mpr ⟨lw_p34, List.forall_mem_cons.mpr ⟨lw_p35, List.forall_mem_cons.mpr ⟨lw_p36, List.forall_mem_cons.mpr ⟨lw_p37, List.forall_mem_cons.mpr ⟨lw_p38, List.forall_mem_cons.mpr ⟨lw_p39, List.forall_mem_cons.mpr ⟨lw_p40, List.forall_mem_cons.mpr ⟨lw_p41, List.forall_mem_cons.mpr ⟨lw_p42, List.forall_mem_cons.mpr ⟨lw_p43, List.forall_mem_cons.mpr ⟨lw_p44, List.forall_mem_cons.mpr ⟨lw_p45, List.forall_mem_cons.mpr ⟨lw_p46, List.forall_mem_cons.mpr ⟨lw_p47, fun _ h => absurd h List.not_mem_nil⟩⟩⟩⟩⟩⟩⟩⟩⟩⟩⟩⟩⟩⟩⟩⟩
theorem lw_p48 : lw_okq (⟨"DeedProofs", "fewest", "(III)I"⟩, 7) := ⟨⟨by decide +kernel, by decide +kernel⟩, List.mem_of_getElem? (i := 23) (by decide +kernel), List.mem_of_getElem? (i := 783) (by decide +kernel), List.mem_of_getElem? (i := 784) (by decide +kernel)⟩
theorem lw_p49 : lw_okq (⟨"DeedProofs$Tactician", "play", "(II)V"⟩, 6) := ⟨⟨by decide +kernel, by decide +kernel⟩, List.mem_of_getElem? (i := 229) (by decide +kernel), List.mem_of_getElem? (i := 805) (by decide +kernel), List.mem_of_getElem? (i := 806) (by decide +kernel)⟩
theorem lw_p50 : lw_okq (⟨"DeedProofs$Reach", "settleFrom", "(I)V"⟩, 8) := ⟨⟨by decide +kernel, by decide +kernel⟩, List.mem_of_getElem? (i := 190) (by decide +kernel), List.mem_of_getElem? (i := 810) (by decide +kernel), List.mem_of_getElem? (i := 811) (by decide +kernel)⟩
theorem lw_p51 : lw_okq (⟨"DeedProofs$Tactician", "playPieces", "(II)V"⟩, 6) := ⟨⟨by decide +kernel, by decide +kernel⟩, List.mem_of_getElem? (i := 229) (by decide +kernel), List.mem_of_getElem? (i := 814) (by decide +kernel), List.mem_of_getElem? (i := 815) (by decide +kernel)⟩
theorem lw_p52 : lw_okq (⟨"DeedProofs$Tactician", "endOfTry", "(I)I"⟩, 6) := ⟨⟨by decide +kernel, by decide +kernel⟩, List.mem_of_getElem? (i := 229) (by decide +kernel), List.mem_of_getElem? (i := 818) (by decide +kernel), List.mem_of_getElem? (i := 819) (by decide +kernel)⟩
theorem lw_p53 : lw_okq (⟨"DeedProofs$Tactician", "signAt", "(I)I"⟩, 6) := ⟨⟨by decide +kernel, by decide +kernel⟩, List.mem_of_getElem? (i := 229) (by decide +kernel), List.mem_of_getElem? (i := 822) (by decide +kernel), List.mem_of_getElem? (i := 823) (by decide +kernel)⟩
theorem lw_p54 : lw_okq (⟨"DeedProofs$Tactician", "playTry", "(III)Z"⟩, 6) := ⟨⟨by decide +kernel, by decide +kernel⟩, List.mem_of_getElem? (i := 229) (by decide +kernel), List.mem_of_getElem? (i := 826) (by decide +kernel), List.mem_of_getElem? (i := 827) (by decide +kernel)⟩
theorem lw_p55 : lw_okq (⟨"DeedProofs$Reach", "useOnce", "(LDeedProofs$Text;)V"⟩, 8) := ⟨⟨by decide +kernel, by decide +kernel⟩, List.mem_of_getElem? (i := 190) (by decide +kernel), List.mem_of_getElem? (i := 832) (by decide +kernel), List.mem_of_getElem? (i := 833) (by decide +kernel)⟩
theorem lw_p56 : lw_okq (⟨"DeedProofs$Book", "become", "(LDeedProofs$Book;)V"⟩, 18) := ⟨⟨by decide +kernel, by decide +kernel⟩, List.mem_of_getElem? (i := 31) (by decide +kernel), List.mem_of_getElem? (i := 845) (by decide +kernel), List.mem_of_getElem? (i := 846) (by decide +kernel)⟩
theorem lw_p57 : lw_okq (⟨"DeedProofs$Text", "become", "(LDeedProofs$Text;)V"⟩, 5) := ⟨⟨by decide +kernel, by decide +kernel⟩, List.mem_of_getElem? (i := 38) (by decide +kernel), List.mem_of_getElem? (i := 850) (by decide +kernel), List.mem_of_getElem? (i := 851) (by decide +kernel)⟩
theorem lw_p58 : lw_okq (⟨"DeedProofsModel", "reads", "()I"⟩, 15) := ⟨⟨by decide +kernel, by decide +kernel⟩, List.mem_of_getElem? (i := 863) (by decide +kernel), List.mem_of_getElem? (i := 931) (by decide +kernel), List.mem_of_getElem? (i := 932) (by decide +kernel)⟩
theorem lw_p59 : lw_okq (⟨"DeedProofsModel", "part", "(I)V"⟩, 15) := ⟨⟨by decide +kernel, by decide +kernel⟩, List.mem_of_getElem? (i := 863) (by decide +kernel), List.mem_of_getElem? (i := 935) (by decide +kernel), List.mem_of_getElem? (i := 936) (by decide +kernel)⟩
theorem lw_p60 : lw_okq (⟨"DeedProofsModel", "here", "()I"⟩, 15) := ⟨⟨by decide +kernel, by decide +kernel⟩, List.mem_of_getElem? (i := 863) (by decide +kernel), List.mem_of_getElem? (i := 939) (by decide +kernel), List.mem_of_getElem? (i := 940) (by decide +kernel)⟩
theorem lw_p61 : lw_okq (⟨"DeedProofsModel", "term", "(I)V"⟩, 15) := ⟨⟨by decide +kernel, by decide +kernel⟩, List.mem_of_getElem? (i := 863) (by decide +kernel), List.mem_of_getElem? (i := 946) (by decide +kernel), List.mem_of_getElem? (i := 947) (by decide +kernel)⟩
theorem lw_p62 : lw_okq (⟨"DeedProofsModel", "eats", "(I)V"⟩, 15) := ⟨⟨by decide +kernel, by decide +kernel⟩, List.mem_of_getElem? (i := 863) (by decide +kernel), List.mem_of_getElem? (i := 950) (by decide +kernel), List.mem_of_getElem? (i := 951) (by decide +kernel)⟩
theorem lw_p63 : lw_okq (⟨"DeedProofsModel", "argument", "()I"⟩, 15) := ⟨⟨by decide +kernel, by decide +kernel⟩, List.mem_of_getElem? (i := 863) (by decide +kernel), List.mem_of_getElem? (i := 954) (by decide +kernel), List.mem_of_getElem? (i := 955) (by decide +kernel)⟩
def lw_privs_4 : List (MethodName × Nat) := [(⟨"DeedProofs", "fewest", "(III)I"⟩, 7), (⟨"DeedProofs$Tactician", "play", "(II)V"⟩, 6), (⟨"DeedProofs$Reach", "settleFrom", "(I)V"⟩, 8), (⟨"DeedProofs$Tactician", "playPieces", "(II)V"⟩, 6), (⟨"DeedProofs$Tactician", "endOfTry", "(I)I"⟩, 6), (⟨"DeedProofs$Tactician", "signAt", "(I)I"⟩, 6), (⟨"DeedProofs$Tactician", "playTry", "(III)Z"⟩, 6), (⟨"DeedProofs$Reach", "useOnce", "(LDeedProofs$Text;)V"⟩, 8), (⟨"DeedProofs$Book", "become", "(LDeedProofs$Book;)V"⟩, 18), (⟨"DeedProofs$Text", "become", "(LDeedProofs$Text;)V"⟩, 5), (⟨"DeedProofsModel", "reads", "()I"⟩, 15), (⟨"DeedProofsModel", "part", "(I)V"⟩, 15), (⟨"DeedProofsModel", "here", "()I"⟩, 15), (⟨"DeedProofsModel", "term", "(I)V"⟩, 15), (⟨"DeedProofsModel", "eats", "(I)V"⟩, 15), (⟨"DeedProofsModel", "argument", "()I"⟩, 15)]
theorem lw_r4 : ∀ q ∈ lw_privs_4, lw_okq q := List.forall_mem_cons.mpr ⟨lw_p48, List.forall_mem_cons.mpr ⟨lw_p49, List.forall_mem_cons.mpr ⟨lw_p50, List.forall_mem_cons.mpr ⟨lw_p51, List.forall_mem_cons.mpr ⟨lw_p52, List.forall_mem_cons.mpr ⟨lw_p53, List.forall_mem_cons.mpr ⟨lw_p54, List.forall_mem_cons.mpr ⟨lw_p55, List.forall_mem_cons.mpr ⟨lw_p56, List.forall_mem_cons.mpr ⟨lw_p57, List.forall_mem_cons.mpr ⟨lw_p58, List.forall_mem_cons.mpr ⟨lw_p59, List.forall_mem_cons.mpr ⟨lw_p60, List.forall_mem_cons.mpr ⟨lw_p61, List.forall_mem_cons.mpr ⟨lw_p62, List.forall_mem_cons.mpr ⟨lw_p63, fun _ h => absurd h List.not_mem_nil⟩⟩⟩⟩⟩⟩⟩⟩⟩⟩⟩⟩⟩⟩⟩⟩
theorem lw_p64 : lw_okq (⟨"DeedProofsModel", "test", "(I)V"⟩, 15) := ⟨⟨by decide +kernel, by decide +kernel⟩, List.mem_of_getElem? (i := 863) (by decide +kernel), List.mem_of_getElem? (i := 958) (by decide +kernel), List.mem_of_getElem? (i := 959) (by decide +kernel)⟩
theorem lw_p65 : lw_okq (⟨"DeedProofsModel", "lettersIn", "(II)I"⟩, 15) := ⟨⟨by decide +kernel, by decide +kernel⟩, List.mem_of_getElem? (i := 863) (by decide +kernel), List.mem_of_getElem? (i := 962) (by decide +kernel), List.mem_of_getElem? (i := 963) (by decide +kernel)⟩
theorem lw_p66 : lw_okq (⟨"DeedProofsModel", "termLetters", "(I)I"⟩, 15) := ⟨⟨by decide +kernel, by decide +kernel⟩, List.mem_of_getElem? (i := 863) (by decide +kernel), List.mem_of_getElem? (i := 966) (by decide +kernel), List.mem_of_getElem? (i := 967) (by decide +kernel)⟩
theorem lw_p67 : lw_okq (⟨"DeedProofsModel", "isRule", "(I)Z"⟩, 15) := ⟨⟨by decide +kernel, by decide +kernel⟩, List.mem_of_getElem? (i := 863) (by decide +kernel), List.mem_of_getElem? (i := 974) (by decide +kernel), List.mem_of_getElem? (i := 975) (by decide +kernel)⟩
theorem lw_p68 : lw_okq (⟨"DeedProofsModel", "changeOn", "(II)I"⟩, 15) := ⟨⟨by decide +kernel, by decide +kernel⟩, List.mem_of_getElem? (i := 863) (by decide +kernel), List.mem_of_getElem? (i := 985) (by decide +kernel), List.mem_of_getElem? (i := 986) (by decide +kernel)⟩
theorem lw_p69 : lw_okq (⟨"DeedProofsModel", "textOn", "(II)I"⟩, 15) := ⟨⟨by decide +kernel, by decide +kernel⟩, List.mem_of_getElem? (i := 863) (by decide +kernel), List.mem_of_getElem? (i := 989) (by decide +kernel), List.mem_of_getElem? (i := 990) (by decide +kernel)⟩
theorem lw_p70 : lw_okq (⟨"DeedProofsModel", "isPaper", "(I)Z"⟩, 15) := ⟨⟨by decide +kernel, by decide +kernel⟩, List.mem_of_getElem? (i := 863) (by decide +kernel), List.mem_of_getElem? (i := 1004) (by decide +kernel), List.mem_of_getElem? (i := 1005) (by decide +kernel)⟩
theorem lw_p71 : lw_okq (⟨"DeedProofsModel", "works", "(I)V"⟩, 15) := ⟨⟨by decide +kernel, by decide +kernel⟩, List.mem_of_getElem? (i := 863) (by decide +kernel), List.mem_of_getElem? (i := 1016) (by decide +kernel), List.mem_of_getElem? (i := 1017) (by decide +kernel)⟩
theorem lw_p72 : lw_okq (⟨"DeedProofsModel", "begins", "()V"⟩, 15) := ⟨⟨by decide +kernel, by decide +kernel⟩, List.mem_of_getElem? (i := 863) (by decide +kernel), List.mem_of_getElem? (i := 1020) (by decide +kernel), List.mem_of_getElem? (i := 1021) (by decide +kernel)⟩
theorem lw_p73 : lw_okq (⟨"DeedProofsModel", "sets", "(I)V"⟩, 15) := ⟨⟨by decide +kernel, by decide +kernel⟩, List.mem_of_getElem? (i := 863) (by decide +kernel), List.mem_of_getElem? (i := 1025) (by decide +kernel), List.mem_of_getElem? (i := 1026) (by decide +kernel)⟩
theorem lw_p74 : lw_okq (⟨"DeedProofsModel", "isPlain", "(I)Z"⟩, 15) := ⟨⟨by decide +kernel, by decide +kernel⟩, List.mem_of_getElem? (i := 863) (by decide +kernel), List.mem_of_getElem? (i := 1029) (by decide +kernel), List.mem_of_getElem? (i := 1030) (by decide +kernel)⟩
theorem lw_p75 : lw_okq (⟨"DeedProofsModel", "areBelow", "(II)Z"⟩, 15) := ⟨⟨by decide +kernel, by decide +kernel⟩, List.mem_of_getElem? (i := 863) (by decide +kernel), List.mem_of_getElem? (i := 1033) (by decide +kernel), List.mem_of_getElem? (i := 1034) (by decide +kernel)⟩
theorem lw_p76 : lw_okq (⟨"DeedProofsModel", "factAt", "(I)I"⟩, 15) := ⟨⟨by decide +kernel, by decide +kernel⟩, List.mem_of_getElem? (i := 863) (by decide +kernel), List.mem_of_getElem? (i := 1037) (by decide +kernel), List.mem_of_getElem? (i := 1038) (by decide +kernel)⟩
theorem lw_p77 : lw_okq (⟨"DeedProofsModel", "value", "(I)I"⟩, 15) := ⟨⟨by decide +kernel, by decide +kernel⟩, List.mem_of_getElem? (i := 863) (by decide +kernel), List.mem_of_getElem? (i := 1041) (by decide +kernel), List.mem_of_getElem? (i := 1042) (by decide +kernel)⟩
theorem lw_p78 : lw_okq (⟨"DeedProofsModel", "testsHold", "(I)Z"⟩, 15) := ⟨⟨by decide +kernel, by decide +kernel⟩, List.mem_of_getElem? (i := 863) (by decide +kernel), List.mem_of_getElem? (i := 1045) (by decide +kernel), List.mem_of_getElem? (i := 1046) (by decide +kernel)⟩
theorem lw_p79 : lw_okq (⟨"DeedProofsModel", "sizes", "(I)V"⟩, 15) := ⟨⟨by decide +kernel, by decide +kernel⟩, List.mem_of_getElem? (i := 863) (by decide +kernel), List.mem_of_getElem? (i := 1049) (by decide +kernel), List.mem_of_getElem? (i := 1050) (by decide +kernel)⟩
def lw_privs_5 : List (MethodName × Nat) := [(⟨"DeedProofsModel", "test", "(I)V"⟩, 15), (⟨"DeedProofsModel", "lettersIn", "(II)I"⟩, 15), (⟨"DeedProofsModel", "termLetters", "(I)I"⟩, 15), (⟨"DeedProofsModel", "isRule", "(I)Z"⟩, 15), (⟨"DeedProofsModel", "changeOn", "(II)I"⟩, 15), (⟨"DeedProofsModel", "textOn", "(II)I"⟩, 15), (⟨"DeedProofsModel", "isPaper", "(I)Z"⟩, 15), (⟨"DeedProofsModel", "works", "(I)V"⟩, 15), (⟨"DeedProofsModel", "begins", "()V"⟩, 15), (⟨"DeedProofsModel", "sets", "(I)V"⟩, 15), (⟨"DeedProofsModel", "isPlain", "(I)Z"⟩, 15), (⟨"DeedProofsModel", "areBelow", "(II)Z"⟩, 15), (⟨"DeedProofsModel", "factAt", "(I)I"⟩, 15), (⟨"DeedProofsModel", "value", "(I)I"⟩, 15), (⟨"DeedProofsModel", "testsHold", "(I)Z"⟩, 15), (⟨"DeedProofsModel", "sizes", "(I)V"⟩, 15)]
theorem lw_r5 : ∀ q ∈ lw_privs_5, lw_okq q := List.forall_mem_cons.mpr ⟨lw_p64, List.forall_mem_cons.mpr ⟨lw_p65, List.forall_mem_cons.mpr ⟨lw_p66, List.forall_mem_cons.mpr ⟨lw_p67, List.forall_mem_cons.mpr ⟨lw_p68, List.forall_mem_cons.mpr ⟨lw_p69, List.forall_mem_cons.mpr ⟨lw_p70, List.forall_mem_cons.mpr ⟨lw_p71, List.forall_mem_cons.mpr ⟨lw_p72, List.forall_mem_cons.mpr ⟨lw_p73, List.forall_mem_cons.mpr ⟨lw_p74, List.forall_mem_cons.mpr ⟨lw_p75, List.forall_mem_cons.mpr ⟨lw_p76, List.forall_mem_cons.mpr ⟨lw_p77, List.forall_mem_cons.mpr ⟨lw_p78, List.forall_mem_cons.mpr ⟨lw_p79, fun _ h => absurd h List.not_mem_nil⟩⟩⟩⟩⟩⟩⟩⟩⟩⟩⟩⟩⟩⟩⟩⟩
theorem lw_p80 : lw_okq (⟨"DeedProofsModel", "isProof", "(I)Z"⟩, 15) := ⟨⟨by decide +kernel, by decide +kernel⟩, List.mem_of_getElem? (i := 863) (by decide +kernel), List.mem_of_getElem? (i := 1065) (by decide +kernel), List.mem_of_getElem? (i := 1066) (by decide +kernel)⟩
theorem lw_p81 : lw_okq (⟨"DeedProofsModel", "isUsed", "(I)Z"⟩, 15) := ⟨⟨by decide +kernel, by decide +kernel⟩, List.mem_of_getElem? (i := 863) (by decide +kernel), List.mem_of_getElem? (i := 1069) (by decide +kernel), List.mem_of_getElem? (i := 1070) (by decide +kernel)⟩
theorem lw_p82 : lw_okq (⟨"DeedProofsModel", "usesEnds", "(I)Z"⟩, 15) := ⟨⟨by decide +kernel, by decide +kernel⟩, List.mem_of_getElem? (i := 863) (by decide +kernel), List.mem_of_getElem? (i := 1073) (by decide +kernel), List.mem_of_getElem? (i := 1074) (by decide +kernel)⟩
theorem lw_p83 : lw_okq (⟨"DeedProofsModel", "isStep", "(II)Z"⟩, 15) := ⟨⟨by decide +kernel, by decide +kernel⟩, List.mem_of_getElem? (i := 863) (by decide +kernel), List.mem_of_getElem? (i := 1084) (by decide +kernel), List.mem_of_getElem? (i := 1085) (by decide +kernel)⟩
theorem lw_p84 : lw_okq (⟨"DeedProofsModel", "lacksOn", "(III)I"⟩, 15) := ⟨⟨by decide +kernel, by decide +kernel⟩, List.mem_of_getElem? (i := 863) (by decide +kernel), List.mem_of_getElem? (i := 1088) (by decide +kernel), List.mem_of_getElem? (i := 1089) (by decide +kernel)⟩
theorem lw_p85 : lw_okq (⟨"DeedProofsModel", "isFrom", "(IIII)Z"⟩, 15) := ⟨⟨by decide +kernel, by decide +kernel⟩, List.mem_of_getElem? (i := 863) (by decide +kernel), List.mem_of_getElem? (i := 1092) (by decide +kernel), List.mem_of_getElem? (i := 1093) (by decide +kernel)⟩
theorem lw_p86 : lw_okq (⟨"DeedProofsModel", "termOn", "(IIII)I"⟩, 15) := ⟨⟨by decide +kernel, by decide +kernel⟩, List.mem_of_getElem? (i := 863) (by decide +kernel), List.mem_of_getElem? (i := 1096) (by decide +kernel), List.mem_of_getElem? (i := 1097) (by decide +kernel)⟩
theorem lw_p87 : lw_okq (⟨"DeedProofsModel", "saysOn", "(III)I"⟩, 15) := ⟨⟨by decide +kernel, by decide +kernel⟩, List.mem_of_getElem? (i := 863) (by decide +kernel), List.mem_of_getElem? (i := 1100) (by decide +kernel), List.mem_of_getElem? (i := 1101) (by decide +kernel)⟩
theorem lw_p88 : lw_okq (⟨"DeedProofsModel", "isTaken", "(II)Z"⟩, 15) := ⟨⟨by decide +kernel, by decide +kernel⟩, List.mem_of_getElem? (i := 863) (by decide +kernel), List.mem_of_getElem? (i := 1104) (by decide +kernel), List.mem_of_getElem? (i := 1105) (by decide +kernel)⟩
theorem lw_p89 : lw_okq (⟨"DeedProofsModel", "holesOf", "(II)I"⟩, 15) := ⟨⟨by decide +kernel, by decide +kernel⟩, List.mem_of_getElem? (i := 863) (by decide +kernel), List.mem_of_getElem? (i := 1108) (by decide +kernel), List.mem_of_getElem? (i := 1109) (by decide +kernel)⟩
theorem lw_p90 : lw_okq (⟨"DeedProofsModel", "leansOf", "(I)I"⟩, 15) := ⟨⟨by decide +kernel, by decide +kernel⟩, List.mem_of_getElem? (i := 863) (by decide +kernel), List.mem_of_getElem? (i := 1124) (by decide +kernel), List.mem_of_getElem? (i := 1125) (by decide +kernel)⟩
theorem lw_p91 : lw_okq (⟨"DeedProofsModel", "leansFrom", "(III)I"⟩, 15) := ⟨⟨by decide +kernel, by decide +kernel⟩, List.mem_of_getElem? (i := 863) (by decide +kernel), List.mem_of_getElem? (i := 1140) (by decide +kernel), List.mem_of_getElem? (i := 1141) (by decide +kernel)⟩
theorem lw_p92 : lw_okq (⟨"DeedProofsModel", "showsFrom", "(III)I"⟩, 15) := ⟨⟨by decide +kernel, by decide +kernel⟩, List.mem_of_getElem? (i := 863) (by decide +kernel), List.mem_of_getElem? (i := 1147) (by decide +kernel), List.mem_of_getElem? (i := 1148) (by decide +kernel)⟩
theorem lw_p93 : lw_okq (⟨"DeedProofsModel", "endsFrom", "(III)I"⟩, 15) := ⟨⟨by decide +kernel, by decide +kernel⟩, List.mem_of_getElem? (i := 863) (by decide +kernel), List.mem_of_getElem? (i := 1151) (by decide +kernel), List.mem_of_getElem? (i := 1152) (by decide +kernel)⟩
theorem lw_p94 : lw_okq (⟨"DeedProofsModel", "isTitle", "(I)Z"⟩, 15) := ⟨⟨by decide +kernel, by decide +kernel⟩, List.mem_of_getElem? (i := 863) (by decide +kernel), List.mem_of_getElem? (i := 1167) (by decide +kernel), List.mem_of_getElem? (i := 1168) (by decide +kernel)⟩
theorem lw_p95 : lw_okq (⟨"DeedProofsModel", "standsOn", "(II)I"⟩, 15) := ⟨⟨by decide +kernel, by decide +kernel⟩, List.mem_of_getElem? (i := 863) (by decide +kernel), List.mem_of_getElem? (i := 1171) (by decide +kernel), List.mem_of_getElem? (i := 1172) (by decide +kernel)⟩
def lw_privs_6 : List (MethodName × Nat) := [(⟨"DeedProofsModel", "isProof", "(I)Z"⟩, 15), (⟨"DeedProofsModel", "isUsed", "(I)Z"⟩, 15), (⟨"DeedProofsModel", "usesEnds", "(I)Z"⟩, 15), (⟨"DeedProofsModel", "isStep", "(II)Z"⟩, 15), (⟨"DeedProofsModel", "lacksOn", "(III)I"⟩, 15), (⟨"DeedProofsModel", "isFrom", "(IIII)Z"⟩, 15), (⟨"DeedProofsModel", "termOn", "(IIII)I"⟩, 15), (⟨"DeedProofsModel", "saysOn", "(III)I"⟩, 15), (⟨"DeedProofsModel", "isTaken", "(II)Z"⟩, 15), (⟨"DeedProofsModel", "holesOf", "(II)I"⟩, 15), (⟨"DeedProofsModel", "leansOf", "(I)I"⟩, 15), (⟨"DeedProofsModel", "leansFrom", "(III)I"⟩, 15), (⟨"DeedProofsModel", "showsFrom", "(III)I"⟩, 15), (⟨"DeedProofsModel", "endsFrom", "(III)I"⟩, 15), (⟨"DeedProofsModel", "isTitle", "(I)Z"⟩, 15), (⟨"DeedProofsModel", "standsOn", "(II)I"⟩, 15)]
theorem lw_r6 : ∀ q ∈ lw_privs_6, lw_okq q := List.forall_mem_cons.mpr ⟨lw_p80, List.forall_mem_cons.mpr ⟨lw_p81, List.forall_mem_cons.mpr ⟨lw_p82, List.forall_mem_cons.mpr ⟨lw_p83, List.forall_mem_cons.mpr ⟨lw_p84, List.forall_mem_cons.mpr ⟨lw_p85, List.forall_mem_cons.mpr ⟨lw_p86, List.forall_mem_cons.mpr ⟨lw_p87, List.forall_mem_cons.mpr ⟨lw_p88, List.forall_mem_cons.mpr ⟨lw_p89, List.forall_mem_cons.mpr ⟨lw_p90, List.forall_mem_cons.mpr ⟨lw_p91, List.forall_mem_cons.mpr ⟨lw_p92, List.forall_mem_cons.mpr ⟨lw_p93, List.forall_mem_cons.mpr ⟨lw_p94, List.forall_mem_cons.mpr ⟨lw_p95, fun _ h => absurd h List.not_mem_nil⟩⟩⟩⟩⟩⟩⟩⟩⟩⟩⟩⟩⟩⟩⟩⟩
theorem lw_p96 : lw_okq (⟨"DeedProofsModel", "followsOn", "(II)Z"⟩, 15) := ⟨⟨by decide +kernel, by decide +kernel⟩, List.mem_of_getElem? (i := 863) (by decide +kernel), List.mem_of_getElem? (i := 1175) (by decide +kernel), List.mem_of_getElem? (i := 1176) (by decide +kernel)⟩
theorem lw_p97 : lw_okq (⟨"DeedProofsModel", "fewest", "(III)I"⟩, 15) := ⟨⟨by decide +kernel, by decide +kernel⟩, List.mem_of_getElem? (i := 863) (by decide +kernel), List.mem_of_getElem? (i := 1202) (by decide +kernel), List.mem_of_getElem? (i := 1203) (by decide +kernel)⟩
theorem lw_p98 : lw_okq (⟨"DeedProofsModel", "readsTactic", "()V"⟩, 15) := ⟨⟨by decide +kernel, by decide +kernel⟩, List.mem_of_getElem? (i := 863) (by decide +kernel), List.mem_of_getElem? (i := 1214) (by decide +kernel), List.mem_of_getElem? (i := 1215) (by decide +kernel)⟩
theorem lw_p99 : lw_okq (⟨"DeedProofsModel", "readsPiece", "()V"⟩, 15) := ⟨⟨by decide +kernel, by decide +kernel⟩, List.mem_of_getElem? (i := 863) (by decide +kernel), List.mem_of_getElem? (i := 1218) (by decide +kernel), List.mem_of_getElem? (i := 1219) (by decide +kernel)⟩
theorem lw_p100 : lw_okq (⟨"DeedProofsModel", "readsTry", "()V"⟩, 15) := ⟨⟨by decide +kernel, by decide +kernel⟩, List.mem_of_getElem? (i := 863) (by decide +kernel), List.mem_of_getElem? (i := 1222) (by decide +kernel), List.mem_of_getElem? (i := 1223) (by decide +kernel)⟩
theorem lw_p101 : lw_okq (⟨"DeedProofsModel", "runsTactic", "(I)Z"⟩, 15) := ⟨⟨by decide +kernel, by decide +kernel⟩, List.mem_of_getElem? (i := 863) (by decide +kernel), List.mem_of_getElem? (i := 1230) (by decide +kernel), List.mem_of_getElem? (i := 1231) (by decide +kernel)⟩
theorem lw_p102 : lw_okq (⟨"DeedProofsModel", "runsTry", "(I)Z"⟩, 15) := ⟨⟨by decide +kernel, by decide +kernel⟩, List.mem_of_getElem? (i := 863) (by decide +kernel), List.mem_of_getElem? (i := 1234) (by decide +kernel), List.mem_of_getElem? (i := 1235) (by decide +kernel)⟩
theorem lw_p103 : lw_okq (⟨"DeedProofsModel", "behindTry", "(I)I"⟩, 15) := ⟨⟨by decide +kernel, by decide +kernel⟩, List.mem_of_getElem? (i := 863) (by decide +kernel), List.mem_of_getElem? (i := 1238) (by decide +kernel), List.mem_of_getElem? (i := 1239) (by decide +kernel)⟩
theorem lw_p104 : lw_okq (⟨"DeedProofsModel", "byteAt", "(I)I"⟩, 15) := ⟨⟨by decide +kernel, by decide +kernel⟩, List.mem_of_getElem? (i := 863) (by decide +kernel), List.mem_of_getElem? (i := 1242) (by decide +kernel), List.mem_of_getElem? (i := 1243) (by decide +kernel)⟩
theorem lw_p105 : lw_okq (⟨"DeedProofsModel", "runsOnce", "(I)Z"⟩, 15) := ⟨⟨by decide +kernel, by decide +kernel⟩, List.mem_of_getElem? (i := 863) (by decide +kernel), List.mem_of_getElem? (i := 1246) (by decide +kernel), List.mem_of_getElem? (i := 1247) (by decide +kernel)⟩
theorem lw_p106 : lw_okq (⟨"DeedProofsModel", "runs", "(I)Z"⟩, 15) := ⟨⟨by decide +kernel, by decide +kernel⟩, List.mem_of_getElem? (i := 863) (by decide +kernel), List.mem_of_getElem? (i := 1250) (by decide +kernel), List.mem_of_getElem? (i := 1251) (by decide +kernel)⟩
def lw_privs_7 : List (MethodName × Nat) := [(⟨"DeedProofsModel", "followsOn", "(II)Z"⟩, 15), (⟨"DeedProofsModel", "fewest", "(III)I"⟩, 15), (⟨"DeedProofsModel", "readsTactic", "()V"⟩, 15), (⟨"DeedProofsModel", "readsPiece", "()V"⟩, 15), (⟨"DeedProofsModel", "readsTry", "()V"⟩, 15), (⟨"DeedProofsModel", "runsTactic", "(I)Z"⟩, 15), (⟨"DeedProofsModel", "runsTry", "(I)Z"⟩, 15), (⟨"DeedProofsModel", "behindTry", "(I)I"⟩, 15), (⟨"DeedProofsModel", "byteAt", "(I)I"⟩, 15), (⟨"DeedProofsModel", "runsOnce", "(I)Z"⟩, 15), (⟨"DeedProofsModel", "runs", "(I)Z"⟩, 15)]
theorem lw_r7 : ∀ q ∈ lw_privs_7, lw_okq q := List.forall_mem_cons.mpr ⟨lw_p96, List.forall_mem_cons.mpr ⟨lw_p97, List.forall_mem_cons.mpr ⟨lw_p98, List.forall_mem_cons.mpr ⟨lw_p99, List.forall_mem_cons.mpr ⟨lw_p100, List.forall_mem_cons.mpr ⟨lw_p101, List.forall_mem_cons.mpr ⟨lw_p102, List.forall_mem_cons.mpr ⟨lw_p103, List.forall_mem_cons.mpr ⟨lw_p104, List.forall_mem_cons.mpr ⟨lw_p105, List.forall_mem_cons.mpr ⟨lw_p106, fun _ h => absurd h List.not_mem_nil⟩⟩⟩⟩⟩⟩⟩⟩⟩⟩⟩
def lw_privs : List (MethodName × Nat) := lw_privs_1 ++ (lw_privs_2 ++ (lw_privs_3 ++ (lw_privs_4 ++ (lw_privs_5 ++ (lw_privs_6 ++ (lw_privs_7))))))
def lw_tbl : List Cond := k2_sels lw_privs ++ tables_1
theorem lw_privs_ok : ∀ q ∈ lw_privs, lw_okq q := by
  show ∀ q ∈ lw_privs_1 ++ (lw_privs_2 ++ (lw_privs_3 ++ (lw_privs_4 ++ (lw_privs_5 ++ (lw_privs_6 ++ (lw_privs_7)))))), lw_okq q
  exact List.forall_mem_append.mpr ⟨lw_r1, List.forall_mem_append.mpr ⟨lw_r2, List.forall_mem_append.mpr ⟨lw_r3, List.forall_mem_append.mpr ⟨lw_r4, List.forall_mem_append.mpr ⟨lw_r5, List.forall_mem_append.mpr ⟨lw_r6, lw_r7⟩⟩⟩⟩⟩⟩
end
section
/-! names of the classes: fields in the order of the slots; printed by program from the claim (NAMES) -/
def RX0 : String := "DeedProofs$Book"
def TX0 : u_T := fun k => match k with
  | 0 => ("DeedProofs$Book", "counts", "[I", true)
  | 1 => ("DeedProofs$Book", "tape", "[B", true)
  | 2 => ("DeedProofs$Book", "texts", "[LDeedProofs$Text;", true)
  | 3 => ("DeedProofs$Book", "changeRule", "[I", true)
  | 4 => ("DeedProofs$Book", "changeDay", "[I", true)
  | 5 => ("DeedProofs$Book", "paperFact", "[I", true)
  | 6 => ("DeedProofs$Book", "paperPerson", "[I", true)
  | 7 => ("DeedProofs$Book", "truePapers", "I", false)
  | 8 => ("DeedProofs$Book", "proofKind", "[I", true)
  | 9 => ("DeedProofs$Book", "stepCount", "[I", true)
  | 10 => ("DeedProofs$Book", "stepRows", "[I", true)
  | 11 => ("DeedProofs$Book", "titleProof", "[I", true)
  | 12 => ("DeedProofs$Book", "titleFact", "[I", true)
  | 13 => ("DeedProofs$Book", "titleDay", "[I", true)
  | 14 => ("DeedProofs$Book", "tacticSize", "[I", true)
  | 15 => ("DeedProofs$Book", "tacticBytes", "[B", true)
  | 16 => ("DeedProofs$Book", "found", "[Z", true)
  | _ => ("DeedProofs$Book", "hasRun", "Z", false)
def tyX0 : Nat → FieldType := fun k => match k with
  | 0 => .array .int
  | 1 => .array .byte
  | 2 => .array (.object "DeedProofs$Text")
  | 3 => .array .int
  | 4 => .array .int
  | 5 => .array .int
  | 6 => .array .int
  | 7 => .int
  | 8 => .array .int
  | 9 => .array .int
  | 10 => .array .int
  | 11 => .array .int
  | 12 => .array .int
  | 13 => .array .int
  | 14 => .array .int
  | 15 => .array .byte
  | 16 => .array .boolean
  | _ => .boolean
theorem nmX0 : ∀ a, a < 18 → ∀ b, b < 18 → a ≠ b → (TX0 a).2.1 ≠ (TX0 b).2.1 := by decide +kernel
theorem tyX0_ok : ∀ k, k < 18 → parseFieldDescriptor (TX0 k).2.2.1 = some (tyX0 k) := by decide +kernel
abbrev cX0_init : ByteArray := prog_2_method_1_code
def yX0_init : MethodName := ⟨RX0, "<init>", "()V"⟩
abbrev cX0_become : ByteArray := prog_2_method_2_code
def yX0_become : MethodName := ⟨RX0, "become", "(LDeedProofs$Book;)V"⟩
abbrev cX0_has : ByteArray := prog_2_method_3_code
def yX0_has : MethodName := ⟨RX0, "has", "(II)Z"⟩
abbrev cX0_hasStep : ByteArray := prog_2_method_4_code
def yX0_hasStep : MethodName := ⟨RX0, "hasStep", "(II)Z"⟩
abbrev cX0_isTrue : ByteArray := prog_2_method_5_code
def yX0_isTrue : MethodName := ⟨RX0, "isTrue", "(I)Z"⟩
abbrev cX0_changeOn : ByteArray := prog_2_method_6_code
def yX0_changeOn : MethodName := ⟨RX0, "changeOn", "(II)I"⟩
abbrev cX0_textOn : ByteArray := prog_2_method_7_code
def yX0_textOn : MethodName := ⟨RX0, "textOn", "(II)LDeedProofs$Text;"⟩
abbrev cX0_rowOf : ByteArray := prog_2_method_8_code
def yX0_rowOf : MethodName := ⟨RX0, "rowOf", "(II)I"⟩
abbrev cX0_takesHoles : ByteArray := prog_2_method_9_code
def yX0_takesHoles : MethodName := ⟨RX0, "takesHoles", "(I)Z"⟩
abbrev cX0_takesEnds : ByteArray := prog_2_method_10_code
def yX0_takesEnds : MethodName := ⟨RX0, "takesEnds", "(I)Z"⟩
abbrev cX0_endIn : ByteArray := prog_2_method_11_code
def yX0_endIn : MethodName := ⟨RX0, "endIn", "(II)I"⟩
abbrev cX0_isTitled : ByteArray := prog_2_method_12_code
def yX0_isTitled : MethodName := ⟨RX0, "isTitled", "(I)Z"⟩
abbrev cX0_isTitleOf : ByteArray := prog_2_method_13_code
def yX0_isTitleOf : MethodName := ⟨RX0, "isTitleOf", "(I)Z"⟩
abbrev cX0_isUsed : ByteArray := prog_2_method_14_code
def yX0_isUsed : MethodName := ⟨RX0, "isUsed", "(I)Z"⟩
abbrev cX0_holesOf : ByteArray := prog_2_method_15_code
def yX0_holesOf : MethodName := ⟨RX0, "holesOf", "(I)I"⟩
abbrev cX0_countSources : ByteArray := prog_2_method_16_code
def yX0_countSources : MethodName := ⟨RX0, "countSources", "(II)I"⟩
abbrev cX0_placeOfHole : ByteArray := prog_2_method_17_code
def yX0_placeOfHole : MethodName := ⟨RX0, "placeOfHole", "(II)I"⟩
def RX1 : String := "DeedProofs$Cut"
def TX1 : u_T := fun k => match k with
  | _ => ("", "", "", false)
def tyX1 : Nat → FieldType := fun k => match k with
  | _ => .int
theorem nmX1 : ∀ a, a < 0 → ∀ b, b < 0 → a ≠ b → (TX1 a).2.1 ≠ (TX1 b).2.1 := by decide +kernel
theorem tyX1_ok : ∀ k, k < 0 → parseFieldDescriptor (TX1 k).2.2.1 = some (tyX1 k) := by decide +kernel
abbrev cX1_init : ByteArray := prog_3_method_1_code
def yX1_init : MethodName := ⟨RX1, "<init>", "()V"⟩
abbrev cX1_actEnds : ByteArray := prog_3_method_2_code
def yX1_actEnds : MethodName := ⟨RX1, "actEnds", "(III)I"⟩
def RX2 : String := "DeedProofs$Judge"
def TX2 : u_T := fun k => match k with
  | 0 => ("DeedProofs$Judge", "book", "LDeedProofs$Book;", true)
  | 1 => ("DeedProofs$Judge", "lack", "[I", true)
  | 2 => ("DeedProofs$Judge", "fact", "[I", true)
  | 3 => ("DeedProofs$Judge", "taken", "[Z", true)
  | 4 => ("DeedProofs$Judge", "under", "[I", true)
  | 5 => ("DeedProofs$Judge", "values", "[I", true)
  | _ => ("DeedProofs$Judge", "papers", "I", false)
def tyX2 : Nat → FieldType := fun k => match k with
  | 0 => .object "DeedProofs$Book"
  | 1 => .array .int
  | 2 => .array .int
  | 3 => .array .boolean
  | 4 => .array .int
  | 5 => .array .int
  | _ => .int
theorem nmX2 : ∀ a, a < 7 → ∀ b, b < 7 → a ≠ b → (TX2 a).2.1 ≠ (TX2 b).2.1 := by decide +kernel
theorem tyX2_ok : ∀ k, k < 7 → parseFieldDescriptor (TX2 k).2.2.1 = some (tyX2 k) := by decide +kernel
abbrev cX2_init : ByteArray := prog_4_method_1_code
def yX2_init : MethodName := ⟨RX2, "<init>", "(LDeedProofs$Book;)V"⟩
abbrev cX2_weigh : ByteArray := prog_4_method_2_code
def yX2_weigh : MethodName := ⟨RX2, "weigh", "(III)V"⟩
abbrev cX2_lackOf : ByteArray := prog_4_method_3_code
def yX2_lackOf : MethodName := ⟨RX2, "lackOf", "(III)I"⟩
abbrev cX2_gives : ByteArray := prog_4_method_4_code
def yX2_gives : MethodName := ⟨RX2, "gives", "(IIII)Z"⟩
abbrev cX2_factOfStep : ByteArray := prog_4_method_5_code
def yX2_factOfStep : MethodName := ⟨RX2, "factOfStep", "(III)I"⟩
abbrev cX2_factOfTerm : ByteArray := prog_4_method_6_code
def yX2_factOfTerm : MethodName := ⟨RX2, "factOfTerm", "(III)I"⟩
abbrev cX2_saidBy : ByteArray := prog_4_method_7_code
def yX2_saidBy : MethodName := ⟨RX2, "saidBy", "(III)I"⟩
abbrev cX2_papersUnder : ByteArray := prog_4_method_8_code
def yX2_papersUnder : MethodName := ⟨RX2, "papersUnder", "(I)I"⟩
abbrev cX2_papersUnderStep : ByteArray := prog_4_method_9_code
def yX2_papersUnderStep : MethodName := ⟨RX2, "papersUnderStep", "(II)I"⟩
def RX3 : String := "DeedProofs$Line"
def TX3 : u_T := fun k => match k with
  | _ => ("", "", "", false)
def tyX3 : Nat → FieldType := fun k => match k with
  | _ => .int
theorem nmX3 : ∀ a, a < 0 → ∀ b, b < 0 → a ≠ b → (TX3 a).2.1 ≠ (TX3 b).2.1 := by decide +kernel
theorem tyX3_ok : ∀ k, k < 0 → parseFieldDescriptor (TX3 k).2.2.1 = some (tyX3 k) := by decide +kernel
abbrev cX3_init : ByteArray := prog_5_method_1_code
def yX3_init : MethodName := ⟨RX3, "<init>", "()V"⟩
abbrev cX3_actLeans : ByteArray := prog_5_method_2_code
def yX3_actLeans : MethodName := ⟨RX3, "actLeans", "(III)I"⟩
abbrev cX3_actShows : ByteArray := prog_5_method_3_code
def yX3_actShows : MethodName := ⟨RX3, "actShows", "(III)I"⟩
abbrev cX3_actEnds : ByteArray := prog_5_method_4_code
def yX3_actEnds : MethodName := ⟨RX3, "actEnds", "(III)I"⟩
def RX4 : String := "DeedProofs$Open"
def TX4 : u_T := fun k => match k with
  | _ => ("", "", "", false)
def tyX4 : Nat → FieldType := fun k => match k with
  | _ => .int
theorem nmX4 : ∀ a, a < 0 → ∀ b, b < 0 → a ≠ b → (TX4 a).2.1 ≠ (TX4 b).2.1 := by decide +kernel
theorem tyX4_ok : ∀ k, k < 0 → parseFieldDescriptor (TX4 k).2.2.1 = some (tyX4 k) := by decide +kernel
abbrev cX4_init : ByteArray := prog_6_method_1_code
def yX4_init : MethodName := ⟨RX4, "<init>", "()V"⟩
abbrev cX4_actShows : ByteArray := prog_6_method_2_code
def yX4_actShows : MethodName := ⟨RX4, "actShows", "(III)I"⟩
abbrev cX4_actEnds : ByteArray := prog_6_method_3_code
def yX4_actEnds : MethodName := ⟨RX4, "actEnds", "(III)I"⟩
def RX5 : String := "DeedProofs$Piece"
def TX5 : u_T := fun k => match k with
  | _ => ("", "", "", false)
def tyX5 : Nat → FieldType := fun k => match k with
  | _ => .int
theorem nmX5 : ∀ a, a < 0 → ∀ b, b < 0 → a ≠ b → (TX5 a).2.1 ≠ (TX5 b).2.1 := by decide +kernel
theorem tyX5_ok : ∀ k, k < 0 → parseFieldDescriptor (TX5 k).2.2.1 = some (tyX5 k) := by decide +kernel
abbrev cX5_init : ByteArray := prog_7_method_1_code
def yX5_init : MethodName := ⟨RX5, "<init>", "()V"⟩
abbrev cX5_actLeans : ByteArray := prog_7_method_2_code
def yX5_actLeans : MethodName := ⟨RX5, "actLeans", "(III)I"⟩
def RX6 : String := "DeedProofs$Reach"
def TX6 : u_T := fun k => match k with
  | 0 => ("DeedProofs$Reach", "book", "LDeedProofs$Book;", true)
  | 1 => ("DeedProofs$Reach", "cost", "[I", true)
  | 2 => ("DeedProofs$Reach", "reached", "[I", true)
  | 3 => ("DeedProofs$Reach", "size", "I", false)
  | 4 => ("DeedProofs$Reach", "settled", "[Z", true)
  | 5 => ("DeedProofs$Reach", "bySize", "Z", false)
  | 6 => ("DeedProofs$Reach", "inForce", "[LDeedProofs$Text;", true)
  | _ => ("DeedProofs$Reach", "values", "[I", true)
def tyX6 : Nat → FieldType := fun k => match k with
  | 0 => .object "DeedProofs$Book"
  | 1 => .array .int
  | 2 => .array .int
  | 3 => .int
  | 4 => .array .boolean
  | 5 => .boolean
  | 6 => .array (.object "DeedProofs$Text")
  | _ => .array .int
theorem nmX6 : ∀ a, a < 8 → ∀ b, b < 8 → a ≠ b → (TX6 a).2.1 ≠ (TX6 b).2.1 := by decide +kernel
theorem tyX6_ok : ∀ k, k < 8 → parseFieldDescriptor (TX6 k).2.2.1 = some (tyX6 k) := by decide +kernel
abbrev cX6_init : ByteArray := prog_8_method_1_code
def yX6_init : MethodName := ⟨RX6, "<init>", "(LDeedProofs$Book;)V"⟩
abbrev cX6_has : ByteArray := prog_8_method_2_code
def yX6_has : MethodName := ⟨RX6, "has", "(I)Z"⟩
abbrev cX6_begin : ByteArray := prog_8_method_3_code
def yX6_begin : MethodName := ⟨RX6, "begin", "(IZ)V"⟩
abbrev cX6_spread : ByteArray := prog_8_method_4_code
def yX6_spread : MethodName := ⟨RX6, "spread", "(IIZ)V"⟩
abbrev cX6_bringLeast : ByteArray := prog_8_method_5_code
def yX6_bringLeast : MethodName := ⟨RX6, "bringLeast", "(I)V"⟩
abbrev cX6_useIn : ByteArray := prog_8_method_6_code
def yX6_useIn : MethodName := ⟨RX6, "useIn", "(LDeedProofs$Text;I)V"⟩
abbrev cX6_useOnce : ByteArray := prog_8_method_7_code
def yX6_useOnce : MethodName := ⟨RX6, "useOnce", "(LDeedProofs$Text;)V"⟩
abbrev cX6_settleFrom : ByteArray := prog_8_method_8_code
def yX6_settleFrom : MethodName := ⟨RX6, "settleFrom", "(I)V"⟩
abbrev cX6_bind : ByteArray := prog_8_method_9_code
def yX6_bind : MethodName := ⟨RX6, "bind", "(LDeedProofs$Text;II)Z"⟩
abbrev cX6_bindArg : ByteArray := prog_8_method_10_code
def yX6_bindArg : MethodName := ⟨RX6, "bindArg", "(II)Z"⟩
abbrev cX6_complete : ByteArray := prog_8_method_11_code
def yX6_complete : MethodName := ⟨RX6, "complete", "(LDeedProofs$Text;I)V"⟩
abbrev cX6_conclude : ByteArray := prog_8_method_12_code
def yX6_conclude : MethodName := ⟨RX6, "conclude", "(LDeedProofs$Text;)V"⟩
abbrev cX6_arrive : ByteArray := prog_8_method_13_code
def yX6_arrive : MethodName := ⟨RX6, "arrive", "(II)V"⟩
def RX7 : String := "DeedProofs$RuleReader"
def TX7 : u_T := fun k => match k with
  | 0 => ("DeedProofs$RuleReader", "tape", "[B", false)
  | 1 => ("DeedProofs$RuleReader", "size", "I", false)
  | 2 => ("DeedProofs$RuleReader", "at", "I", false)
  | 3 => ("DeedProofs$RuleReader", "text", "LDeedProofs$Text;", false)
  | _ => ("DeedProofs$RuleReader", "askedLetters", "I", false)
def tyX7 : Nat → FieldType := fun k => match k with
  | 0 => .array .byte
  | 1 => .int
  | 2 => .int
  | 3 => .object "DeedProofs$Text"
  | _ => .int
theorem nmX7 : ∀ a, a < 5 → ∀ b, b < 5 → a ≠ b → (TX7 a).2.1 ≠ (TX7 b).2.1 := by decide +kernel
theorem tyX7_ok : ∀ k, k < 5 → parseFieldDescriptor (TX7 k).2.2.1 = some (tyX7 k) := by decide +kernel
abbrev cX7_init : ByteArray := prog_9_method_1_code
def yX7_init : MethodName := ⟨RX7, "<init>", "()V"⟩
abbrev cX7_read : ByteArray := prog_9_method_2_code
def yX7_read : MethodName := ⟨RX7, "read", "([BILDeedProofs$Text;)I"⟩
abbrev cX7_readParts : ByteArray := prog_9_method_3_code
def yX7_readParts : MethodName := ⟨RX7, "readParts", "()Z"⟩
abbrev cX7_readPart : ByteArray := prog_9_method_4_code
def yX7_readPart : MethodName := ⟨RX7, "readPart", "()Z"⟩
abbrev cX7_readTerm : ByteArray := prog_9_method_5_code
def yX7_readTerm : MethodName := ⟨RX7, "readTerm", "(I)Z"⟩
abbrev cX7_readTest : ByteArray := prog_9_method_6_code
def yX7_readTest : MethodName := ⟨RX7, "readTest", "(I)Z"⟩
abbrev cX7_readArg : ByteArray := prog_9_method_7_code
def yX7_readArg : MethodName := ⟨RX7, "readArg", "(Z)I"⟩
abbrev cX7_placeIn : ByteArray := prog_9_method_8_code
def yX7_placeIn : MethodName := ⟨RX7, "placeIn", "(Ljava/lang/String;)I"⟩
abbrev cX7_skip : ByteArray := prog_9_method_9_code
def yX7_skip : MethodName := ⟨RX7, "skip", "(C)Z"⟩
def RX8 : String := "DeedProofs$Shared"
def TX8 : u_T := fun k => match k with
  | _ => ("", "", "", false)
def tyX8 : Nat → FieldType := fun k => match k with
  | _ => .int
theorem nmX8 : ∀ a, a < 0 → ∀ b, b < 0 → a ≠ b → (TX8 a).2.1 ≠ (TX8 b).2.1 := by decide +kernel
theorem tyX8_ok : ∀ k, k < 0 → parseFieldDescriptor (TX8 k).2.2.1 = some (tyX8 k) := by decide +kernel
abbrev cX8_init : ByteArray := prog_10_method_1_code
def yX8_init : MethodName := ⟨RX8, "<init>", "()V"⟩
abbrev cX8_actShows : ByteArray := prog_10_method_2_code
def yX8_actShows : MethodName := ⟨RX8, "actShows", "(III)I"⟩
def RX9 : String := "DeedProofs$Tactician"
def TX9 : u_T := fun k => match k with
  | 0 => ("DeedProofs$Tactician", "book", "LDeedProofs$Book;", true)
  | 1 => ("DeedProofs$Tactician", "reach", "LDeedProofs$Reach;", true)
  | 2 => ("DeedProofs$Tactician", "spent", "I", false)
  | 3 => ("DeedProofs$Tactician", "limit", "I", false)
  | 4 => ("DeedProofs$Tactician", "start", "I", false)
  | _ => ("DeedProofs$Tactician", "size", "I", false)
def tyX9 : Nat → FieldType := fun k => match k with
  | 0 => .object "DeedProofs$Book"
  | 1 => .object "DeedProofs$Reach"
  | 2 => .int
  | 3 => .int
  | 4 => .int
  | _ => .int
theorem nmX9 : ∀ a, a < 6 → ∀ b, b < 6 → a ≠ b → (TX9 a).2.1 ≠ (TX9 b).2.1 := by decide +kernel
theorem tyX9_ok : ∀ k, k < 6 → parseFieldDescriptor (TX9 k).2.2.1 = some (tyX9 k) := by decide +kernel
abbrev cX9_init : ByteArray := prog_11_method_1_code
def yX9_init : MethodName := ⟨RX9, "<init>", "(LDeedProofs$Book;LDeedProofs$Reach;)V"⟩
abbrev cX9_faultOf : ByteArray := prog_11_method_2_code
def yX9_faultOf : MethodName := ⟨RX9, "faultOf", "([BI)I"⟩
abbrev cX9_play : ByteArray := prog_11_method_3_code
def yX9_play : MethodName := ⟨RX9, "play", "(II)V"⟩
abbrev cX9_signAt : ByteArray := prog_11_method_4_code
def yX9_signAt : MethodName := ⟨RX9, "signAt", "(I)I"⟩
abbrev cX9_playPieces : ByteArray := prog_11_method_5_code
def yX9_playPieces : MethodName := ⟨RX9, "playPieces", "(II)V"⟩
abbrev cX9_playTry : ByteArray := prog_11_method_6_code
def yX9_playTry : MethodName := ⟨RX9, "playTry", "(III)Z"⟩
abbrev cX9_endOfTry : ByteArray := prog_11_method_7_code
def yX9_endOfTry : MethodName := ⟨RX9, "endOfTry", "(I)I"⟩
def RX10 : String := "DeedProofs$Text"
def TX10 : u_T := fun k => match k with
  | 0 => ("DeedProofs$Text", "terms", "I", false)
  | 1 => ("DeedProofs$Text", "tests", "I", false)
  | 2 => ("DeedProofs$Text", "termLetters", "I", false)
  | 3 => ("DeedProofs$Text", "parts", "[I", true)
  | _ => ("DeedProofs$Text", "checks", "[I", true)
def tyX10 : Nat → FieldType := fun k => match k with
  | 0 => .int
  | 1 => .int
  | 2 => .int
  | 3 => .array .int
  | _ => .array .int
theorem nmX10 : ∀ a, a < 5 → ∀ b, b < 5 → a ≠ b → (TX10 a).2.1 ≠ (TX10 b).2.1 := by decide +kernel
theorem tyX10_ok : ∀ k, k < 5 → parseFieldDescriptor (TX10 k).2.2.1 = some (tyX10 k) := by decide +kernel
abbrev cX10_init : ByteArray := prog_12_method_1_code
def yX10_init : MethodName := ⟨RX10, "<init>", "()V"⟩
abbrev cX10_newValues : ByteArray := prog_12_method_2_code
def yX10_newValues : MethodName := ⟨RX10, "newValues", "()[I"⟩
abbrev cX10_putLetters : ByteArray := prog_12_method_3_code
def yX10_putLetters : MethodName := ⟨RX10, "putLetters", "(I[I)V"⟩
abbrev cX10_hasInTerms : ByteArray := prog_12_method_4_code
def yX10_hasInTerms : MethodName := ⟨RX10, "hasInTerms", "(I)Z"⟩
abbrev cX10_factOf : ByteArray := prog_12_method_5_code
def yX10_factOf : MethodName := ⟨RX10, "factOf", "(I[I)I"⟩
abbrev cX10_testsHold : ByteArray := prog_12_method_6_code
def yX10_testsHold : MethodName := ⟨RX10, "testsHold", "([I)Z"⟩
abbrev cX10_become : ByteArray := prog_12_method_7_code
def yX10_become : MethodName := ⟨RX10, "become", "(LDeedProofs$Text;)V"⟩
def RX11 : String := "DeedProofs"
def TX11 : u_T := fun k => match k with
  | 0 => ("DeedProofs", "book", "LDeedProofs$Book;", true)
  | 1 => ("DeedProofs", "judge", "LDeedProofs$Judge;", true)
  | 2 => ("DeedProofs", "reach", "LDeedProofs$Reach;", true)
  | 3 => ("DeedProofs", "tactician", "LDeedProofs$Tactician;", true)
  | 4 => ("DeedProofs", "reader", "LDeedProofs$RuleReader;", true)
  | 5 => ("DeedProofs", "kinds", "[LDeedProofs$Line;", true)
  | _ => ("DeedProofs", "kept", "LDeedProofs$Book;", false)
def tyX11 : Nat → FieldType := fun k => match k with
  | 0 => .object "DeedProofs$Book"
  | 1 => .object "DeedProofs$Judge"
  | 2 => .object "DeedProofs$Reach"
  | 3 => .object "DeedProofs$Tactician"
  | 4 => .object "DeedProofs$RuleReader"
  | 5 => .array (.object "DeedProofs$Line")
  | _ => .object "DeedProofs$Book"
theorem nmX11 : ∀ a, a < 7 → ∀ b, b < 7 → a ≠ b → (TX11 a).2.1 ≠ (TX11 b).2.1 := by decide +kernel
theorem tyX11_ok : ∀ k, k < 7 → parseFieldDescriptor (TX11 k).2.2.1 = some (tyX11 k) := by decide +kernel
abbrev cX11_init : ByteArray := prog_1_method_1_code
def yX11_init : MethodName := ⟨RX11, "<init>", "()V"⟩
abbrev cX11_day : ByteArray := prog_1_method_2_code
def yX11_day : MethodName := ⟨RX11, "day", "(I)I"⟩
abbrev cX11_feed : ByteArray := prog_1_method_3_code
def yX11_feed : MethodName := ⟨RX11, "feed", "(JI)I"⟩
abbrev cX11_rule : ByteArray := prog_1_method_4_code
def yX11_rule : MethodName := ⟨RX11, "rule", "()I"⟩
abbrev cX11_change : ByteArray := prog_1_method_5_code
def yX11_change : MethodName := ⟨RX11, "change", "(II)I"⟩
abbrev cX11_told : ByteArray := prog_1_method_6_code
def yX11_told : MethodName := ⟨RX11, "told", "(III)I"⟩
abbrev cX11_paper : ByteArray := prog_1_method_7_code
def yX11_paper : MethodName := ⟨RX11, "paper", "(II)I"⟩
abbrev cX11_shown : ByteArray := prog_1_method_8_code
def yX11_shown : MethodName := ⟨RX11, "shown", "(IZ)I"⟩
abbrev cX11_of : ByteArray := prog_1_method_9_code
def yX11_of : MethodName := ⟨RX11, "of", "(II)I"⟩
abbrev cX11_follows : ByteArray := prog_1_method_10_code
def yX11_follows : MethodName := ⟨RX11, "follows", "(III)I"⟩
abbrev cX11_many : ByteArray := prog_1_method_11_code
def yX11_many : MethodName := ⟨RX11, "many", "(I)I"⟩
abbrev cX11_proof : ByteArray := prog_1_method_12_code
def yX11_proof : MethodName := ⟨RX11, "proof", "(I)I"⟩
abbrev cX11_step : ByteArray := prog_1_method_13_code
def yX11_step : MethodName := ⟨RX11, "step", "(IIIIIII)I"⟩
abbrev cX11_lacks : ByteArray := prog_1_method_14_code
def yX11_lacks : MethodName := ⟨RX11, "lacks", "(III)I"⟩
abbrev cX11_says : ByteArray := prog_1_method_15_code
def yX11_says : MethodName := ⟨RX11, "says", "(III)I"⟩
abbrev cX11_check : ByteArray := prog_1_method_16_code
def yX11_check : MethodName := ⟨RX11, "check", "(II)I"⟩
abbrev cX11_leans : ByteArray := prog_1_method_17_code
def yX11_leans : MethodName := ⟨RX11, "leans", "(I)I"⟩
abbrev cX11_hole : ByteArray := prog_1_method_18_code
def yX11_hole : MethodName := ⟨RX11, "hole", "(II)I"⟩
abbrev cX11_fill : ByteArray := prog_1_method_19_code
def yX11_fill : MethodName := ⟨RX11, "fill", "(II)I"⟩
abbrev cX11_act : ByteArray := prog_1_method_20_code
def yX11_act : MethodName := ⟨RX11, "act", "(III)I"⟩
abbrev cX11_as : ByteArray := prog_1_method_21_code
def yX11_as : MethodName := ⟨RX11, "as", "(II)I"⟩
abbrev cX11_title : ByteArray := prog_1_method_22_code
def yX11_title : MethodName := ⟨RX11, "title", "(I)I"⟩
abbrev cX11_stand : ByteArray := prog_1_method_23_code
def yX11_stand : MethodName := ⟨RX11, "stand", "(II)I"⟩
abbrev cX11_fall : ByteArray := prog_1_method_24_code
def yX11_fall : MethodName := ⟨RX11, "fall", "(I)I"⟩
abbrev cX11_carry : ByteArray := prog_1_method_25_code
def yX11_carry : MethodName := ⟨RX11, "carry", "(II)I"⟩
abbrev cX11_clash : ByteArray := prog_1_method_26_code
def yX11_clash : MethodName := ⟨RX11, "clash", "(II)I"⟩
abbrev cX11_every : ByteArray := prog_1_method_27_code
def yX11_every : MethodName := ⟨RX11, "every", "(I)I"⟩
abbrev cX11_enough : ByteArray := prog_1_method_28_code
def yX11_enough : MethodName := ⟨RX11, "enough", "(II)I"⟩
abbrev cX11_could : ByteArray := prog_1_method_29_code
def yX11_could : MethodName := ⟨RX11, "could", "(II)I"⟩
abbrev cX11_tactic : ByteArray := prog_1_method_30_code
def yX11_tactic : MethodName := ⟨RX11, "tactic", "()I"⟩
abbrev cX11_run : ByteArray := prog_1_method_31_code
def yX11_run : MethodName := ⟨RX11, "run", "(III)I"⟩
abbrev cX11_found : ByteArray := prog_1_method_32_code
def yX11_found : MethodName := ⟨RX11, "found", "(I)I"⟩
abbrev cX11_image : ByteArray := prog_1_method_33_code
def yX11_image : MethodName := ⟨RX11, "image", "()I"⟩
abbrev cX11_undo : ByteArray := prog_1_method_34_code
def yX11_undo : MethodName := ⟨RX11, "undo", "()I"⟩
abbrev cX11_count : ByteArray := prog_1_method_35_code
def yX11_count : MethodName := ⟨RX11, "count", "(I)I"⟩
abbrev cX11_isDay : ByteArray := prog_1_method_36_code
def yX11_isDay : MethodName := ⟨RX11, "isDay", "(I)Z"⟩
abbrev cX11_isFact : ByteArray := prog_1_method_37_code
def yX11_isFact : MethodName := ⟨RX11, "isFact", "(I)Z"⟩
abbrev cX11_isPerson : ByteArray := prog_1_method_38_code
def yX11_isPerson : MethodName := ⟨RX11, "isPerson", "(I)Z"⟩
abbrev cX11_isKind : ByteArray := prog_1_method_39_code
def yX11_isKind : MethodName := ⟨RX11, "isKind", "(I)Z"⟩
abbrev cX11_readTape : ByteArray := prog_1_method_40_code
def yX11_readTape : MethodName := ⟨RX11, "readTape", "(LDeedProofs$Text;)I"⟩
abbrev cX11_followsToday : ByteArray := prog_1_method_41_code
def yX11_followsToday : MethodName := ⟨RX11, "followsToday", "(II)Z"⟩
abbrev cX11_standsByProof : ByteArray := prog_1_method_42_code
def yX11_standsByProof : MethodName := ⟨RX11, "standsByProof", "(II)Z"⟩
abbrev cX11_standingToday : ByteArray := prog_1_method_43_code
def yX11_standingToday : MethodName := ⟨RX11, "standingToday", "(I)I"⟩
abbrev cX11_fewest : ByteArray := prog_1_method_44_code
def yX11_fewest : MethodName := ⟨RX11, "fewest", "(III)I"⟩
def RX12 : String := "DeedProofsModel"
def TX12 : u_T := fun k => match k with
  | 0 => ("DeedProofsModel", "p", "[I", true)
  | 1 => ("DeedProofsModel", "imaged", "[I", true)
  | 2 => ("DeedProofsModel", "hasImage", "Z", false)
  | 3 => ("DeedProofsModel", "at", "I", false)
  | 4 => ("DeedProofsModel", "isFaulty", "Z", false)
  | 5 => ("DeedProofsModel", "height", "[I", true)
  | 6 => ("DeedProofsModel", "size", "[I", true)
  | 7 => ("DeedProofsModel", "letters", "[I", true)
  | 8 => ("DeedProofsModel", "keptFalse", "[I", true)
  | 9 => ("DeedProofsModel", "asked", "[I", true)
  | 10 => ("DeedProofsModel", "opens", "I", false)
  | 11 => ("DeedProofsModel", "running", "I", false)
  | 12 => ("DeedProofsModel", "pays", "I", false)
  | 13 => ("DeedProofsModel", "spent", "I", false)
  | _ => ("DeedProofsModel", "news", "[I", true)
def tyX12 : Nat → FieldType := fun k => match k with
  | 0 => .array .int
  | 1 => .array .int
  | 2 => .boolean
  | 3 => .int
  | 4 => .boolean
  | 5 => .array .int
  | 6 => .array .int
  | 7 => .array .int
  | 8 => .array .int
  | 9 => .array .int
  | 10 => .int
  | 11 => .int
  | 12 => .int
  | 13 => .int
  | _ => .array .int
theorem nmX12 : ∀ a, a < 15 → ∀ b, b < 15 → a ≠ b → (TX12 a).2.1 ≠ (TX12 b).2.1 := by decide +kernel
theorem tyX12_ok : ∀ k, k < 15 → parseFieldDescriptor (TX12 k).2.2.1 = some (tyX12 k) := by decide +kernel
abbrev cX12_init : ByteArray := prog_14_method_1_code
def yX12_init : MethodName := ⟨RX12, "<init>", "()V"⟩
abbrev cX12_in : ByteArray := prog_14_method_3_code
def yX12_in : MethodName := ⟨RX12, "in", "(III)Z"⟩
abbrev cX12_isDay : ByteArray := prog_14_method_4_code
def yX12_isDay : MethodName := ⟨RX12, "isDay", "(I)Z"⟩
abbrev cX12_isFact : ByteArray := prog_14_method_5_code
def yX12_isFact : MethodName := ⟨RX12, "isFact", "(I)Z"⟩
abbrev cX12_day : ByteArray := prog_14_method_6_code
def yX12_day : MethodName := ⟨RX12, "day", "(I)I"⟩
abbrev cX12_feed : ByteArray := prog_14_method_7_code
def yX12_feed : MethodName := ⟨RX12, "feed", "(JI)I"⟩
abbrev cX12_here : ByteArray := prog_14_method_8_code
def yX12_here : MethodName := ⟨RX12, "here", "()I"⟩
abbrev cX12_eats : ByteArray := prog_14_method_9_code
def yX12_eats : MethodName := ⟨RX12, "eats", "(I)V"⟩
abbrev cX12_shapeOf : ByteArray := prog_14_method_10_code
def yX12_shapeOf : MethodName := ⟨RX12, "shapeOf", "(I)I"⟩
abbrev cX12_argument : ByteArray := prog_14_method_11_code
def yX12_argument : MethodName := ⟨RX12, "argument", "()I"⟩
abbrev cX12_term : ByteArray := prog_14_method_12_code
def yX12_term : MethodName := ⟨RX12, "term", "(I)V"⟩
abbrev cX12_test : ByteArray := prog_14_method_13_code
def yX12_test : MethodName := ⟨RX12, "test", "(I)V"⟩
abbrev cX12_part : ByteArray := prog_14_method_14_code
def yX12_part : MethodName := ⟨RX12, "part", "(I)V"⟩
abbrev cX12_lettersIn : ByteArray := prog_14_method_15_code
def yX12_lettersIn : MethodName := ⟨RX12, "lettersIn", "(II)I"⟩
abbrev cX12_termLetters : ByteArray := prog_14_method_16_code
def yX12_termLetters : MethodName := ⟨RX12, "termLetters", "(I)I"⟩
abbrev cX12_reads : ByteArray := prog_14_method_17_code
def yX12_reads : MethodName := ⟨RX12, "reads", "()I"⟩
abbrev cX12_rule : ByteArray := prog_14_method_18_code
def yX12_rule : MethodName := ⟨RX12, "rule", "()I"⟩
abbrev cX12_isRule : ByteArray := prog_14_method_19_code
def yX12_isRule : MethodName := ⟨RX12, "isRule", "(I)Z"⟩
abbrev cX12_change : ByteArray := prog_14_method_20_code
def yX12_change : MethodName := ⟨RX12, "change", "(II)I"⟩
abbrev cX12_changeOn : ByteArray := prog_14_method_21_code
def yX12_changeOn : MethodName := ⟨RX12, "changeOn", "(II)I"⟩
abbrev cX12_textOn : ByteArray := prog_14_method_22_code
def yX12_textOn : MethodName := ⟨RX12, "textOn", "(II)I"⟩
abbrev cX12_told : ByteArray := prog_14_method_23_code
def yX12_told : MethodName := ⟨RX12, "told", "(III)I"⟩
abbrev cX12_paper : ByteArray := prog_14_method_24_code
def yX12_paper : MethodName := ⟨RX12, "paper", "(II)I"⟩
abbrev cX12_isPaper : ByteArray := prog_14_method_25_code
def yX12_isPaper : MethodName := ⟨RX12, "isPaper", "(I)Z"⟩
abbrev cX12_shown : ByteArray := prog_14_method_26_code
def yX12_shown : MethodName := ⟨RX12, "shown", "(IZ)I"⟩
abbrev cX12_of : ByteArray := prog_14_method_27_code
def yX12_of : MethodName := ⟨RX12, "of", "(II)I"⟩
abbrev cX12_sets : ByteArray := prog_14_method_28_code
def yX12_sets : MethodName := ⟨RX12, "sets", "(I)V"⟩
abbrev cX12_value : ByteArray := prog_14_method_29_code
def yX12_value : MethodName := ⟨RX12, "value", "(I)I"⟩
abbrev cX12_factAt : ByteArray := prog_14_method_30_code
def yX12_factAt : MethodName := ⟨RX12, "factAt", "(I)I"⟩
abbrev cX12_testsHold : ByteArray := prog_14_method_31_code
def yX12_testsHold : MethodName := ⟨RX12, "testsHold", "(I)Z"⟩
abbrev cX12_isPlain : ByteArray := prog_14_method_32_code
def yX12_isPlain : MethodName := ⟨RX12, "isPlain", "(I)Z"⟩
abbrev cX12_areBelow : ByteArray := prog_14_method_33_code
def yX12_areBelow : MethodName := ⟨RX12, "areBelow", "(II)Z"⟩
abbrev cX12_begins : ByteArray := prog_14_method_34_code
def yX12_begins : MethodName := ⟨RX12, "begins", "()V"⟩
abbrev cX12_works : ByteArray := prog_14_method_35_code
def yX12_works : MethodName := ⟨RX12, "works", "(I)V"⟩
abbrev cX12_sizes : ByteArray := prog_14_method_36_code
def yX12_sizes : MethodName := ⟨RX12, "sizes", "(I)V"⟩
abbrev cX12_followsOn : ByteArray := prog_14_method_37_code
def yX12_followsOn : MethodName := ⟨RX12, "followsOn", "(II)Z"⟩
abbrev cX12_follows : ByteArray := prog_14_method_38_code
def yX12_follows : MethodName := ⟨RX12, "follows", "(III)I"⟩
abbrev cX12_many : ByteArray := prog_14_method_39_code
def yX12_many : MethodName := ⟨RX12, "many", "(I)I"⟩
abbrev cX12_isProof : ByteArray := prog_14_method_40_code
def yX12_isProof : MethodName := ⟨RX12, "isProof", "(I)Z"⟩
abbrev cX12_stepAt : ByteArray := prog_14_method_41_code
def yX12_stepAt : MethodName := ⟨RX12, "stepAt", "(II)I"⟩
abbrev cX12_proof : ByteArray := prog_14_method_42_code
def yX12_proof : MethodName := ⟨RX12, "proof", "(I)I"⟩
abbrev cX12_isUsed : ByteArray := prog_14_method_43_code
def yX12_isUsed : MethodName := ⟨RX12, "isUsed", "(I)Z"⟩
abbrev cX12_step : ByteArray := prog_14_method_44_code
def yX12_step : MethodName := ⟨RX12, "step", "(IIIIIII)I"⟩
abbrev cX12_saysOn : ByteArray := prog_14_method_45_code
def yX12_saysOn : MethodName := ⟨RX12, "saysOn", "(III)I"⟩
abbrev cX12_termOn : ByteArray := prog_14_method_46_code
def yX12_termOn : MethodName := ⟨RX12, "termOn", "(IIII)I"⟩
abbrev cX12_isFrom : ByteArray := prog_14_method_47_code
def yX12_isFrom : MethodName := ⟨RX12, "isFrom", "(IIII)Z"⟩
abbrev cX12_lacksOn : ByteArray := prog_14_method_48_code
def yX12_lacksOn : MethodName := ⟨RX12, "lacksOn", "(III)I"⟩
abbrev cX12_holesOf : ByteArray := prog_14_method_49_code
def yX12_holesOf : MethodName := ⟨RX12, "holesOf", "(II)I"⟩
abbrev cX12_isTaken : ByteArray := prog_14_method_50_code
def yX12_isTaken : MethodName := ⟨RX12, "isTaken", "(II)Z"⟩
abbrev cX12_isStep : ByteArray := prog_14_method_51_code
def yX12_isStep : MethodName := ⟨RX12, "isStep", "(II)Z"⟩
abbrev cX12_lacks : ByteArray := prog_14_method_52_code
def yX12_lacks : MethodName := ⟨RX12, "lacks", "(III)I"⟩
abbrev cX12_says : ByteArray := prog_14_method_53_code
def yX12_says : MethodName := ⟨RX12, "says", "(III)I"⟩
abbrev cX12_check : ByteArray := prog_14_method_54_code
def yX12_check : MethodName := ⟨RX12, "check", "(II)I"⟩
abbrev cX12_usesEnds : ByteArray := prog_14_method_55_code
def yX12_usesEnds : MethodName := ⟨RX12, "usesEnds", "(I)Z"⟩
abbrev cX12_leansOf : ByteArray := prog_14_method_56_code
def yX12_leansOf : MethodName := ⟨RX12, "leansOf", "(I)I"⟩
abbrev cX12_leans : ByteArray := prog_14_method_57_code
def yX12_leans : MethodName := ⟨RX12, "leans", "(I)I"⟩
abbrev cX12_hole : ByteArray := prog_14_method_58_code
def yX12_hole : MethodName := ⟨RX12, "hole", "(II)I"⟩
abbrev cX12_fill : ByteArray := prog_14_method_59_code
def yX12_fill : MethodName := ⟨RX12, "fill", "(II)I"⟩
abbrev cX12_aboveOf : ByteArray := prog_14_method_60_code
def yX12_aboveOf : MethodName := ⟨RX12, "aboveOf", "(I)I"⟩
abbrev cX12_leansFrom : ByteArray := prog_14_method_61_code
def yX12_leansFrom : MethodName := ⟨RX12, "leansFrom", "(III)I"⟩
abbrev cX12_showsFrom : ByteArray := prog_14_method_62_code
def yX12_showsFrom : MethodName := ⟨RX12, "showsFrom", "(III)I"⟩
abbrev cX12_endsFrom : ByteArray := prog_14_method_63_code
def yX12_endsFrom : MethodName := ⟨RX12, "endsFrom", "(III)I"⟩
abbrev cX12_act : ByteArray := prog_14_method_64_code
def yX12_act : MethodName := ⟨RX12, "act", "(III)I"⟩
abbrev cX12_as : ByteArray := prog_14_method_65_code
def yX12_as : MethodName := ⟨RX12, "as", "(II)I"⟩
abbrev cX12_isTitle : ByteArray := prog_14_method_66_code
def yX12_isTitle : MethodName := ⟨RX12, "isTitle", "(I)Z"⟩
abbrev cX12_title : ByteArray := prog_14_method_67_code
def yX12_title : MethodName := ⟨RX12, "title", "(I)I"⟩
abbrev cX12_standsOn : ByteArray := prog_14_method_68_code
def yX12_standsOn : MethodName := ⟨RX12, "standsOn", "(II)I"⟩
abbrev cX12_stand : ByteArray := prog_14_method_69_code
def yX12_stand : MethodName := ⟨RX12, "stand", "(II)I"⟩
abbrev cX12_fall : ByteArray := prog_14_method_70_code
def yX12_fall : MethodName := ⟨RX12, "fall", "(I)I"⟩
abbrev cX12_carry : ByteArray := prog_14_method_71_code
def yX12_carry : MethodName := ⟨RX12, "carry", "(II)I"⟩
abbrev cX12_clash : ByteArray := prog_14_method_72_code
def yX12_clash : MethodName := ⟨RX12, "clash", "(II)I"⟩
abbrev cX12_every : ByteArray := prog_14_method_73_code
def yX12_every : MethodName := ⟨RX12, "every", "(I)I"⟩
abbrev cX12_many0 : ByteArray := prog_14_method_74_code
def yX12_many0 : MethodName := ⟨RX12, "many0", "(I)I"⟩
abbrev cX12_fewest : ByteArray := prog_14_method_75_code
def yX12_fewest : MethodName := ⟨RX12, "fewest", "(III)I"⟩
abbrev cX12_enough : ByteArray := prog_14_method_76_code
def yX12_enough : MethodName := ⟨RX12, "enough", "(II)I"⟩
abbrev cX12_could : ByteArray := prog_14_method_77_code
def yX12_could : MethodName := ⟨RX12, "could", "(II)I"⟩
abbrev cX12_readsTactic : ByteArray := prog_14_method_78_code
def yX12_readsTactic : MethodName := ⟨RX12, "readsTactic", "()V"⟩
abbrev cX12_readsPiece : ByteArray := prog_14_method_79_code
def yX12_readsPiece : MethodName := ⟨RX12, "readsPiece", "()V"⟩
abbrev cX12_readsTry : ByteArray := prog_14_method_80_code
def yX12_readsTry : MethodName := ⟨RX12, "readsTry", "()V"⟩
abbrev cX12_tactic : ByteArray := prog_14_method_81_code
def yX12_tactic : MethodName := ⟨RX12, "tactic", "()I"⟩
abbrev cX12_byteAt : ByteArray := prog_14_method_82_code
def yX12_byteAt : MethodName := ⟨RX12, "byteAt", "(I)I"⟩
abbrev cX12_runs : ByteArray := prog_14_method_83_code
def yX12_runs : MethodName := ⟨RX12, "runs", "(I)Z"⟩
abbrev cX12_behindTry : ByteArray := prog_14_method_84_code
def yX12_behindTry : MethodName := ⟨RX12, "behindTry", "(I)I"⟩
abbrev cX12_runsTry : ByteArray := prog_14_method_85_code
def yX12_runsTry : MethodName := ⟨RX12, "runsTry", "(I)Z"⟩
abbrev cX12_runsOnce : ByteArray := prog_14_method_86_code
def yX12_runsOnce : MethodName := ⟨RX12, "runsOnce", "(I)Z"⟩
abbrev cX12_runsTactic : ByteArray := prog_14_method_87_code
def yX12_runsTactic : MethodName := ⟨RX12, "runsTactic", "(I)Z"⟩
abbrev cX12_run : ByteArray := prog_14_method_88_code
def yX12_run : MethodName := ⟨RX12, "run", "(III)I"⟩
abbrev cX12_found : ByteArray := prog_14_method_89_code
def yX12_found : MethodName := ⟨RX12, "found", "(I)I"⟩
abbrev cX12_image : ByteArray := prog_14_method_90_code
def yX12_image : MethodName := ⟨RX12, "image", "()I"⟩
abbrev cX12_undo : ByteArray := prog_14_method_91_code
def yX12_undo : MethodName := ⟨RX12, "undo", "()I"⟩
abbrev cX12_count : ByteArray := prog_14_method_92_code
def yX12_count : MethodName := ⟨RX12, "count", "(I)I"⟩
end
section
/-! THE ABSTRACT MACHINE: cells by their places (numbers from 0 on), what is on stack and in locals as values whose references are places; 'ad' says at which address a place lies. A step of it is a step of the machine (part 04). -/
def am_nth {α : Type} : List α → Nat → Option α
  | [], _ => none
  | a :: _, 0 => some a
  | _ :: l, n + 1 => am_nth l n
def am_put {α : Type} : List α → Nat → α → List α
  | [], _, _ => []
  | _ :: l, 0, v => v :: l
  | a :: l, n + 1, v => a :: am_put l n v
theorem am_nth_eq {α : Type} : ∀ (l : List α) (n : Nat), am_nth l n = l[n]?
  | [], n => by simp [am_nth]
  | a :: l, 0 => by simp [am_nth]
  | a :: l, n + 1 => by rw [am_nth, am_nth_eq l n]; simp
theorem am_put_eq {α : Type} : ∀ (l : List α) (n : Nat) (v : α), am_put l n v = l.set n v
  | [], n, v => by simp [am_put]
  | a :: l, 0, v => by simp [am_put]
  | a :: l, n + 1, v => by rw [am_put, am_put_eq l n v]; simp
/-- instruction, its length, three numbers (a local's place, a target, a field ..), a constant -/
abbrev am_I : Type := Instr × Nat × Nat × Nat × Nat × Int32
/-- a method: its name, its bytes, its locals, what it returns, its instructions by their places -/
abbrev am_MI : Type := MethodName × ByteArray × Nat × Option FieldType × List (Option am_I)
/-- a cell: an array of ints (bytes, booleans), an array of references, an object -/
abbrev am_C : Type := (Nat × Nat × (Nat → Int32)) ⊕ (Nat × Nat × (Nat → Option Nat)) ⊕ (Nat × List Value)
abbrev am_H : Type := List am_C
abbrev am_L : Type := List (Option Value)
def am_v (ad : Nat → Nat) : Value → Value
  | .ref i => .ref (ad i)
  | v => v
def am_e (ad : Nat → Nat) (tc : Nat → ClassId) : am_C → va_E
  | .inl (t, n, f) => .inl (tc t, n, .inl f)
  | .inr (.inl (t, n, f)) => .inl (tc t, n, .inr (.inr (.inr (.inr (fun j => (f j).map ad)))))
  | .inr (.inr (ci, fs)) => .inr (ci, fs.map (am_v ad))
def am_w (ad : Nat → Nat) (tc : Nat → ClassId) (h : am_H) : va_W := h.mapIdx (fun i c => (ad i, am_e ad tc c))
theorem am_w_at {ad : Nat → Nat} {tc : Nat → ClassId} {h : am_H} {i : Nat} {c : am_C} (hi : am_nth h i = some c) : (am_w ad tc h)[i]? = some (ad i, am_e ad tc c) := by
  rw [am_nth_eq] at hi
  simp [am_w, List.getElem?_mapIdx, hi]
theorem am_w_len {ad : Nat → Nat} {tc : Nat → ClassId} {h : am_H} : (am_w ad tc h).length = h.length := by simp [am_w]
theorem am_w_put {ad : Nat → Nat} {tc : Nat → ClassId} {h : am_H} {i : Nat} {c : am_C} : am_w ad tc (am_put h i c) = (am_w ad tc h).set i (ad i, am_e ad tc c) := by
  rw [am_put_eq]
  apply List.ext_getElem?
  intro j
  by_cases hj : i = j
  · subst hj
    by_cases hl : i < h.length
    · simp [am_w, List.getElem?_mapIdx, hl]
    · have h1 : h.length ≤ i := by omega
      simp [am_w, List.getElem?_mapIdx, h1]
  · simp [am_w, List.getElem?_mapIdx, List.getElem?_set_ne hj]
theorem am_put_len {α : Type} (l : List α) (n : Nat) (v : α) : (am_put l n v).length = l.length := by rw [am_put_eq]; simp
/-- the classes whose objects the worlds hold, and the arrays' types -/
abbrev am_cls : List vw_C := [(RX0, TX0, 18), (RX1, TX1, 0), (RX2, TX2, 7), (RX3, TX3, 0), (RX4, TX4, 0), (RX5, TX5, 0), (RX6, TX6, 8), (RX7, TX7, 5), (RX8, TX8, 0), (RX9, TX9, 6), (RX10, TX10, 5), (RX11, TX11, 7), (RX12, TX12, 15)]
abbrev am_tys (tc : Nat → ClassId) : List (ClassId × FieldType) := [(tc 0, .int), (tc 1, .byte), (tc 2, .boolean), (tc 3, .object "DeedProofs$Text"), (tc 4, .object "DeedProofs$Line")]
/-- the words that every state has: those of the tables that a warmed state keeps -/
def am_good : Cond → Bool
  | .fieldLinkNest .. => true
  | .methodLinkNest .. => true
  | .declares _ => true
  | .castable .. => true
  | w => goodWord w
def am_gt : List Cond := lw_tbl.filter am_good
def am_T (U : State) : Prop := ∀ w ∈ am_gt, ∀ a : Array Value, w.before a U = true
theorem am_T.warm {s U : State} (hW : s.WarmedH U.vm) (h : am_T s) : am_T U := by
  intro w hw a
  have hg := (List.mem_filter.mp hw).2
  have h0 := h w hw
  cases w <;> first
    | exact va_Nw.use rfl (va_Nw.warmF hW (h0 #[]))
    | exact va_Nw.use rfl (va_Nw.warmM hW (h0 #[]))
    | exact va_Nw.use rfl (va_Nw.warmD hW (h0 #[]))
    | exact va_Nw.use rfl (va_Nw.warmC hW (h0 #[]))
    | exact word_at hW (good_of_word hg) (h0 #[])
theorem am_T.use {s : State} (h : am_T s) (args : Array Value) : ∀ w ∈ am_gt, w.before args s = true := fun w hw => h w hw args
/-- what lies outside the worlds and stays: the texts and the row ABOVE; places from 100000 on -/
def am_len : List Nat := [6, 9, 3]
def am_byt : List (List Int32) := [[111, 115, 104, 109, 108, 119], [48, 49, 50, 51, 52, 97, 98, 99, 100], [60, 61, 35]]
def am_abv (j : Nat) : Int32 := [-1, 0, 0, 0, 1].getD j 0
def am_Ev (ad : Nat → Nat) (A : Nat → Prop) (U : State) (H : Heap) : Prop :=
  (va_AO "DeedProofs$Text" U ∧ va_AO "DeedProofs$Line" U) ∧
  (vk_R "DeedProofs$RuleReader" 56 "oshmlw" (ad 100000) U ∧ vk_R "DeedProofs$RuleReader" 62 "01234abcd" (ad 100001) U ∧ vk_R "DeedProofs$RuleReader" 75 "<=#" (ad 100002) U) ∧
  (∃ adV : Nat → Nat, vk_S 3 am_len am_byt (fun i => ad (100000 + i)) adV A U H) ∧
  va_Z "java/lang/String" "COMPACT_STRINGS" "Z" (.int 1) A U H ∧
  va_Z "DeedProofs" "ABOVE" "[I" (.ref (ad 100003)) A U H ∧ va_T .int (ad 100003) 5 (fun j => .int (am_abv j)) A U H
theorem am_Ev.warm {ad : Nat → Nat} {A : Nat → Prop} {s U : State} {H : Heap} (hW : s.WarmedH U.vm) (h : am_Ev ad A s H) : am_Ev ad A U H := by
  obtain ⟨⟨a1, a2⟩, ⟨b1, b2, b3⟩, ⟨adV, c1⟩, d1, d2, d3⟩ := h
  exact ⟨⟨a1.moved hW.alike, a2.moved hW.alike⟩, ⟨b1.warm hW, b2.warm hW, b3.warm hW⟩, ⟨adV, c1.moved hW.alike⟩, d1.moved hW.alike, d2.moved hW.alike, d3.moved hW.alike⟩
theorem am_Ev.kept {ad : Nat → Nat} {A : Nat → Prop} {U : State} {H H1 : Heap} (h : am_Ev ad A U H) (hq : ∀ a : Nat, a < H.size → ¬ A a → H1[a]? = H[a]?) : am_Ev ad A U H1 := by
  obtain ⟨a, b, ⟨adV, c1⟩, d1, d2, d3⟩ := h
  exact ⟨a, b, ⟨adV, c1.kept hq⟩, d1.kept hq, d2.kept hq, d3.kept hq⟩
theorem am_Ev.narrow {ad : Nat → Nat} {A B : Nat → Prop} {U : State} {H : Heap} (h : am_Ev ad A U H) (hAB : ∀ q, B q → A q) : am_Ev ad B U H := by
  obtain ⟨a, b, ⟨adV, c1⟩, d1, d2, d3⟩ := h
  exact ⟨a, b, ⟨adV, c1.narrow hAB⟩, d1.narrow hAB, d2.narrow hAB, d3.narrow hAB⟩
theorem am_Ev.ads {ad ad' : Nat → Nat} {A : Nat → Prop} {U : State} {H : Heap} (h : am_Ev ad A U H) (e : ∀ i, 100000 ≤ i → ad' i = ad i) : am_Ev ad' A U H := by
  unfold am_Ev at h ⊢
  have e1 : (fun i => ad' (100000 + i)) = (fun i => ad (100000 + i)) := funext fun i => e _ (by omega)
  rw [e 100000 (by omega), e 100001 (by omega), e 100002 (by omega), e 100003 (by omega), e1]
  exact h
/-- locals -/
def am_al (ad : Nat → Nat) : Nat → am_L → List (Nat × Value)
  | _, [] => []
  | i, none :: l => am_al ad (i + 1) l
  | i, some v :: l => (i, am_v ad v) :: am_al ad (i + 1) l
theorem am_al_mem {ad : Nat → Nat} : ∀ (ls : am_L) (i : Nat) (q : Nat × Value), q ∈ am_al ad i ls ↔ ∃ (k : Nat) (v : Value), q = (i + k, am_v ad v) ∧ am_nth ls k = some (some v)
  | [], i, q => by simp [am_al, am_nth]
  | none :: l, i, q => by
    rw [am_al, am_al_mem l (i + 1) q]
    constructor
    · rintro ⟨k, v, h1, h2⟩
      exact ⟨k + 1, v, by rw [h1]; congr 1; omega, h2⟩
    · rintro ⟨k, v, h1, h2⟩
      cases k with
      | zero => cases h2
      | succ k => exact ⟨k, v, by rw [h1]; congr 1; omega, h2⟩
  | some w :: l, i, q => by
    rw [am_al, List.mem_cons, am_al_mem l (i + 1) q]
    constructor
    · rintro (h | ⟨k, v, h1, h2⟩)
      · exact ⟨0, w, h, rfl⟩
      · exact ⟨k + 1, v, by rw [h1]; congr 1; omega, h2⟩
    · rintro ⟨k, v, h1, h2⟩
      cases k with
      | zero => cases h2; exact Or.inl h1
      | succ k => exact Or.inr ⟨k, v, by rw [h1]; congr 1; omega, h2⟩
def am_lv (ad : Nat → Nat) (ls : am_L) (n : Nat) (lsC : Array Slot) : Prop := lv_has lsC n (am_al ad 0 ls)
theorem am_lv.get {ad : Nat → Nat} {ls : am_L} {n : Nat} {lsC : Array Slot} (h : am_lv ad ls n lsC) {i : Nat} {v : Value} (hi : am_nth ls i = some (some v)) : lsC[i]? = some (.val (am_v ad v)) :=
  h.2.2 (i, am_v ad v) ((am_al_mem ls 0 _).mpr ⟨i, v, by simp, hi⟩)
/-- no long stands in the place ahead -/
def am_nl (ls : am_L) : Nat → Bool
  | 0 => true
  | i + 1 => match am_nth ls i with
    | some (some (.long _)) => false
    | some (some (.double _)) => false
    | _ => true
theorem am_nth_put {α : Type} : ∀ (l : List α) (i j : Nat) (v : α), am_nth (am_put l i v) j = if j = i then (if i < l.length then some v else none) else am_nth l j := by
  intro l i j v
  rw [am_nth_eq, am_put_eq, am_nth_eq, List.getElem?_set]
  by_cases h : i = j
  · subst h; simp
  · have h' : ¬ j = i := fun e => h e.symm
    simp [h, h']
theorem am_lv.put {ad : Nat → Nat} {ls : am_L} {n : Nat} {lsC : Array Slot} {i : Nat} {v : Value} (hn : am_nl ls i = true)
    (h : lv_has lsC n ((i, am_v ad v) :: (am_al ad 0 ls).filter (fun q => !(q.1 == i) && !(q.1 + 1 == i && q.2.category == 2)))) : am_lv ad (am_put ls i (some v)) n lsC := by
  refine ⟨h.1, h.2.1, fun q hq => ?_⟩
  obtain ⟨k, w, rfl, hk⟩ := (am_al_mem _ 0 q).mp hq
  rw [am_nth_put] at hk
  rw [Nat.zero_add]
  by_cases hki : k = i
  · rw [if_pos hki] at hk
    by_cases hl : i < ls.length
    · rw [if_pos hl] at hk
      cases hk
      subst hki
      exact h.2.2 _ List.mem_cons_self
    · rw [if_neg hl] at hk; cases hk
  · rw [if_neg hki] at hk
    refine h.2.2 (k, am_v ad w) (List.mem_cons_of_mem _ (List.mem_filter.mpr ⟨(am_al_mem ls 0 _).mpr ⟨k, w, by simp, hk⟩, ?_⟩))
    have h2 : ¬ (k + 1 = i ∧ (am_v ad w).category = 2) := by
      rintro ⟨e, hc⟩
      subst e
      simp only [am_nl, hk] at hn
      cases w <;> simp_all [am_v, Value.category]
    simp only [Bool.and_eq_true, Bool.not_eq_true', beq_eq_false_iff_ne, ne_eq, Bool.and_eq_false_iff]
    refine ⟨hki, ?_⟩
    by_cases he : k + 1 = i
    · exact Or.inr fun hc => h2 ⟨he, hc⟩
    · exact Or.inl he
end
section
/-! THE ABSTRACT MACHINE: what a step asks, and what it says of the real machine -/
abbrev am_y (mi : am_MI) : MethodName := mi.1
abbrev am_code (mi : am_MI) : ByteArray := mi.2.1
abbrev am_mL (mi : am_MI) : Nat := mi.2.2.1
abbrev am_ret (mi : am_MI) : Option FieldType := mi.2.2.2.1
abbrev am_ins (mi : am_MI) : List (Option am_I) := mi.2.2.2.2
def am_X (p : Program) (s : State) (m : MethodId) (meth : Method) (c : Code) (mi : am_MI) (D : va_G) (tc : Nat → ClassId) : Prop :=
  p.tables.exec = Jvm.exec ∧ c.code = am_code mi ∧ meth.sig.returnType = am_ret mi ∧ c.maxLocals = am_mL mi ∧ s.vm.findClass (am_y mi).cls = some m.cls ∧ meth.locks = false ∧ meth.name = (am_y mi).name ∧ am_T s ∧ va_K D am_cls (am_tys tc) s
/-- the room: d frames, kc cells and ks slots are left -/
def am_G (d kc ks cells slots mc ms : Nat) (R : Room) : Prop := d ≤ R.frames ∧ 64 * d ≤ R.locals ∧ cells + kc ≤ mc ∧ slots + ks ≤ ms ∧ mc ≤ R.cells ∧ ms ≤ R.slots
/-- the places that the method began with lie where they lay -/
def am_ag (h0 : am_H) (ad0 ad : Nat → Nat) (h : am_H) : Prop := h0.length ≤ h.length ∧ h.length < 100000 ∧ ∀ i, (i < h0.length ∨ h.length ≤ i) → ad i = ad0 i
def am_Q (D : va_G) (tc : Nat → ClassId) (A : Nat → Prop) (h0 : am_H) (ad0 : Nat → Nat) (Q : Option Value → am_H → Prop) : Array Value → State → Outcome → State → Prop := fun _ st oc t =>
  (∃ (r : Option Value) (h : am_H) (ad : Nat → Nat), oc = .returned (r.map (am_v ad)) ∧ Q r h ∧ am_ag h0 ad0 ad h ∧ va_P D am_cls (am_w ad tc h) t.heap ∧ va_K D am_cls (am_tys tc) t ∧ va_D A (am_w ad tc h)) ∧ va_F A st t
/-- from this frame over this heap the method comes to its end, with Q -/
def am_W (mi : am_MI) (d : Nat) (Q : Option Value → am_H → Prop) (kc ks pc : Nat) (ls : am_L) (st : List Value) (h : am_H) : Prop :=
  ∀ (p : Program) (l : Launch) (e : Env) (R : Room) (s : State) (m : MethodId) (args : Array Value) (below : List Frame) (meth : Method) (c : Code) (D : va_G) (tc : Nat → ClassId) (ad ad0 : Nat → Nat) (h0 : am_H) (A : Nat → Prop) (H : Heap) (locs : List Loc) (cells slots mc ms : Nat) (lsC : Array Slot),
    am_X p s m meth c mi D tc → am_Ev ad0 A s s.heap → (∀ q, s.heap.size ≤ q → A q) → am_G d kc ks cells slots mc ms R → am_ag h0 ad0 ad h →
    va_P D am_cls (am_w ad tc h) H → va_D A (am_w ad tc h) → va_S A s.heap H locs → am_lv ad ls (am_mL mi) lsC →
    W p l e R s m args below meth c H locs cells slots (MQ below (am_Q D tc A h0 ad0 Q) args s mc ms A) (F0 m pc lsC (st.map (am_v ad)))
def am_R (d kc ks : Nat) : Room := { frames := d, cells := kc, slots := ks, locals := 64 * d }
def am_ws (mi : am_MI) : List Cond := [Cond.code (am_y mi) (am_code mi) (am_mL mi) (am_ret mi)]
def am_Pre (D : va_G) (tc : Nat → ClassId) (ad : Nat → Nat) (h : am_H) (sz : Nat) (U : State) : Prop :=
  U.heap.size = sz ∧ am_T U ∧ am_Ev ad (va_A (am_w ad tc h) sz) U U.heap ∧ va_P D am_cls (am_w ad tc h) U.heap ∧ va_K D am_cls (am_tys tc) U ∧ va_D (fun _ => True) (am_w ad tc h) ∧ h.length < 100000
/-- a method's contract -/
def am_Met (mi : am_MI) (d kc ks : Nat) (args : List Value) (h : am_H) (Q : Option Value → am_H → Prop) : Prop :=
  ∀ (l : Launch) (D : va_G) (tc : Nat → ClassId) (ad : Nat → Nat) (sz : Nat),
    Met l (am_y mi) (am_ws mi) (am_R d kc ks) (va_Pc (args.map (am_v ad)) (am_Pre D tc ad h sz)) (am_Q D tc (va_A (am_w ad tc h) sz) h ad Q) kc ks (va_A (am_w ad tc h) sz)
/-- locals at a method's entry -/
def am_in : List Value → am_L
  | [] => []
  | .long v :: l => some (.long v) :: none :: am_in l
  | .double v :: l => some (.double v) :: none :: am_in l
  | v :: l => some v :: am_in l
def am_nones : Nat → am_L
  | 0 => []
  | n + 1 => none :: am_nones n
def am_ent (n : Nat) (args : List Value) : am_L := am_in args ++ am_nones (n - (am_in args).length)
/-- the last n of the stack, in their order, and the rest -/
def am_pop : Nat → List Value → List Value → Option (List Value × List Value)
  | 0, st, acc => some (acc, st)
  | n + 1, v :: st, acc => am_pop n st (v :: acc)
  | _ + 1, [], _ => none
theorem am_pop_eq : ∀ (n : Nat) (st acc As rest : List Value), am_pop n st acc = some (As, rest) → acc.reverse ++ st = As.reverse ++ rest ∧ As.length = acc.length + n
  | 0, st, acc, As, rest, h => by cases h; exact ⟨rfl, rfl⟩
  | n + 1, [], acc, As, rest, h => by cases h
  | n + 1, v :: st, acc, As, rest, h => by
    obtain ⟨h1, h2⟩ := am_pop_eq n st (v :: acc) As rest h
    refine ⟨?_, ?_⟩
    · rw [← h1]; simp
    · rw [h2]; simp; omega
def am_cat (st : List Value) : Nat := (st.map fun v => v.category).sum
/-- types of an array's number, of a field -/
def am_aty : Nat → FieldType
  | 0 => .int
  | 1 => .byte
  | _ => .boolean
def am_fty (ci k : Nat) : FieldType := match ci with
  | 0 => tyX0 k
  | 2 => tyX2 k
  | 6 => tyX6 k
  | 7 => tyX7 k
  | 9 => tyX9 k
  | 10 => tyX10 k
  | 11 => tyX11 k
  | 12 => tyX12 k
  | _ => .int
def am_fit : FieldType → Value → Prop
  | .int, .int _ => True
  | .boolean, .int x => narrow .boolean (.int x) = .int x ∧ fits .boolean (.int x) = true
  | .object _, .ref _ => True
  | .object _, .null => True
  | .array _, .ref _ => True
  | .array _, .null => True
  | _, _ => False
/-- a new object's fields -/
def am_new : Nat → List Value
  | 0 => [.null, .null, .null, .null, .null, .null, .null, .int 0, .null, .null, .null, .null, .null, .null, .null, .null, .null, .int 0]
  | 2 => [.null, .null, .null, .null, .null, .null, .int 0]
  | 6 => (List.range 8).map (fun k => defaultValue (tyX6 k))
  | 7 => (List.range 5).map (fun k => defaultValue (tyX7 k))
  | 9 => (List.range 6).map (fun k => defaultValue (tyX9 k))
  | 10 => (List.range 5).map (fun k => defaultValue (tyX10 k))
  | 11 => (List.range 7).map (fun k => defaultValue (tyX11 k))
  | 12 => (List.range 15).map (fun k => defaultValue (tyX12 k))
  | _ => []
/-- the place n is named nowhere -/
def am_nrV (n : Nat) : Value → Prop
  | .ref i => i ≠ n
  | _ => True
def am_nrC (n : Nat) : am_C → Prop
  | .inl _ => True
  | .inr (.inl (_, _, f)) => ∀ j, f j ≠ some n
  | .inr (.inr (_, fs)) => ∀ v ∈ fs, am_nrV n v
def am_nr (n : Nat) (ls : am_L) (st : List Value) (h : am_H) : Prop := (∀ v, some v ∈ ls → am_nrV n v) ∧ (∀ v ∈ st, am_nrV n v) ∧ ∀ c ∈ h, am_nrC n c
abbrev am_K : Type := Nat → Nat → Nat → am_L → List Value → am_H → Prop
/-- no reference to a place from lo on and ahead of hi -/
def am_nsV (lo hi : Nat) : Value → Prop
  | .ref i => i < lo ∨ hi ≤ i
  | _ => True
def am_ns (lo hi : Nat) (ls : am_L) (st : List Value) : Prop := (∀ v, some v ∈ ls → am_nsV lo hi v) ∧ ∀ v ∈ st, am_nsV lo hi v
/-- a call: by a contract of the callee -/
def am_call (mi : am_MI) (d kc ks : Nat) (args rest : List Value) (ls : am_L) (h : am_H) (go : Nat → Nat → Option Value → am_H → Prop) : Prop :=
  ∃ (d' kc' ks' : Nat) (P : Option Value → am_H → Prop), d' + 1 ≤ d ∧ kc' ≤ kc ∧ ks' ≤ ks ∧ am_cat rest ≤ 8 ∧ am_Met mi d' kc' ks' args h P ∧ ∀ (r : Option Value) (h' : am_H), P r h' → (h'.length = h.length ∨ am_ns h.length h'.length ls rest) ∧ go (kc - kc') (ks - ks') r h'
/-- a branch: its two ways -/
def am_br (co : ClassFile.Cond) (x y : Int32) (T F : Prop) : Prop := match co with
  | .eq => (x = y → T) ∧ (¬ x = y → F)
  | .ne => (¬ x = y → T) ∧ (x = y → F)
  | .lt => (x < y → T) ∧ (¬ x < y → F)
  | .ge => (y ≤ x → T) ∧ (¬ y ≤ x → F)
  | .gt => (y < x → T) ∧ (¬ y < x → F)
  | .le => (x ≤ y → T) ∧ (¬ x ≤ y → F)
/-- the method that a receiver of class ci has for an act that Line tells: by the callee's number -/
def am_sel (a ci : Nat) : Nat := a + ci
def am_do (tab : Nat → am_MI) (mi : am_MI) (d : Nat) (Q : Option Value → am_H → Prop) (K : am_K) (kc ks pc : Nat) (ls : am_L) (st : List Value) (h : am_H) (len a b c : Nat) (k : Int32) (i : Instr) : Prop :=
  match i with
  | .iconst _ => K kc ks (pc + len) ls (.int k :: st) h
  | .bipush _ => K kc ks (pc + len) ls (.int k :: st) h
  | .sipush _ => K kc ks (pc + len) ls (.int k :: st) h
  | .ldc _ => match c with
    | 0 => K kc ks (pc + len) ls (.int k :: st) h
    | _ => K kc ks (pc + len) ls (.ref (100000 + a) :: st) h
  | .ldc_w _ => K kc ks (pc + len) ls (.int k :: st) h
  | .ldc2_w _ => K kc ks (pc + len) ls (.long k.toInt64 :: st) h
  | .aconst_null => K kc ks (pc + len) ls (.null :: st) h
  | .iload _ => match am_nth ls a with
    | some (some (.int x)) => K kc ks (pc + len) ls (.int x :: st) h
    | _ => False
  | .iload_n _ => match am_nth ls a with
    | some (some (.int x)) => K kc ks (pc + len) ls (.int x :: st) h
    | _ => False
  | .lload_n _ => match am_nth ls a with
    | some (some (.long x)) => K kc ks (pc + len) ls (.long x :: st) h
    | _ => False
  | .aload _ => match am_nth ls a with
    | some (some (.ref x)) => K kc ks (pc + len) ls (.ref x :: st) h
    | some (some .null) => K kc ks (pc + len) ls (.null :: st) h
    | _ => False
  | .aload_n _ => match am_nth ls a with
    | some (some (.ref x)) => K kc ks (pc + len) ls (.ref x :: st) h
    | some (some .null) => K kc ks (pc + len) ls (.null :: st) h
    | _ => False
  | .istore _ => match am_nl ls a, st with
    | true, .int x :: st => K kc ks (pc + len) (am_put ls a (some (.int x))) st h
    | _, _ => False
  | .istore_n _ => match am_nl ls a, st with
    | true, .int x :: st => K kc ks (pc + len) (am_put ls a (some (.int x))) st h
    | _, _ => False
  | .astore _ => match am_nl ls a, st with
    | true, .ref x :: st => K kc ks (pc + len) (am_put ls a (some (.ref x))) st h
    | _, _ => False
  | .astore_n _ => match am_nl ls a, st with
    | true, .ref x :: st => K kc ks (pc + len) (am_put ls a (some (.ref x))) st h
    | _, _ => False
  | .iinc _ _ => match am_nl ls a, am_nth ls a with
    | true, some (some (.int x)) => K kc ks (pc + len) (am_put ls a (some (.int (x + k)))) st h
    | _, _ => False
  | .iadd => match st with
    | .int y :: .int x :: st => K kc ks (pc + len) ls (.int (x + y) :: st) h
    | _ => False
  | .isub => match st with
    | .int y :: .int x :: st => K kc ks (pc + len) ls (.int (x - y) :: st) h
    | _ => False
  | .imul => match st with
    | .int y :: .int x :: st => K kc ks (pc + len) ls (.int (x * y) :: st) h
    | _ => False
  | .idiv => match st with
    | .int y :: .int x :: st => ¬ y = 0 ∧ K kc ks (pc + len) ls (.int (x / y) :: st) h
    | _ => False
  | .irem => match st with
    | .int y :: .int x :: st => ¬ y = 0 ∧ K kc ks (pc + len) ls (.int (x - x / y * y) :: st) h
    | _ => False
  | .ineg => match st with
    | .int x :: st => K kc ks (pc + len) ls (.int (-x) :: st) h
    | _ => False
  | .iand => match st with
    | .int y :: .int x :: st => K kc ks (pc + len) ls (.int (x &&& y) :: st) h
    | _ => False
  | .ior => match st with
    | .int y :: .int x :: st => K kc ks (pc + len) ls (.int (x ||| y) :: st) h
    | _ => False
  | .ixor => match st with
    | .int y :: .int x :: st => K kc ks (pc + len) ls (.int (x ^^^ y) :: st) h
    | _ => False
  | .ishl => match st with
    | .int y :: .int x :: st => K kc ks (pc + len) ls (.int (x <<< (y &&& 31)) :: st) h
    | _ => False
  | .ishr => match st with
    | .int y :: .int x :: st => K kc ks (pc + len) ls (.int (x >>> (y &&& 31)) :: st) h
    | _ => False
  | .iushr => match st with
    | .int y :: .int x :: st => K kc ks (pc + len) ls (.int (x.toUInt32 >>> (y.toUInt32 &&& Int32.toUInt32 31)).toInt32 :: st) h
    | _ => False
  | .land => match st with
    | .long y :: .long x :: st => K kc ks (pc + len) ls (.long (x &&& y) :: st) h
    | _ => False
  | .lshr => match st with
    | .int y :: .long x :: st => K kc ks (pc + len) ls (.long (x >>> (y.toInt64 &&& 63)) :: st) h
    | _ => False
  | .lushr => match st with
    | .int y :: .long x :: st => K kc ks (pc + len) ls (.long (x.toUInt64 >>> (y.toInt64.toUInt64 &&& Int64.toUInt64 63)).toInt64 :: st) h
    | _ => False
  | .l2i => match st with
    | .long x :: st => K kc ks (pc + len) ls (.int x.toInt32 :: st) h
    | _ => False
  | .i2b => match st with
    | .int x :: st => K kc ks (pc + len) ls (.int x.toInt8.toInt32 :: st) h
    | _ => False
  | .i2c => match st with
    | .int x :: st => K kc ks (pc + len) ls (.int (x.toUInt32 % 65536).toInt32 :: st) h
    | _ => False
  | .dup => match st with
    | .int x :: st => K kc ks (pc + len) ls (.int x :: .int x :: st) h
    | .ref x :: st => K kc ks (pc + len) ls (.ref x :: .ref x :: st) h
    | _ => False
  | .dup2 => match st with
    | .int y :: .ref x :: st => K kc ks (pc + len) ls (.int y :: .ref x :: .int y :: .ref x :: st) h
    | _ => False
  | .pop => match st with
    | .int _ :: st => K kc ks (pc + len) ls st h
    | .ref _ :: st => K kc ks (pc + len) ls st h
    | _ => False
  | .goto _ => K kc ks a ls st h
  | .ifCond co _ => match st with
    | .int x :: st => am_br co x 0 (K kc ks a ls st h) (K kc ks (pc + len) ls st h)
    | _ => False
  | .if_icmp co _ => match st with
    | .int y :: .int x :: st => am_br co x y (K kc ks a ls st h) (K kc ks (pc + len) ls st h)
    | _ => False
  | .ifnonnull _ => match st with
    | .ref _ :: st => K kc ks a ls st h
    | .null :: st => K kc ks (pc + len) ls st h
    | _ => False
  | .tableswitch dflt lo hi offs => match st with
    | .int x :: st => ∃ tgt : Nat, ((x.toInt < lo ∨ hi < x.toInt) ∧ (pc : Int) + dflt = (tgt : Int) ∨ ¬ x.toInt < lo ∧ ¬ hi < x.toInt ∧ ∃ off, offs[(x.toInt - lo).toNat]? = some off ∧ (pc : Int) + off = (tgt : Int)) ∧ K kc ks tgt ls st h
    | _ => False
  | .lookupswitch dflt ps => match st with
    | .int x :: st => ∃ tgt : Nat, (pc : Int) + Op.lookupswitch.offset ps.toList dflt x.toInt = (tgt : Int) ∧ K kc ks tgt ls st h
    | _ => False
  | .getstatic _ => K kc ks (pc + len) ls (.ref 100003 :: st) h
  | .getfield _ => match st with
    | .ref o :: st => ∃ (fs : List Value) (v : Value), am_nth h o = some (.inr (.inr (a, fs))) ∧ am_nth fs b = some v ∧ K kc ks (pc + len) ls (v :: st) h
    | _ => False
  | .putfield _ => match st with
    | v :: .ref o :: st => ∃ (fs : List Value), am_nth h o = some (.inr (.inr (a, fs))) ∧ b < fs.length ∧ am_fit (am_fty a b) v ∧ K kc ks (pc + len) ls st (am_put h o (.inr (.inr (a, am_put fs b v))))
    | _ => False
  | .arraylength => match st with
    | .ref o :: st => match c with
      | 0 => ∃ (n : Nat) (f : Nat → Int32), am_nth h o = some (.inl (a, n, f)) ∧ K kc ks (pc + len) ls (.int (Int32.ofNat n) :: st) h
      | _ => ∃ (n : Nat) (f : Nat → Option Nat), am_nth h o = some (.inr (.inl (a, n, f))) ∧ K kc ks (pc + len) ls (.int (Int32.ofNat n) :: st) h
    | _ => False
  | .iaload => match st with
    | .int i :: .ref o :: st => match c with
      | 0 => ∃ (n : Nat) (f : Nat → Int32), am_nth h o = some (.inl (0, n, f)) ∧ vp_in i n ∧ K kc ks (pc + len) ls (.int (f i.toNatClampNeg) :: st) h
      | _ => o = 100003 ∧ vp_in i 5 ∧ K kc ks (pc + len) ls (.int (am_abv i.toNatClampNeg) :: st) h
    | _ => False
  | .baload => match st with
    | .int i :: .ref o :: st => ∃ (n : Nat) (f : Nat → Int32), am_nth h o = some (.inl (a, n, f)) ∧ vp_in i n ∧ K kc ks (pc + len) ls (.int (f i.toNatClampNeg) :: st) h
    | _ => False
  | .iastore => match st with
    | .int x :: .int i :: .ref o :: st => ∃ (n : Nat) (f : Nat → Int32), am_nth h o = some (.inl (0, n, f)) ∧ vp_in i n ∧ K kc ks (pc + len) ls st (am_put h o (.inl (0, n, upd f i.toNatClampNeg x)))
    | _ => False
  | .bastore => match st with
    | .int x :: .int i :: .ref o :: st => ∃ (n : Nat) (f : Nat → Int32), am_nth h o = some (.inl (a, n, f)) ∧ vp_in i n ∧ K kc ks (pc + len) ls st (am_put h o (.inl (a, n, upd f i.toNatClampNeg (vp_nar (am_aty a) x))))
    | _ => False
  | .aaload => match st with
    | .int i :: .ref o :: st => ∃ (n : Nat) (f : Nat → Option Nat) (j : Nat), am_nth h o = some (.inr (.inl (a, n, f))) ∧ vp_in i n ∧ f i.toNatClampNeg = some j ∧ K kc ks (pc + len) ls (.ref j :: st) h
    | _ => False
  | .aastore => match st with
    | .ref v :: .int i :: .ref o :: st => ∃ (n : Nat) (f : Nat → Option Nat) (ci : Nat) (fs : List Value), am_nth h o = some (.inr (.inl (a, n, f))) ∧ am_nth h v = some (.inr (.inr (ci, fs))) ∧ (a = 3 ∧ ci = 10 ∨ a = 4 ∧ (ci = 1 ∨ ci = 3 ∨ ci = 4 ∨ ci = 5 ∨ ci = 8)) ∧ vp_in i n ∧ K kc ks (pc + len) ls st (am_put h o (.inr (.inl (a, n, va_up f i.toNatClampNeg (some v)))))
    | _ => False
  | .new _ => 1 ≤ kc ∧ (am_new a).length ≤ ks ∧ h.length + 1 < 100000 ∧ am_nr h.length ls st h ∧ K (kc - 1) (ks - (am_new a).length) (pc + len) ls (.ref h.length :: st) (h ++ [.inr (.inr (a, am_new a))])
  | .newarray _ => match st with
    | .int n :: st => 1 ≤ kc ∧ n.toNatClampNeg ≤ ks ∧ ¬ n < 0 ∧ n.toNatClampNeg < 100000 ∧ h.length + 1 < 100000 ∧ am_nr h.length ls st h ∧ K (kc - 1) (ks - n.toNatClampNeg) (pc + len) ls (.ref h.length :: st) (h ++ [.inl (a, n.toNatClampNeg, fun _ => 0)])
    | _ => False
  | .anewarray _ => match st with
    | .int n :: st => 1 ≤ kc ∧ n.toNatClampNeg ≤ ks ∧ ¬ n < 0 ∧ n.toNatClampNeg < 100000 ∧ h.length + 1 < 100000 ∧ am_nr h.length ls st h ∧ K (kc - 1) (ks - n.toNatClampNeg) (pc + len) ls (.ref h.length :: st) (h ++ [.inr (.inl (a, n.toNatClampNeg, fun _ => none))])
    | _ => False
  | .ireturn => match st with
    | [.int v] => (match am_ret mi with
      | some .int => True
      | some ty => narrow ty (.int v) = .int v
      | none => False) ∧ Q (some (.int v)) h
    | _ => False
  | .areturn => match st with
    | [.ref o] => Q (some (.ref o)) h
    | _ => False
  | .return_ => match st with
    | [] => Q none h
    | _ => False
  | .invokevirtual _ => match am_pop b st [] with
    | some (As, .ref o :: rest) => match c with
      | 0 => ∃ fs : List Value, am_nth h o = some (.inr (.inr (k.toInt.toNat, fs))) ∧ am_call (tab a) d kc ks (.ref o :: As) rest ls h (fun kc ks r h => K kc ks (pc + 3) ls (r.toList ++ rest) h)
      | 1 => ∃ fs : List Value, am_nth h o = some (.inr (.inr (k.toInt.toNat, fs))) ∧ am_call (tab a) d kc ks (.ref o :: As) rest ls h (fun kc ks r h => K kc ks (pc + 3) ls (r.toList ++ rest) h)
      | 2 => o < 100003 ∧ 100000 ≤ o ∧ am_call (tab a) d kc ks (.ref o :: As) rest ls h (fun kc ks r h => K kc ks (pc + 3) ls (r.toList ++ rest) h)
      | 3 => ∃ (ci : Nat) (fs : List Value), am_nth h o = some (.inr (.inr (ci, fs))) ∧ (ci = 1 ∨ ci = 3 ∨ ci = 4 ∨ ci = 5 ∨ ci = 8) ∧ am_call (tab (am_sel a ci)) d kc ks (.ref o :: As) rest ls h (fun kc ks r h => K kc ks (pc + 3) ls (r.toList ++ rest) h)
      | _ => ∃ fs : List Value, am_nth h o = some (.inr (.inr (k.toInt.toNat, fs))) ∧ am_call (tab a) d kc ks (.ref o :: As) rest ls h (fun kc ks r h => K kc ks (pc + 3) ls (r.toList ++ rest) h)
    | _ => False
  | .invokestatic _ => match c with
    | 2 => match st with
      | .int n :: .int dp :: .ref o1 :: .int sp :: .ref o0 :: rest => ∃ (n0 n1 : Nat) (f g : Nat → Int32), am_nth h o0 = some (.inl (a, n0, f)) ∧ am_nth h o1 = some (.inl (a, n1, g)) ∧ ¬ sp < 0 ∧ ¬ dp < 0 ∧ ¬ n < 0 ∧ sp.toNatClampNeg + n.toNatClampNeg ≤ n0 ∧ dp.toNatClampNeg + n.toNatClampNeg ≤ n1 ∧ (∀ i, i < n.toNatClampNeg → fits (am_aty a) (.int (f (sp.toNatClampNeg + i))) = true) ∧ 1 ≤ d ∧ am_cat rest ≤ 8 ∧
          K kc ks (pc + 3) ls rest (am_put h o1 (.inl (a, n1, va_cpy f g sp.toNatClampNeg dp.toNatClampNeg n.toNatClampNeg)))
      | _ => False
    | _ => match am_pop b st [] with
      | some (As, rest) => am_call (tab a) d kc ks As rest ls h (fun kc ks r h => K kc ks (pc + 3) ls (r.toList ++ rest) h)
      | _ => False
  | .invokespecial _ => match am_pop b st [] with
    | some (As, .ref o :: rest) => match c with
      | 0 => am_call (tab a) d kc ks (.ref o :: As) rest ls h (fun kc ks r h => K kc ks (pc + 3) ls (r.toList ++ rest) h)
      | 1 => am_call (tab a) d kc ks (.ref o :: As) rest ls h (fun kc ks r h => K kc ks (pc + 3) ls (r.toList ++ rest) h)
      | 2 => 1 ≤ d ∧ am_cat rest ≤ 8 ∧ K kc ks (pc + 3) ls rest h
      | _ => ∃ (ci : Nat) (fs : List Value) (q : vw_C), am_cls[ci]? = some q ∧ am_nth h o = some (.inr (.inr (ci, fs))) ∧ am_call (tab a) d kc ks (.ref o :: As) rest ls h (fun kc ks r h => K kc ks (pc + 3) ls (r.toList ++ rest) h)
    | _ => False
  | _ => False
/-- n steps; then K -/
def am_wp (tab : Nat → am_MI) (mi : am_MI) (d : Nat) (Q : Option Value → am_H → Prop) : Nat → am_K
  | 0 => am_W mi d Q
  | n + 1 => fun kc ks pc ls st h => match am_nth (am_ins mi) pc with
    | some (some (i, len, a, b, c, k)) => am_do tab mi d Q (am_wp tab mi d Q n) kc ks pc ls st h len a b c k i
    | _ => False
end
section
/-! facts of the classes, by program -/
theorem am_in0 : ∀ w ∈ u_ws RX0 TX0 18, w ∈ am_gt := by decide +kernel
theorem am_df0 : ∀ j, j < 18 → defaultValue (am_fty 0 j) = vp_V (am_new 0) j := by decide +kernel
theorem am_dl0 : (am_new 0).length = 18 := by decide +kernel
theorem am_ow0 : ∀ k, k < 18 → (TX0 k).1 = RX0 := by decide +kernel
theorem am_ty0 : ∀ k, k < 18 → parseFieldDescriptor (TX0 k).2.2.1 = some (am_fty 0 k) := by decide +kernel
theorem am_in1 : ∀ w ∈ u_ws RX1 TX1 0, w ∈ am_gt := by decide +kernel
theorem am_df1 : ∀ j, j < 0 → defaultValue (am_fty 1 j) = vp_V (am_new 1) j := by decide +kernel
theorem am_dl1 : (am_new 1).length = 0 := by decide +kernel
theorem am_ow1 : ∀ k, k < 0 → (TX1 k).1 = RX1 := by decide +kernel
theorem am_ty1 : ∀ k, k < 0 → parseFieldDescriptor (TX1 k).2.2.1 = some (am_fty 1 k) := by decide +kernel
theorem am_in2 : ∀ w ∈ u_ws RX2 TX2 7, w ∈ am_gt := by decide +kernel
theorem am_df2 : ∀ j, j < 7 → defaultValue (am_fty 2 j) = vp_V (am_new 2) j := by decide +kernel
theorem am_dl2 : (am_new 2).length = 7 := by decide +kernel
theorem am_ow2 : ∀ k, k < 7 → (TX2 k).1 = RX2 := by decide +kernel
theorem am_ty2 : ∀ k, k < 7 → parseFieldDescriptor (TX2 k).2.2.1 = some (am_fty 2 k) := by decide +kernel
theorem am_in3 : ∀ w ∈ u_ws RX3 TX3 0, w ∈ am_gt := by decide +kernel
theorem am_df3 : ∀ j, j < 0 → defaultValue (am_fty 3 j) = vp_V (am_new 3) j := by decide +kernel
theorem am_dl3 : (am_new 3).length = 0 := by decide +kernel
theorem am_ow3 : ∀ k, k < 0 → (TX3 k).1 = RX3 := by decide +kernel
theorem am_ty3 : ∀ k, k < 0 → parseFieldDescriptor (TX3 k).2.2.1 = some (am_fty 3 k) := by decide +kernel
theorem am_in4 : ∀ w ∈ u_ws RX4 TX4 0, w ∈ am_gt := by decide +kernel
theorem am_df4 : ∀ j, j < 0 → defaultValue (am_fty 4 j) = vp_V (am_new 4) j := by decide +kernel
theorem am_dl4 : (am_new 4).length = 0 := by decide +kernel
theorem am_ow4 : ∀ k, k < 0 → (TX4 k).1 = RX4 := by decide +kernel
theorem am_ty4 : ∀ k, k < 0 → parseFieldDescriptor (TX4 k).2.2.1 = some (am_fty 4 k) := by decide +kernel
theorem am_in5 : ∀ w ∈ u_ws RX5 TX5 0, w ∈ am_gt := by decide +kernel
theorem am_df5 : ∀ j, j < 0 → defaultValue (am_fty 5 j) = vp_V (am_new 5) j := by decide +kernel
theorem am_dl5 : (am_new 5).length = 0 := by decide +kernel
theorem am_ow5 : ∀ k, k < 0 → (TX5 k).1 = RX5 := by decide +kernel
theorem am_ty5 : ∀ k, k < 0 → parseFieldDescriptor (TX5 k).2.2.1 = some (am_fty 5 k) := by decide +kernel
theorem am_in6 : ∀ w ∈ u_ws RX6 TX6 8, w ∈ am_gt := by decide +kernel
theorem am_df6 : ∀ j, j < 8 → defaultValue (am_fty 6 j) = vp_V (am_new 6) j := by decide +kernel
theorem am_dl6 : (am_new 6).length = 8 := by decide +kernel
theorem am_ow6 : ∀ k, k < 8 → (TX6 k).1 = RX6 := by decide +kernel
theorem am_ty6 : ∀ k, k < 8 → parseFieldDescriptor (TX6 k).2.2.1 = some (am_fty 6 k) := by decide +kernel
theorem am_in7 : ∀ w ∈ u_ws RX7 TX7 5, w ∈ am_gt := by decide +kernel
theorem am_df7 : ∀ j, j < 5 → defaultValue (am_fty 7 j) = vp_V (am_new 7) j := by decide +kernel
theorem am_dl7 : (am_new 7).length = 5 := by decide +kernel
theorem am_ow7 : ∀ k, k < 5 → (TX7 k).1 = RX7 := by decide +kernel
theorem am_ty7 : ∀ k, k < 5 → parseFieldDescriptor (TX7 k).2.2.1 = some (am_fty 7 k) := by decide +kernel
theorem am_in8 : ∀ w ∈ u_ws RX8 TX8 0, w ∈ am_gt := by decide +kernel
theorem am_df8 : ∀ j, j < 0 → defaultValue (am_fty 8 j) = vp_V (am_new 8) j := by decide +kernel
theorem am_dl8 : (am_new 8).length = 0 := by decide +kernel
theorem am_ow8 : ∀ k, k < 0 → (TX8 k).1 = RX8 := by decide +kernel
theorem am_ty8 : ∀ k, k < 0 → parseFieldDescriptor (TX8 k).2.2.1 = some (am_fty 8 k) := by decide +kernel
theorem am_in9 : ∀ w ∈ u_ws RX9 TX9 6, w ∈ am_gt := by decide +kernel
theorem am_df9 : ∀ j, j < 6 → defaultValue (am_fty 9 j) = vp_V (am_new 9) j := by decide +kernel
theorem am_dl9 : (am_new 9).length = 6 := by decide +kernel
theorem am_ow9 : ∀ k, k < 6 → (TX9 k).1 = RX9 := by decide +kernel
theorem am_ty9 : ∀ k, k < 6 → parseFieldDescriptor (TX9 k).2.2.1 = some (am_fty 9 k) := by decide +kernel
theorem am_in10 : ∀ w ∈ u_ws RX10 TX10 5, w ∈ am_gt := by decide +kernel
theorem am_df10 : ∀ j, j < 5 → defaultValue (am_fty 10 j) = vp_V (am_new 10) j := by decide +kernel
theorem am_dl10 : (am_new 10).length = 5 := by decide +kernel
theorem am_ow10 : ∀ k, k < 5 → (TX10 k).1 = RX10 := by decide +kernel
theorem am_ty10 : ∀ k, k < 5 → parseFieldDescriptor (TX10 k).2.2.1 = some (am_fty 10 k) := by decide +kernel
theorem am_in11 : ∀ w ∈ u_ws RX11 TX11 7, w ∈ am_gt := by decide +kernel
theorem am_df11 : ∀ j, j < 7 → defaultValue (am_fty 11 j) = vp_V (am_new 11) j := by decide +kernel
theorem am_dl11 : (am_new 11).length = 7 := by decide +kernel
theorem am_ow11 : ∀ k, k < 7 → (TX11 k).1 = RX11 := by decide +kernel
theorem am_ty11 : ∀ k, k < 7 → parseFieldDescriptor (TX11 k).2.2.1 = some (am_fty 11 k) := by decide +kernel
theorem am_in12 : ∀ w ∈ u_ws RX12 TX12 15, w ∈ am_gt := by decide +kernel
theorem am_df12 : ∀ j, j < 15 → defaultValue (am_fty 12 j) = vp_V (am_new 12) j := by decide +kernel
theorem am_dl12 : (am_new 12).length = 15 := by decide +kernel
theorem am_ow12 : ∀ k, k < 15 → (TX12 k).1 = RX12 := by decide +kernel
theorem am_ty12 : ∀ k, k < 15 → parseFieldDescriptor (TX12 k).2.2.1 = some (am_fty 12 k) := by decide +kernel
/-- what is known of a class by its number -/
def am_Cok (ci : Nat) (C : String) (T : u_T) (N : Nat) : Prop := (∀ w ∈ u_ws C T N, w ∈ am_gt) ∧ (∀ k, k < N → parseFieldDescriptor (T k).2.2.1 = some (am_fty ci k)) ∧ (∀ a, a < N → ∀ b, b < N → a ≠ b → (T a).2.1 ≠ (T b).2.1) ∧ (∀ k, k < N → (T k).1 = C) ∧ (∀ j, j < N → defaultValue (am_fty ci j) = vp_V (am_new ci) j) ∧ (am_new ci).length = N
theorem am_cls_ok : ∀ (ci : Nat) (q : vw_C), am_cls[ci]? = some q → am_Cok ci q.1 q.2.1 q.2.2 := by
  intro ci q hq
  match ci, hq with
  | 0, hq => cases hq; exact ⟨am_in0, am_ty0, nmX0, am_ow0, am_df0, am_dl0⟩
  | 1, hq => cases hq; exact ⟨am_in1, am_ty1, nmX1, am_ow1, am_df1, am_dl1⟩
  | 2, hq => cases hq; exact ⟨am_in2, am_ty2, nmX2, am_ow2, am_df2, am_dl2⟩
  | 3, hq => cases hq; exact ⟨am_in3, am_ty3, nmX3, am_ow3, am_df3, am_dl3⟩
  | 4, hq => cases hq; exact ⟨am_in4, am_ty4, nmX4, am_ow4, am_df4, am_dl4⟩
  | 5, hq => cases hq; exact ⟨am_in5, am_ty5, nmX5, am_ow5, am_df5, am_dl5⟩
  | 6, hq => cases hq; exact ⟨am_in6, am_ty6, nmX6, am_ow6, am_df6, am_dl6⟩
  | 7, hq => cases hq; exact ⟨am_in7, am_ty7, nmX7, am_ow7, am_df7, am_dl7⟩
  | 8, hq => cases hq; exact ⟨am_in8, am_ty8, nmX8, am_ow8, am_df8, am_dl8⟩
  | 9, hq => cases hq; exact ⟨am_in9, am_ty9, nmX9, am_ow9, am_df9, am_dl9⟩
  | 10, hq => cases hq; exact ⟨am_in10, am_ty10, nmX10, am_ow10, am_df10, am_dl10⟩
  | 11, hq => cases hq; exact ⟨am_in11, am_ty11, nmX11, am_ow11, am_df11, am_dl11⟩
  | 12, hq => cases hq; exact ⟨am_in12, am_ty12, nmX12, am_ow12, am_df12, am_dl12⟩
  | n + 13, hq => simp [am_cls] at hq
end
section
/-! THE STEPS: a row an instruction -/
section AMS
variable {mi : am_MI} {d : Nat} {Q : Option Value → am_H → Prop} {kc ks pc : Nat} {ls : am_L} {st : List Value} {h : am_H}
theorem am_s_iadd {x y : Int32} (hd : decode (am_code mi) pc = .ok (.iadd, 1)) (hk : am_W mi d Q kc ks (pc + 1) ls (.int (x + y) :: st) h) : am_W mi d Q kc ks pc ls (.int y :: .int x :: st) h := by
  intro p l e R s m args below meth c D tc ad ad0 h0 A H locs cells slots mc ms lsC hX hE hA hG hag hP hD hS hl
  exact lv_iadd hX.1 hX.2.1 hd  (hk p l e R s m args below meth c D tc ad ad0 h0 A H locs cells slots mc ms lsC hX hE hA hG hag hP hD hS hl)
theorem am_s_isub {x y : Int32} (hd : decode (am_code mi) pc = .ok (.isub, 1)) (hk : am_W mi d Q kc ks (pc + 1) ls (.int (x - y) :: st) h) : am_W mi d Q kc ks pc ls (.int y :: .int x :: st) h := by
  intro p l e R s m args below meth c D tc ad ad0 h0 A H locs cells slots mc ms lsC hX hE hA hG hag hP hD hS hl
  exact lv_isub hX.1 hX.2.1 hd  (hk p l e R s m args below meth c D tc ad ad0 h0 A H locs cells slots mc ms lsC hX hE hA hG hag hP hD hS hl)
theorem am_s_imul {x y : Int32} (hd : decode (am_code mi) pc = .ok (.imul, 1)) (hk : am_W mi d Q kc ks (pc + 1) ls (.int (x * y) :: st) h) : am_W mi d Q kc ks pc ls (.int y :: .int x :: st) h := by
  intro p l e R s m args below meth c D tc ad ad0 h0 A H locs cells slots mc ms lsC hX hE hA hG hag hP hD hS hl
  exact lv_imul hX.1 hX.2.1 hd  (hk p l e R s m args below meth c D tc ad ad0 h0 A H locs cells slots mc ms lsC hX hE hA hG hag hP hD hS hl)
theorem am_s_iand {x y : Int32} (hd : decode (am_code mi) pc = .ok (.iand, 1)) (hk : am_W mi d Q kc ks (pc + 1) ls (.int (x &&& y) :: st) h) : am_W mi d Q kc ks pc ls (.int y :: .int x :: st) h := by
  intro p l e R s m args below meth c D tc ad ad0 h0 A H locs cells slots mc ms lsC hX hE hA hG hag hP hD hS hl
  exact lv_iand hX.1 hX.2.1 hd  (hk p l e R s m args below meth c D tc ad ad0 h0 A H locs cells slots mc ms lsC hX hE hA hG hag hP hD hS hl)
theorem am_s_ior {x y : Int32} (hd : decode (am_code mi) pc = .ok (.ior, 1)) (hk : am_W mi d Q kc ks (pc + 1) ls (.int (x ||| y) :: st) h) : am_W mi d Q kc ks pc ls (.int y :: .int x :: st) h := by
  intro p l e R s m args below meth c D tc ad ad0 h0 A H locs cells slots mc ms lsC hX hE hA hG hag hP hD hS hl
  exact lv_ior hX.1 hX.2.1 hd  (hk p l e R s m args below meth c D tc ad ad0 h0 A H locs cells slots mc ms lsC hX hE hA hG hag hP hD hS hl)
theorem am_s_ixor {x y : Int32} (hd : decode (am_code mi) pc = .ok (.ixor, 1)) (hk : am_W mi d Q kc ks (pc + 1) ls (.int (x ^^^ y) :: st) h) : am_W mi d Q kc ks pc ls (.int y :: .int x :: st) h := by
  intro p l e R s m args below meth c D tc ad ad0 h0 A H locs cells slots mc ms lsC hX hE hA hG hag hP hD hS hl
  exact lv_ixor hX.1 hX.2.1 hd  (hk p l e R s m args below meth c D tc ad ad0 h0 A H locs cells slots mc ms lsC hX hE hA hG hag hP hD hS hl)
theorem am_s_ishl {x y : Int32} (hd : decode (am_code mi) pc = .ok (.ishl, 1)) (hk : am_W mi d Q kc ks (pc + 1) ls (.int (x <<< (y &&& 31)) :: st) h) : am_W mi d Q kc ks pc ls (.int y :: .int x :: st) h := by
  intro p l e R s m args below meth c D tc ad ad0 h0 A H locs cells slots mc ms lsC hX hE hA hG hag hP hD hS hl
  exact lv_ishl hX.1 hX.2.1 hd  (hk p l e R s m args below meth c D tc ad ad0 h0 A H locs cells slots mc ms lsC hX hE hA hG hag hP hD hS hl)
theorem am_s_ishr {x y : Int32} (hd : decode (am_code mi) pc = .ok (.ishr, 1)) (hk : am_W mi d Q kc ks (pc + 1) ls (.int (x >>> (y &&& 31)) :: st) h) : am_W mi d Q kc ks pc ls (.int y :: .int x :: st) h := by
  intro p l e R s m args below meth c D tc ad ad0 h0 A H locs cells slots mc ms lsC hX hE hA hG hag hP hD hS hl
  exact lv_ishr hX.1 hX.2.1 hd  (hk p l e R s m args below meth c D tc ad ad0 h0 A H locs cells slots mc ms lsC hX hE hA hG hag hP hD hS hl)
theorem am_s_idiv {x y : Int32} (hne : ¬ y = 0) (hd : decode (am_code mi) pc = .ok (.idiv, 1)) (hk : am_W mi d Q kc ks (pc + 1) ls (.int (x / y) :: st) h) : am_W mi d Q kc ks pc ls (.int y :: .int x :: st) h := by
  intro p l e R s m args below meth c D tc ad ad0 h0 A H locs cells slots mc ms lsC hX hE hA hG hag hP hD hS hl
  exact lv_idiv hX.1 hX.2.1 hd hne (hk p l e R s m args below meth c D tc ad ad0 h0 A H locs cells slots mc ms lsC hX hE hA hG hag hP hD hS hl)
theorem am_s_irem {x y : Int32} (hne : ¬ y = 0) (hd : decode (am_code mi) pc = .ok (.irem, 1)) (hk : am_W mi d Q kc ks (pc + 1) ls (.int (x - x / y * y) :: st) h) : am_W mi d Q kc ks pc ls (.int y :: .int x :: st) h := by
  intro p l e R s m args below meth c D tc ad ad0 h0 A H locs cells slots mc ms lsC hX hE hA hG hag hP hD hS hl
  exact lv_irem hX.1 hX.2.1 hd hne (hk p l e R s m args below meth c D tc ad ad0 h0 A H locs cells slots mc ms lsC hX hE hA hG hag hP hD hS hl)
theorem am_s_iushr {x y : Int32} (hd : decode (am_code mi) pc = .ok (.iushr, 1)) (hk : am_W mi d Q kc ks (pc + 1) ls (.int (x.toUInt32 >>> (y.toUInt32 &&& Int32.toUInt32 31)).toInt32 :: st) h) : am_W mi d Q kc ks pc ls (.int y :: .int x :: st) h := by
  intro p l e R s m args below meth c D tc ad ad0 h0 A H locs cells slots mc ms lsC hX hE hA hG hag hP hD hS hl
  exact lv_iushr hX.1 hX.2.1 hd rfl (hk p l e R s m args below meth c D tc ad ad0 h0 A H locs cells slots mc ms lsC hX hE hA hG hag hP hD hS hl)
theorem am_s_ineg {x : Int32} (hd : decode (am_code mi) pc = .ok (.ineg, 1)) (hk : am_W mi d Q kc ks (pc + 1) ls (.int (-x) :: st) h) : am_W mi d Q kc ks pc ls (.int x :: st) h := by
  intro p l e R s m args below meth c D tc ad ad0 h0 A H locs cells slots mc ms lsC hX hE hA hG hag hP hD hS hl
  exact lv_ineg hX.1 hX.2.1 hd  (hk p l e R s m args below meth c D tc ad ad0 h0 A H locs cells slots mc ms lsC hX hE hA hG hag hP hD hS hl)
theorem am_s_land {x y : Int64} (hd : decode (am_code mi) pc = .ok (.land, 1)) (hk : am_W mi d Q kc ks (pc + 1) ls (.long (x &&& y) :: st) h) : am_W mi d Q kc ks pc ls (.long y :: .long x :: st) h := by
  intro p l e R s m args below meth c D tc ad ad0 h0 A H locs cells slots mc ms lsC hX hE hA hG hag hP hD hS hl
  exact lv_land hX.1 hX.2.1 hd  (hk p l e R s m args below meth c D tc ad ad0 h0 A H locs cells slots mc ms lsC hX hE hA hG hag hP hD hS hl)
theorem am_s_lshr {x : Int64} {y : Int32} (hd : decode (am_code mi) pc = .ok (.lshr, 1)) (hk : am_W mi d Q kc ks (pc + 1) ls (.long (x >>> (y.toInt64 &&& 63)) :: st) h) : am_W mi d Q kc ks pc ls (.int y :: .long x :: st) h := by
  intro p l e R s m args below meth c D tc ad ad0 h0 A H locs cells slots mc ms lsC hX hE hA hG hag hP hD hS hl
  exact lv_lshr hX.1 hX.2.1 hd rfl (hk p l e R s m args below meth c D tc ad ad0 h0 A H locs cells slots mc ms lsC hX hE hA hG hag hP hD hS hl)
theorem am_s_lushr {x : Int64} {y : Int32} (hd : decode (am_code mi) pc = .ok (.lushr, 1)) (hk : am_W mi d Q kc ks (pc + 1) ls (.long (x.toUInt64 >>> (y.toInt64.toUInt64 &&& Int64.toUInt64 63)).toInt64 :: st) h) : am_W mi d Q kc ks pc ls (.int y :: .long x :: st) h := by
  intro p l e R s m args below meth c D tc ad ad0 h0 A H locs cells slots mc ms lsC hX hE hA hG hag hP hD hS hl
  exact lv_lushr hX.1 hX.2.1 hd rfl (hk p l e R s m args below meth c D tc ad ad0 h0 A H locs cells slots mc ms lsC hX hE hA hG hag hP hD hS hl)
theorem am_s_l2i {x : Int64} (hd : decode (am_code mi) pc = .ok (.l2i, 1)) (hk : am_W mi d Q kc ks (pc + 1) ls (.int x.toInt32 :: st) h) : am_W mi d Q kc ks pc ls (.long x :: st) h := by
  intro p l e R s m args below meth c D tc ad ad0 h0 A H locs cells slots mc ms lsC hX hE hA hG hag hP hD hS hl
  exact lv_l2i hX.1 hX.2.1 hd rfl (hk p l e R s m args below meth c D tc ad ad0 h0 A H locs cells slots mc ms lsC hX hE hA hG hag hP hD hS hl)
theorem am_s_i2b {x : Int32} (hd : decode (am_code mi) pc = .ok (.i2b, 1)) (hk : am_W mi d Q kc ks (pc + 1) ls (.int x.toInt8.toInt32 :: st) h) : am_W mi d Q kc ks pc ls (.int x :: st) h := by
  intro p l e R s m args below meth c D tc ad ad0 h0 A H locs cells slots mc ms lsC hX hE hA hG hag hP hD hS hl
  exact lv_i2b hX.1 hX.2.1 hd rfl (hk p l e R s m args below meth c D tc ad ad0 h0 A H locs cells slots mc ms lsC hX hE hA hG hag hP hD hS hl)
theorem am_s_i2c {x : Int32} (hd : decode (am_code mi) pc = .ok (.i2c, 1)) (hk : am_W mi d Q kc ks (pc + 1) ls (.int (x.toUInt32 % 65536).toInt32 :: st) h) : am_W mi d Q kc ks pc ls (.int x :: st) h := by
  intro p l e R s m args below meth c D tc ad ad0 h0 A H locs cells slots mc ms lsC hX hE hA hG hag hP hD hS hl
  exact lv_i2c hX.1 hX.2.1 hd rfl (hk p l e R s m args below meth c D tc ad ad0 h0 A H locs cells slots mc ms lsC hX hE hA hG hag hP hD hS hl)
theorem am_s_dupi {x : Int32} (hd : decode (am_code mi) pc = .ok (.dup, 1)) (hk : am_W mi d Q kc ks (pc + 1) ls (.int x :: .int x :: st) h) : am_W mi d Q kc ks pc ls (.int x :: st) h := by
  intro p l e R s m args below meth c D tc ad ad0 h0 A H locs cells slots mc ms lsC hX hE hA hG hag hP hD hS hl
  exact lv_dup hX.1 hX.2.1 hd rfl (hk p l e R s m args below meth c D tc ad ad0 h0 A H locs cells slots mc ms lsC hX hE hA hG hag hP hD hS hl)
theorem am_s_dupr {x : Nat} (hd : decode (am_code mi) pc = .ok (.dup, 1)) (hk : am_W mi d Q kc ks (pc + 1) ls (.ref x :: .ref x :: st) h) : am_W mi d Q kc ks pc ls (.ref x :: st) h := by
  intro p l e R s m args below meth c D tc ad ad0 h0 A H locs cells slots mc ms lsC hX hE hA hG hag hP hD hS hl
  exact lv_dup hX.1 hX.2.1 hd rfl (hk p l e R s m args below meth c D tc ad ad0 h0 A H locs cells slots mc ms lsC hX hE hA hG hag hP hD hS hl)
theorem am_s_dup2 {y : Int32} {x : Nat} (hd : decode (am_code mi) pc = .ok (.dup2, 1)) (hk : am_W mi d Q kc ks (pc + 1) ls (.int y :: .ref x :: .int y :: .ref x :: st) h) : am_W mi d Q kc ks pc ls (.int y :: .ref x :: st) h := by
  intro p l e R s m args below meth c D tc ad ad0 h0 A H locs cells slots mc ms lsC hX hE hA hG hag hP hD hS hl
  exact lv_dup2_11 hX.1 hX.2.1 hd rfl rfl (hk p l e R s m args below meth c D tc ad ad0 h0 A H locs cells slots mc ms lsC hX hE hA hG hag hP hD hS hl)
theorem am_s_popi {x : Int32} (hd : decode (am_code mi) pc = .ok (.pop, 1)) (hk : am_W mi d Q kc ks (pc + 1) ls st h) : am_W mi d Q kc ks pc ls (.int x :: st) h := by
  intro p l e R s m args below meth c D tc ad ad0 h0 A H locs cells slots mc ms lsC hX hE hA hG hag hP hD hS hl
  exact lv_pop (va := .int x) hX.1 hX.2.1 hd rfl (hk p l e R s m args below meth c D tc ad ad0 h0 A H locs cells slots mc ms lsC hX hE hA hG hag hP hD hS hl)
theorem am_s_popr {x : Nat} (hd : decode (am_code mi) pc = .ok (.pop, 1)) (hk : am_W mi d Q kc ks (pc + 1) ls st h) : am_W mi d Q kc ks pc ls (.ref x :: st) h := by
  intro p l e R s m args below meth c D tc ad ad0 h0 A H locs cells slots mc ms lsC hX hE hA hG hag hP hD hS hl
  exact lv_pop (va := .ref (ad x)) hX.1 hX.2.1 hd rfl (hk p l e R s m args below meth c D tc ad ad0 h0 A H locs cells slots mc ms lsC hX hE hA hG hag hP hD hS hl)
theorem am_s_iconst {n : Int} {k : Int32} (hv : Int32.ofInt n = k) (hd : decode (am_code mi) pc = .ok (.iconst n, 1)) (hk : am_W mi d Q kc ks (pc + 1) ls (.int k :: st) h) : am_W mi d Q kc ks pc ls st h := by
  intro p l e R s m args below meth c D tc ad ad0 h0 A H locs cells slots mc ms lsC hX hE hA hG hag hP hD hS hl
  exact lv_iconst hX.1 hX.2.1 hd hv (hk p l e R s m args below meth c D tc ad ad0 h0 A H locs cells slots mc ms lsC hX hE hA hG hag hP hD hS hl)
theorem am_s_bipush {n : Int} {k : Int32} (hv : (Int8.ofInt n).toInt32 = k) (hd : decode (am_code mi) pc = .ok (.bipush n, 2)) (hk : am_W mi d Q kc ks (pc + 2) ls (.int k :: st) h) : am_W mi d Q kc ks pc ls st h := by
  intro p l e R s m args below meth c D tc ad ad0 h0 A H locs cells slots mc ms lsC hX hE hA hG hag hP hD hS hl
  exact lv_bipush hX.1 hX.2.1 hd hv (hk p l e R s m args below meth c D tc ad ad0 h0 A H locs cells slots mc ms lsC hX hE hA hG hag hP hD hS hl)
theorem am_s_sipush {n : Int} {k : Int32} (hv : (Int16.ofInt n).toInt32 = k) (hd : decode (am_code mi) pc = .ok (.sipush n, 3)) (hk : am_W mi d Q kc ks (pc + 3) ls (.int k :: st) h) : am_W mi d Q kc ks pc ls st h := by
  intro p l e R s m args below meth c D tc ad ad0 h0 A H locs cells slots mc ms lsC hX hE hA hG hag hP hD hS hl
  exact lv_sipush hX.1 hX.2.1 hd hv (hk p l e R s m args below meth c D tc ad ad0 h0 A H locs cells slots mc ms lsC hX hE hA hG hag hP hD hS hl)
theorem am_s_ldc {ix : Nat} {k : Int32} (hw : Cond.constant (am_y mi).cls ix k ∈ am_gt) (hd : decode (am_code mi) pc = .ok (.ldc ix, 2)) (hk : am_W mi d Q kc ks (pc + 2) ls (.int k :: st) h) : am_W mi d Q kc ks pc ls st h := by
  intro p l e R s m args below meth c D tc ad ad0 h0 A H locs cells slots mc ms lsC hX hE hA hG hag hP hD hS hl
  exact lv_ldc hX.1 hX.2.1 hX.2.2.2.2.1 (hX.2.2.2.2.2.2.2.1 _ hw args) hd (hk p l e R s m args below meth c D tc ad ad0 h0 A H locs cells slots mc ms lsC hX hE hA hG hag hP hD hS hl)
theorem am_s_ldcw {ix : Nat} {k : Int32} (hw : Cond.constant (am_y mi).cls ix k ∈ am_gt) (hd : decode (am_code mi) pc = .ok (.ldc_w ix, 3)) (hk : am_W mi d Q kc ks (pc + 3) ls (.int k :: st) h) : am_W mi d Q kc ks pc ls st h := by
  intro p l e R s m args below meth c D tc ad ad0 h0 A H locs cells slots mc ms lsC hX hE hA hG hag hP hD hS hl
  exact lv_ldcw hX.1 hX.2.1 hX.2.2.2.2.1 (hX.2.2.2.2.2.2.2.1 _ hw args) hd (hk p l e R s m args below meth c D tc ad ad0 h0 A H locs cells slots mc ms lsC hX hE hA hG hag hP hD hS hl)
theorem am_s_ldc2 {ix : Nat} {k : Int64} (hw : Cond.constantLong (am_y mi).cls ix k ∈ am_gt) (hd : decode (am_code mi) pc = .ok (.ldc2_w ix, 3)) (hk : am_W mi d Q kc ks (pc + 3) ls (.long k :: st) h) : am_W mi d Q kc ks pc ls st h := by
  intro p l e R s m args below meth c D tc ad ad0 h0 A H locs cells slots mc ms lsC hX hE hA hG hag hP hD hS hl
  exact lv_ldc2 hX.1 hX.2.1 hX.2.2.2.2.1 (hX.2.2.2.2.2.2.2.1 _ hw args) hd (hk p l e R s m args below meth c D tc ad ad0 h0 A H locs cells slots mc ms lsC hX hE hA hG hag hP hD hS hl)
theorem am_s_str0 (ho : (am_y mi).cls = "DeedProofs$RuleReader") (hd : decode (am_code mi) pc = .ok (.ldc 56, 2)) (hk : am_W mi d Q kc ks (pc + 2) ls (.ref 100000 :: st) h) : am_W mi d Q kc ks pc ls st h := by
  intro p l e R s m args below meth c D tc ad ad0 h0 A H locs cells slots mc ms lsC hX hE hA hG hag hP hD hS hl
  have hR := hE.2.1.1
  rw [← hag.2.2 100000 (Or.inr (by have := hag.2.1; omega)), ← ho] at hR
  exact va_ldcS hX.1 hX.2.1 hX.2.2.2.2.1 hR hd (hk p l e R s m args below meth c D tc ad ad0 h0 A H locs cells slots mc ms lsC hX hE hA hG hag hP hD hS hl)
theorem am_s_str1 (ho : (am_y mi).cls = "DeedProofs$RuleReader") (hd : decode (am_code mi) pc = .ok (.ldc 62, 2)) (hk : am_W mi d Q kc ks (pc + 2) ls (.ref 100001 :: st) h) : am_W mi d Q kc ks pc ls st h := by
  intro p l e R s m args below meth c D tc ad ad0 h0 A H locs cells slots mc ms lsC hX hE hA hG hag hP hD hS hl
  have hR := hE.2.1.2.1
  rw [← hag.2.2 100001 (Or.inr (by have := hag.2.1; omega)), ← ho] at hR
  exact va_ldcS hX.1 hX.2.1 hX.2.2.2.2.1 hR hd (hk p l e R s m args below meth c D tc ad ad0 h0 A H locs cells slots mc ms lsC hX hE hA hG hag hP hD hS hl)
theorem am_s_str2 (ho : (am_y mi).cls = "DeedProofs$RuleReader") (hd : decode (am_code mi) pc = .ok (.ldc 75, 2)) (hk : am_W mi d Q kc ks (pc + 2) ls (.ref 100002 :: st) h) : am_W mi d Q kc ks pc ls st h := by
  intro p l e R s m args below meth c D tc ad ad0 h0 A H locs cells slots mc ms lsC hX hE hA hG hag hP hD hS hl
  have hR := hE.2.1.2.2
  rw [← hag.2.2 100002 (Or.inr (by have := hag.2.1; omega)), ← ho] at hR
  exact va_ldcS hX.1 hX.2.1 hX.2.2.2.2.1 hR hd (hk p l e R s m args below meth c D tc ad ad0 h0 A H locs cells slots mc ms lsC hX hE hA hG hag hP hD hS hl)
theorem am_s_null  (hd : decode (am_code mi) pc = .ok (.aconst_null, 1)) (hk : am_W mi d Q kc ks (pc + 1) ls (.null :: st) h) : am_W mi d Q kc ks pc ls st h := by
  intro p l e R s m args below meth c D tc ad ad0 h0 A H locs cells slots mc ms lsC hX hE hA hG hag hP hD hS hl
  exact lv_null hX.1 hX.2.1 hd  (hk p l e R s m args below meth c D tc ad ad0 h0 A H locs cells slots mc ms lsC hX hE hA hG hag hP hD hS hl)
theorem am_s_iload {a : Nat} {x : Int32} (hv : am_nth ls a = some (some (.int x))) (hd : decode (am_code mi) pc = .ok (.iload a, 2)) (hk : am_W mi d Q kc ks (pc + 2) ls ((.int x) :: st) h) : am_W mi d Q kc ks pc ls st h := by
  intro p l e R s m args below meth c D tc ad ad0 h0 A H locs cells slots mc ms lsC hX hE hA hG hag hP hD hS hl
  exact lv_iload hX.1 hX.2.1 hd (am_lv.get hl hv) (hk p l e R s m args below meth c D tc ad ad0 h0 A H locs cells slots mc ms lsC hX hE hA hG hag hP hD hS hl)
theorem am_s_iload_n {a : Nat} {x : Int32} {j : Fin 4} (hv : am_nth ls a = some (some (.int x))) (hd : decode (am_code mi) pc = .ok (.iload_n j, 1)) (hi : (j : Nat) = a) (hk : am_W mi d Q kc ks (pc + 1) ls ((.int x) :: st) h) : am_W mi d Q kc ks pc ls st h := by
  intro p l e R s m args below meth c D tc ad ad0 h0 A H locs cells slots mc ms lsC hX hE hA hG hag hP hD hS hl
  exact lv_iload_n hX.1 hX.2.1 hd hi (am_lv.get hl hv) (hk p l e R s m args below meth c D tc ad ad0 h0 A H locs cells slots mc ms lsC hX hE hA hG hag hP hD hS hl)
theorem am_s_lload_n {a : Nat} {x : Int64} {j : Fin 4} (hv : am_nth ls a = some (some (.long x))) (hd : decode (am_code mi) pc = .ok (.lload_n j, 1)) (hi : (j : Nat) = a) (hk : am_W mi d Q kc ks (pc + 1) ls ((.long x) :: st) h) : am_W mi d Q kc ks pc ls st h := by
  intro p l e R s m args below meth c D tc ad ad0 h0 A H locs cells slots mc ms lsC hX hE hA hG hag hP hD hS hl
  exact lv_lload_n hX.1 hX.2.1 hd hi (am_lv.get hl hv) (hk p l e R s m args below meth c D tc ad ad0 h0 A H locs cells slots mc ms lsC hX hE hA hG hag hP hD hS hl)
theorem am_s_aload {a : Nat} {x : Nat} (hv : am_nth ls a = some (some (.ref x))) (hd : decode (am_code mi) pc = .ok (.aload a, 2)) (hk : am_W mi d Q kc ks (pc + 2) ls ((.ref x) :: st) h) : am_W mi d Q kc ks pc ls st h := by
  intro p l e R s m args below meth c D tc ad ad0 h0 A H locs cells slots mc ms lsC hX hE hA hG hag hP hD hS hl
  exact lv_aload hX.1 hX.2.1 hd (am_lv.get hl hv) (hk p l e R s m args below meth c D tc ad ad0 h0 A H locs cells slots mc ms lsC hX hE hA hG hag hP hD hS hl)
theorem am_s_aload_n {a : Nat} {x : Nat} {j : Fin 4} (hv : am_nth ls a = some (some (.ref x))) (hd : decode (am_code mi) pc = .ok (.aload_n j, 1)) (hi : (j : Nat) = a) (hk : am_W mi d Q kc ks (pc + 1) ls ((.ref x) :: st) h) : am_W mi d Q kc ks pc ls st h := by
  intro p l e R s m args below meth c D tc ad ad0 h0 A H locs cells slots mc ms lsC hX hE hA hG hag hP hD hS hl
  exact lv_aload_n hX.1 hX.2.1 hd hi (am_lv.get hl hv) (hk p l e R s m args below meth c D tc ad ad0 h0 A H locs cells slots mc ms lsC hX hE hA hG hag hP hD hS hl)
theorem am_s_aloadN {a : Nat}  (hv : am_nth ls a = some (some .null)) (hd : decode (am_code mi) pc = .ok (.aload a, 2)) (hk : am_W mi d Q kc ks (pc + 2) ls (.null :: st) h) : am_W mi d Q kc ks pc ls st h := by
  intro p l e R s m args below meth c D tc ad ad0 h0 A H locs cells slots mc ms lsC hX hE hA hG hag hP hD hS hl
  exact lv_aloadN hX.1 hX.2.1 hd (am_lv.get hl hv) (hk p l e R s m args below meth c D tc ad ad0 h0 A H locs cells slots mc ms lsC hX hE hA hG hag hP hD hS hl)
theorem am_s_aload_nN {a : Nat} {j : Fin 4} (hv : am_nth ls a = some (some .null)) (hd : decode (am_code mi) pc = .ok (.aload_n j, 1)) (hi : (j : Nat) = a) (hk : am_W mi d Q kc ks (pc + 1) ls (.null :: st) h) : am_W mi d Q kc ks pc ls st h := by
  intro p l e R s m args below meth c D tc ad ad0 h0 A H locs cells slots mc ms lsC hX hE hA hG hag hP hD hS hl
  exact lv_aload_nN hX.1 hX.2.1 hd hi (am_lv.get hl hv) (hk p l e R s m args below meth c D tc ad ad0 h0 A H locs cells slots mc ms lsC hX hE hA hG hag hP hD hS hl)
theorem am_s_istore {a : Nat} {x : Int32} (hn : am_nl ls a = true) (ha : a < am_mL mi) (hd : decode (am_code mi) pc = .ok (.istore a, 2)) (hk : am_W mi d Q kc ks (pc + 2) (am_put ls a (some (.int x))) st h) : am_W mi d Q kc ks pc ls ((.int x) :: st) h := by
  intro p l e R s m args below meth c D tc ad ad0 h0 A H locs cells slots mc ms lsC hX hE hA hG hag hP hD hS hl
  exact lv_istore hX.1 hX.2.1 hd hl ha rfl (fun ls' hl' => (hk p l e R s m args below meth c D tc ad ad0 h0 A H locs cells slots mc ms ls' hX hE hA hG hag hP hD hS (am_lv.put hn hl')))
theorem am_s_istore_n {a : Nat} {x : Int32} {j : Fin 4} (hn : am_nl ls a = true) (ha : a < am_mL mi) (hd : decode (am_code mi) pc = .ok (.istore_n j, 1)) (hi : (j : Nat) = a) (hk : am_W mi d Q kc ks (pc + 1) (am_put ls a (some (.int x))) st h) : am_W mi d Q kc ks pc ls ((.int x) :: st) h := by
  intro p l e R s m args below meth c D tc ad ad0 h0 A H locs cells slots mc ms lsC hX hE hA hG hag hP hD hS hl
  exact lv_istore_n hX.1 hX.2.1 hd hi hl ha rfl (fun ls' hl' => (hk p l e R s m args below meth c D tc ad ad0 h0 A H locs cells slots mc ms ls' hX hE hA hG hag hP hD hS (am_lv.put hn hl')))
theorem am_s_astore {a : Nat} {x : Nat} (hn : am_nl ls a = true) (ha : a < am_mL mi) (hd : decode (am_code mi) pc = .ok (.astore a, 2)) (hk : am_W mi d Q kc ks (pc + 2) (am_put ls a (some (.ref x))) st h) : am_W mi d Q kc ks pc ls ((.ref x) :: st) h := by
  intro p l e R s m args below meth c D tc ad ad0 h0 A H locs cells slots mc ms lsC hX hE hA hG hag hP hD hS hl
  exact lv_astore hX.1 hX.2.1 hd hl ha rfl (fun ls' hl' => (hk p l e R s m args below meth c D tc ad ad0 h0 A H locs cells slots mc ms ls' hX hE hA hG hag hP hD hS (am_lv.put hn hl')))
theorem am_s_astore_n {a : Nat} {x : Nat} {j : Fin 4} (hn : am_nl ls a = true) (ha : a < am_mL mi) (hd : decode (am_code mi) pc = .ok (.astore_n j, 1)) (hi : (j : Nat) = a) (hk : am_W mi d Q kc ks (pc + 1) (am_put ls a (some (.ref x))) st h) : am_W mi d Q kc ks pc ls ((.ref x) :: st) h := by
  intro p l e R s m args below meth c D tc ad ad0 h0 A H locs cells slots mc ms lsC hX hE hA hG hag hP hD hS hl
  exact lv_astore_n hX.1 hX.2.1 hd hi hl ha rfl (fun ls' hl' => (hk p l e R s m args below meth c D tc ad ad0 h0 A H locs cells slots mc ms ls' hX hE hA hG hag hP hD hS (am_lv.put hn hl')))
theorem am_s_iinc {a : Nat} {n : Int} {x k : Int32} (hn : am_nl ls a = true) (ha : a < am_mL mi) (hv : Int32.ofInt n = k) (hx : am_nth ls a = some (some (.int x))) (hd : decode (am_code mi) pc = .ok (.iinc a n, 3)) (hk : am_W mi d Q kc ks (pc + 3) (am_put ls a (some (.int (x + k)))) st h) : am_W mi d Q kc ks pc ls st h := by
  intro p l e R s m args below meth c D tc ad ad0 h0 A H locs cells slots mc ms lsC hX hE hA hG hag hP hD hS hl
  have hm : (a, Value.int x) ∈ am_al ad 0 ls := (am_al_mem ls 0 _).mpr ⟨a, .int x, by simp [am_v], hx⟩
  obtain ⟨j, hj⟩ := List.getElem?_of_mem hm
  exact lv_iinc (v := x + k) hX.1 hX.2.1 hd hl (k := j) hj (by rw [hv]) ha rfl (fun ls' hl' => (hk p l e R s m args below meth c D tc ad ad0 h0 A H locs cells slots mc ms ls' hX hE hA hG hag hP hD hS (am_lv.put (v := .int (x + k)) hn hl')))
theorem am_s_goto {a : Nat} {off : Int} (ht : (pc : Int) + off = (a : Int)) (hd : decode (am_code mi) pc = .ok (.goto off, 3)) (hk : am_W mi d Q kc ks a ls st h) : am_W mi d Q kc ks pc ls st h := by
  intro p l e R s m args below meth c D tc ad ad0 h0 A H locs cells slots mc ms lsC hX hE hA hG hag hP hD hS hl
  exact lv_goto hX.1 hX.2.1 hd ht (hk p l e R s m args below meth c D tc ad ad0 h0 A H locs cells slots mc ms lsC hX hE hA hG hag hP hD hS hl)
theorem am_s_if {co : ClassFile.Cond} {a : Nat} {off : Int} {x : Int32} (ht : (pc : Int) + off = (a : Int)) (hd : decode (am_code mi) pc = .ok (.ifCond co off, 3)) (hk : am_br co x 0 (am_W mi d Q kc ks a ls st h) (am_W mi d Q kc ks (pc + 3) ls st h)) : am_W mi d Q kc ks pc ls (.int x :: st) h := by
  intro p l e R s m args below meth c D tc ad ad0 h0 A H locs cells slots mc ms lsC hX hE hA hG hag hP hD hS hl
  cases co
  · exact lv_if_eq hX.1 hX.2.1 hd ht (fun z => (hk.1 z p l e R s m args below meth c D tc ad ad0 h0 A H locs cells slots mc ms lsC hX hE hA hG hag hP hD hS hl)) (fun z => (hk.2 z p l e R s m args below meth c D tc ad ad0 h0 A H locs cells slots mc ms lsC hX hE hA hG hag hP hD hS hl))
  · exact lv_if_ne hX.1 hX.2.1 hd ht (fun z => (hk.1 z p l e R s m args below meth c D tc ad ad0 h0 A H locs cells slots mc ms lsC hX hE hA hG hag hP hD hS hl)) (fun z => (hk.2 z p l e R s m args below meth c D tc ad ad0 h0 A H locs cells slots mc ms lsC hX hE hA hG hag hP hD hS hl))
  · exact lv_if_lt hX.1 hX.2.1 hd ht (fun z => (hk.1 z p l e R s m args below meth c D tc ad ad0 h0 A H locs cells slots mc ms lsC hX hE hA hG hag hP hD hS hl)) (fun z => (hk.2 z p l e R s m args below meth c D tc ad ad0 h0 A H locs cells slots mc ms lsC hX hE hA hG hag hP hD hS hl))
  · exact lv_if_ge hX.1 hX.2.1 hd ht (fun z => (hk.1 z p l e R s m args below meth c D tc ad ad0 h0 A H locs cells slots mc ms lsC hX hE hA hG hag hP hD hS hl)) (fun z => (hk.2 z p l e R s m args below meth c D tc ad ad0 h0 A H locs cells slots mc ms lsC hX hE hA hG hag hP hD hS hl))
  · exact lv_if_gt hX.1 hX.2.1 hd ht (fun z => (hk.1 z p l e R s m args below meth c D tc ad ad0 h0 A H locs cells slots mc ms lsC hX hE hA hG hag hP hD hS hl)) (fun z => (hk.2 z p l e R s m args below meth c D tc ad ad0 h0 A H locs cells slots mc ms lsC hX hE hA hG hag hP hD hS hl))
  · exact lv_if_le hX.1 hX.2.1 hd ht (fun z => (hk.1 z p l e R s m args below meth c D tc ad ad0 h0 A H locs cells slots mc ms lsC hX hE hA hG hag hP hD hS hl)) (fun z => (hk.2 z p l e R s m args below meth c D tc ad ad0 h0 A H locs cells slots mc ms lsC hX hE hA hG hag hP hD hS hl))
theorem am_s_icmp {co : ClassFile.Cond} {a : Nat} {off : Int} {x y : Int32} (ht : (pc : Int) + off = (a : Int)) (hd : decode (am_code mi) pc = .ok (.if_icmp co off, 3)) (hk : am_br co x y (am_W mi d Q kc ks a ls st h) (am_W mi d Q kc ks (pc + 3) ls st h)) : am_W mi d Q kc ks pc ls (.int y :: .int x :: st) h := by
  intro p l e R s m args below meth c D tc ad ad0 h0 A H locs cells slots mc ms lsC hX hE hA hG hag hP hD hS hl
  cases co
  · exact lv_icmp_eq hX.1 hX.2.1 hd ht (fun z => (hk.1 z p l e R s m args below meth c D tc ad ad0 h0 A H locs cells slots mc ms lsC hX hE hA hG hag hP hD hS hl)) (fun z => (hk.2 z p l e R s m args below meth c D tc ad ad0 h0 A H locs cells slots mc ms lsC hX hE hA hG hag hP hD hS hl))
  · exact lv_icmp_ne hX.1 hX.2.1 hd ht (fun z => (hk.1 z p l e R s m args below meth c D tc ad ad0 h0 A H locs cells slots mc ms lsC hX hE hA hG hag hP hD hS hl)) (fun z => (hk.2 z p l e R s m args below meth c D tc ad ad0 h0 A H locs cells slots mc ms lsC hX hE hA hG hag hP hD hS hl))
  · exact lv_icmp_lt hX.1 hX.2.1 hd ht (fun z => (hk.1 z p l e R s m args below meth c D tc ad ad0 h0 A H locs cells slots mc ms lsC hX hE hA hG hag hP hD hS hl)) (fun z => (hk.2 z p l e R s m args below meth c D tc ad ad0 h0 A H locs cells slots mc ms lsC hX hE hA hG hag hP hD hS hl))
  · exact lv_icmp_ge hX.1 hX.2.1 hd ht (fun z => (hk.1 z p l e R s m args below meth c D tc ad ad0 h0 A H locs cells slots mc ms lsC hX hE hA hG hag hP hD hS hl)) (fun z => (hk.2 z p l e R s m args below meth c D tc ad ad0 h0 A H locs cells slots mc ms lsC hX hE hA hG hag hP hD hS hl))
  · exact lv_icmp_gt hX.1 hX.2.1 hd ht (fun z => (hk.1 z p l e R s m args below meth c D tc ad ad0 h0 A H locs cells slots mc ms lsC hX hE hA hG hag hP hD hS hl)) (fun z => (hk.2 z p l e R s m args below meth c D tc ad ad0 h0 A H locs cells slots mc ms lsC hX hE hA hG hag hP hD hS hl))
  · exact lv_icmp_le hX.1 hX.2.1 hd ht (fun z => (hk.1 z p l e R s m args below meth c D tc ad ad0 h0 A H locs cells slots mc ms lsC hX hE hA hG hag hP hD hS hl)) (fun z => (hk.2 z p l e R s m args below meth c D tc ad ad0 h0 A H locs cells slots mc ms lsC hX hE hA hG hag hP hD hS hl))
theorem am_s_nonnull {a x : Nat} {off : Int} (ht : (pc : Int) + off = (a : Int)) (hd : decode (am_code mi) pc = .ok (.ifnonnull off, 3)) (hk : am_W mi d Q kc ks a ls st h) : am_W mi d Q kc ks pc ls (.ref x :: st) h := by
  intro p l e R s m args below meth c D tc ad ad0 h0 A H locs cells slots mc ms lsC hX hE hA hG hag hP hD hS hl
  exact lv_ifnonnull hX.1 hX.2.1 hd ht (hk p l e R s m args below meth c D tc ad ad0 h0 A H locs cells slots mc ms lsC hX hE hA hG hag hP hD hS hl)
theorem am_s_nonnullN {off : Int} (hd : decode (am_code mi) pc = .ok (.ifnonnull off, 3)) (hk : am_W mi d Q kc ks (pc + 3) ls st h) : am_W mi d Q kc ks pc ls (.null :: st) h := by
  intro p l e R s m args below meth c D tc ad ad0 h0 A H locs cells slots mc ms lsC hX hE hA hG hag hP hD hS hl
  exact lv_ifnonnullN hX.1 hX.2.1 hd (hk p l e R s m args below meth c D tc ad ad0 h0 A H locs cells slots mc ms lsC hX hE hA hG hag hP hD hS hl)
theorem am_s_tabO {dflt lo hi : Int} {offs : Array Int} {ln tgt : Nat} {x : Int32} (hx : x.toInt < lo ∨ hi < x.toInt) (ht : (pc : Int) + dflt = (tgt : Int)) (hd : decode (am_code mi) pc = .ok (.tableswitch dflt lo hi offs, ln)) (hk : am_W mi d Q kc ks tgt ls st h) : am_W mi d Q kc ks pc ls (.int x :: st) h := by
  intro p l e R s m args below meth c D tc ad ad0 h0 A H locs cells slots mc ms lsC hX hE hA hG hag hP hD hS hl
  exact lv_tableOut hX.1 hX.2.1 hd hx ht (hk p l e R s m args below meth c D tc ad ad0 h0 A H locs cells slots mc ms lsC hX hE hA hG hag hP hD hS hl)
theorem am_s_tabI {dflt lo hi off : Int} {offs : Array Int} {ln tgt : Nat} {x : Int32} (h1 : ¬ x.toInt < lo) (h2 : ¬ hi < x.toInt) (ho : offs[(x.toInt - lo).toNat]? = some off) (ht : (pc : Int) + off = (tgt : Int)) (hd : decode (am_code mi) pc = .ok (.tableswitch dflt lo hi offs, ln)) (hk : am_W mi d Q kc ks tgt ls st h) : am_W mi d Q kc ks pc ls (.int x :: st) h := by
  intro p l e R s m args below meth c D tc ad ad0 h0 A H locs cells slots mc ms lsC hX hE hA hG hag hP hD hS hl
  exact lv_tableIn hX.1 hX.2.1 hd h1 h2 ho ht (hk p l e R s m args below meth c D tc ad ad0 h0 A H locs cells slots mc ms lsC hX hE hA hG hag hP hD hS hl)
theorem am_s_look {dflt : Int} {ps : Array (Int × Int)} {ln tgt : Nat} {x : Int32} (hs : (ps.toList.zip (ps.toList.drop 1)).all (fun (a, next) => a.1 < next.1) = true) (ht : (pc : Int) + Op.lookupswitch.offset ps.toList dflt x.toInt = (tgt : Int)) (hd : decode (am_code mi) pc = .ok (.lookupswitch dflt ps, ln)) (hk : am_W mi d Q kc ks tgt ls st h) : am_W mi d Q kc ks pc ls (.int x :: st) h := by
  intro p l e R s m args below meth c D tc ad ad0 h0 A H locs cells slots mc ms lsC hX hE hA hG hag hP hD hS hl
  exact lv_lookup hX.1 hX.2.1 hd hs rfl ht (hk p l e R s m args below meth c D tc ad ad0 h0 A H locs cells slots mc ms lsC hX hE hA hG hag hP hD hS hl)
theorem am_s_iald {o n : Nat} {f : Nat → Int32} {i : Int32} (hc : am_nth h o = some (.inl (0, n, f))) (hin : vp_in i n) (hd : decode (am_code mi) pc = .ok (.iaload, 1)) (hk : am_W mi d Q kc ks (pc + 1) ls (.int (f i.toNatClampNeg) :: st) h) : am_W mi d Q kc ks pc ls (.int i :: .ref o :: st) h := by
  intro p l e R s m args below meth c D tc ad ad0 h0 A H locs cells slots mc ms lsC hX hE hA hG hag hP hD hS hl
  exact va_iald hX.1 hX.2.1 hX.2.2.2.2.2.2.2.2 hP o 0 (am_w_at hc) rfl hin hd (hk p l e R s m args below meth c D tc ad ad0 h0 A H locs cells slots mc ms lsC hX hE hA hG hag hP hD hS hl)
theorem am_s_bald {a o n : Nat} {f : Nat → Int32} {i : Int32} (ha : a = 1 ∨ a = 2) (hc : am_nth h o = some (.inl (a, n, f))) (hin : vp_in i n) (hd : decode (am_code mi) pc = .ok (.baload, 1)) (hk : am_W mi d Q kc ks (pc + 1) ls (.int (f i.toNatClampNeg) :: st) h) : am_W mi d Q kc ks pc ls (.int i :: .ref o :: st) h := by
  intro p l e R s m args below meth c D tc ad ad0 h0 A H locs cells slots mc ms lsC hX hE hA hG hag hP hD hS hl
  rcases ha with rfl | rfl
  · exact va_bald hX.1 hX.2.1 hX.2.2.2.2.2.2.2.2 hP o 1 (am_w_at hc) rfl hin hd (hk p l e R s m args below meth c D tc ad ad0 h0 A H locs cells slots mc ms lsC hX hE hA hG hag hP hD hS hl)
  · exact va_zald hX.1 hX.2.1 hX.2.2.2.2.2.2.2.2 hP o 2 (am_w_at hc) rfl hin hd (hk p l e R s m args below meth c D tc ad ad0 h0 A H locs cells slots mc ms lsC hX hE hA hG hag hP hD hS hl)
theorem am_s_iast {o n : Nat} {f : Nat → Int32} {i x : Int32} (hc : am_nth h o = some (.inl (0, n, f))) (hin : vp_in i n) (hd : decode (am_code mi) pc = .ok (.iastore, 1)) (hk : am_W mi d Q kc ks (pc + 1) ls st (am_put h o (.inl (0, n, upd f i.toNatClampNeg x)))) : am_W mi d Q kc ks pc ls (.int x :: .int i :: .ref o :: st) h := by
  intro p l e R s m args below meth c D tc ad ad0 h0 A H locs cells slots mc ms lsC hX hE hA hG hag hP hD hS hl
  exact va_iast hX.1 hX.2.1 hX.2.2.2.2.2.2.2.2 hP hD hS o 0 (am_w_at hc) rfl hin hd (fun H1 locs1 hP1 hD1 hS1 => (hk p l e R s m args below meth c D tc ad ad0 h0 A H1 locs1 cells slots mc ms lsC hX hE hA hG ⟨by rw [am_put_len]; exact hag.1, by rw [am_put_len]; exact hag.2.1, by rw [am_put_len]; exact hag.2.2⟩ (by rw [am_w_put]; exact hP1) (by rw [am_w_put]; exact hD1) hS1 hl))
theorem am_s_bast {a o n : Nat} {f : Nat → Int32} {i x : Int32} (ha : a = 1 ∨ a = 2) (hc : am_nth h o = some (.inl (a, n, f))) (hin : vp_in i n) (hd : decode (am_code mi) pc = .ok (.bastore, 1)) (hk : am_W mi d Q kc ks (pc + 1) ls st (am_put h o (.inl (a, n, upd f i.toNatClampNeg (vp_nar (am_aty a) x))))) : am_W mi d Q kc ks pc ls (.int x :: .int i :: .ref o :: st) h := by
  intro p l e R s m args below meth c D tc ad ad0 h0 A H locs cells slots mc ms lsC hX hE hA hG hag hP hD hS hl
  rcases ha with rfl | rfl
  · exact va_bast hX.1 hX.2.1 hX.2.2.2.2.2.2.2.2 hP hD hS o 1 (am_w_at hc) rfl hin hd (fun H1 locs1 hP1 hD1 hS1 => (hk p l e R s m args below meth c D tc ad ad0 h0 A H1 locs1 cells slots mc ms lsC hX hE hA hG ⟨by rw [am_put_len]; exact hag.1, by rw [am_put_len]; exact hag.2.1, by rw [am_put_len]; exact hag.2.2⟩ (by rw [am_w_put]; exact hP1) (by rw [am_w_put]; exact hD1) hS1 hl))
  · exact va_zast hX.1 hX.2.1 hX.2.2.2.2.2.2.2.2 hP hD hS o 2 (am_w_at hc) rfl hin hd (fun H1 locs1 hP1 hD1 hS1 => (hk p l e R s m args below meth c D tc ad ad0 h0 A H1 locs1 cells slots mc ms lsC hX hE hA hG ⟨by rw [am_put_len]; exact hag.1, by rw [am_put_len]; exact hag.2.1, by rw [am_put_len]; exact hag.2.2⟩ (by rw [am_w_put]; exact hP1) (by rw [am_w_put]; exact hD1) hS1 hl))
theorem am_s_len {a o n : Nat} {f : Nat → Int32} (ha : a < 3) (hc : am_nth h o = some (.inl (a, n, f))) (hd : decode (am_code mi) pc = .ok (.arraylength, 1)) (hk : am_W mi d Q kc ks (pc + 1) ls (.int (Int32.ofNat n) :: st) h) : am_W mi d Q kc ks pc ls (.ref o :: st) h := by
  intro p l e R s m args below meth c D tc ad ad0 h0 A H locs cells slots mc ms lsC hX hE hA hG hag hP hD hS hl
  rcases (show a = 0 ∨ a = 1 ∨ a = 2 by omega) with rfl | rfl | rfl
  · exact va_alen hX.1 hX.2.1 hX.2.2.2.2.2.2.2.2 hP o 0 (am_w_at hc) rfl rfl hd (hk p l e R s m args below meth c D tc ad ad0 h0 A H locs cells slots mc ms lsC hX hE hA hG hag hP hD hS hl)
  · exact va_alen hX.1 hX.2.1 hX.2.2.2.2.2.2.2.2 hP o 1 (am_w_at hc) rfl rfl hd (hk p l e R s m args below meth c D tc ad ad0 h0 A H locs cells slots mc ms lsC hX hE hA hG hag hP hD hS hl)
  · exact va_alen hX.1 hX.2.1 hX.2.2.2.2.2.2.2.2 hP o 2 (am_w_at hc) rfl rfl hd (hk p l e R s m args below meth c D tc ad ad0 h0 A H locs cells slots mc ms lsC hX hE hA hG hag hP hD hS hl)
theorem am_s_lenq {a o n : Nat} {f : Nat → Option Nat} (ha : a = 3 ∨ a = 4) (hc : am_nth h o = some (.inr (.inl (a, n, f)))) (hd : decode (am_code mi) pc = .ok (.arraylength, 1)) (hk : am_W mi d Q kc ks (pc + 1) ls (.int (Int32.ofNat n) :: st) h) : am_W mi d Q kc ks pc ls (.ref o :: st) h := by
  intro p l e R s m args below meth c D tc ad ad0 h0 A H locs cells slots mc ms lsC hX hE hA hG hag hP hD hS hl
  rcases ha with rfl | rfl
  · exact va_alen hX.1 hX.2.1 hX.2.2.2.2.2.2.2.2 hP o 3 (am_w_at hc) rfl rfl hd (hk p l e R s m args below meth c D tc ad ad0 h0 A H locs cells slots mc ms lsC hX hE hA hG hag hP hD hS hl)
  · exact va_alen hX.1 hX.2.1 hX.2.2.2.2.2.2.2.2 hP o 4 (am_w_at hc) rfl rfl hd (hk p l e R s m args below meth c D tc ad ad0 h0 A H locs cells slots mc ms lsC hX hE hA hG hag hP hD hS hl)
theorem am_s_aald {a o n j : Nat} {f : Nat → Option Nat} {i : Int32} (ha : a = 3 ∨ a = 4) (hc : am_nth h o = some (.inr (.inl (a, n, f)))) (hin : vp_in i n) (hf : f i.toNatClampNeg = some j) (hd : decode (am_code mi) pc = .ok (.aaload, 1)) (hk : am_W mi d Q kc ks (pc + 1) ls (.ref j :: st) h) : am_W mi d Q kc ks pc ls (.int i :: .ref o :: st) h := by
  intro p l e R s m args below meth c D tc ad ad0 h0 A H locs cells slots mc ms lsC hX hE hA hG hag hP hD hS hl
  rcases ha with rfl | rfl
  · refine va_aldq hX.1 hX.2.1 hX.2.2.2.2.2.2.2.2 hP o 3 (am_w_at hc) rfl hin hd ?_
    show W _ _ _ _ _ _ _ _ _ _ _ _ _ _ _ (F0 _ _ _ (va_rf ((f i.toNatClampNeg).map ad) :: _))
    rw [hf]
    exact (hk p l e R s m args below meth c D tc ad ad0 h0 A H locs cells slots mc ms lsC hX hE hA hG hag hP hD hS hl)
  · refine va_aldq hX.1 hX.2.1 hX.2.2.2.2.2.2.2.2 hP o 4 (am_w_at hc) rfl hin hd ?_
    show W _ _ _ _ _ _ _ _ _ _ _ _ _ _ _ (F0 _ _ _ (va_rf ((f i.toNatClampNeg).map ad) :: _))
    rw [hf]
    exact (hk p l e R s m args below meth c D tc ad ad0 h0 A H locs cells slots mc ms lsC hX hE hA hG hag hP hD hS hl)
theorem am_up_map {ad : Nat → Nat} {f : Nat → Option Nat} {k v : Nat} : (fun j => (va_up f k (some v) j).map ad) = va_up (fun j => (f j).map ad) k (some (ad v)) := by
  funext j
  by_cases hj : j = k <;> simp [va_up, hj]
theorem am_s_aast {a o n ci v : Nat} {f : Nat → Option Nat} {fs : List Value} {i : Int32} (ha : a = 3 ∧ ci = 10 ∨ a = 4 ∧ (ci = 1 ∨ ci = 3 ∨ ci = 4 ∨ ci = 5 ∨ ci = 8)) (hc : am_nth h o = some (.inr (.inl (a, n, f)))) (hv : am_nth h v = some (.inr (.inr (ci, fs)))) (hin : vp_in i n) (hd : decode (am_code mi) pc = .ok (.aastore, 1)) (hk : am_W mi d Q kc ks (pc + 1) ls st (am_put h o (.inr (.inl (a, n, va_up f i.toNatClampNeg (some v)))))) : am_W mi d Q kc ks pc ls (.ref v :: .int i :: .ref o :: st) h := by
  intro p l e R s m args below meth c D tc ad ad0 h0 A H locs cells slots mc ms lsC hX hE hA hG hag hP hD hS hl
  rcases ha with ⟨rfl, rfl⟩ | ⟨rfl, rfl | rfl | rfl | rfl | rfl⟩
  · refine va_astq (r := am_cls[10]) (ci := 10) hX.1 hX.2.1 hX.2.2.2.2.2.2.2.2 hP hD hS o 3 v (am_w_at hc) rfl (am_w_at hv) rfl hin hd (fun H1 locs1 hP1 hD1 hS1 => ?_)
    refine (hk p l e R s m args below meth c D tc ad ad0 h0 A H1 locs1 cells slots mc ms lsC hX hE hA hG ⟨by rw [am_put_len]; exact hag.1, by rw [am_put_len]; exact hag.2.1, by rw [am_put_len]; exact hag.2.2⟩ ?_ ?_ hS1 hl)
    · rw [am_w_put]; show va_P _ _ ((am_w ad tc h).set o (_, .inl (_, _, .inr (.inr (.inr (.inr (fun j => (va_up f i.toNatClampNeg (some v) j).map ad))))))) _; rw [am_up_map]; exact hP1
    · rw [am_w_put]; show va_D _ ((am_w ad tc h).set o (_, .inl (_, _, .inr (.inr (.inr (.inr (fun j => (va_up f i.toNatClampNeg (some v) j).map ad))))))); rw [am_up_map]; exact hD1
  · refine va_astqO (r := am_cls[1]) (ci := 1) hX.1 hX.2.1 hX.2.2.2.2.2.2.2.2 hP hD hS o 4 v (am_w_at hc) rfl (va_Nw.of rfl (hX.2.2.2.2.2.2.2.1 (.castable "DeedProofs$Cut" "DeedProofs$Line") (by decide +kernel) args)) (am_w_at hv) rfl hin hd (fun H1 locs1 hP1 hD1 hS1 => ?_)
    refine (hk p l e R s m args below meth c D tc ad ad0 h0 A H1 locs1 cells slots mc ms lsC hX hE hA hG ⟨by rw [am_put_len]; exact hag.1, by rw [am_put_len]; exact hag.2.1, by rw [am_put_len]; exact hag.2.2⟩ ?_ ?_ hS1 hl)
    · rw [am_w_put]; show va_P _ _ ((am_w ad tc h).set o (_, .inl (_, _, .inr (.inr (.inr (.inr (fun j => (va_up f i.toNatClampNeg (some v) j).map ad))))))) _; rw [am_up_map]; exact hP1
    · rw [am_w_put]; show va_D _ ((am_w ad tc h).set o (_, .inl (_, _, .inr (.inr (.inr (.inr (fun j => (va_up f i.toNatClampNeg (some v) j).map ad))))))); rw [am_up_map]; exact hD1
  · refine va_astq (r := am_cls[3]) (ci := 3) hX.1 hX.2.1 hX.2.2.2.2.2.2.2.2 hP hD hS o 4 v (am_w_at hc) rfl (am_w_at hv) rfl hin hd (fun H1 locs1 hP1 hD1 hS1 => ?_)
    refine (hk p l e R s m args below meth c D tc ad ad0 h0 A H1 locs1 cells slots mc ms lsC hX hE hA hG ⟨by rw [am_put_len]; exact hag.1, by rw [am_put_len]; exact hag.2.1, by rw [am_put_len]; exact hag.2.2⟩ ?_ ?_ hS1 hl)
    · rw [am_w_put]; show va_P _ _ ((am_w ad tc h).set o (_, .inl (_, _, .inr (.inr (.inr (.inr (fun j => (va_up f i.toNatClampNeg (some v) j).map ad))))))) _; rw [am_up_map]; exact hP1
    · rw [am_w_put]; show va_D _ ((am_w ad tc h).set o (_, .inl (_, _, .inr (.inr (.inr (.inr (fun j => (va_up f i.toNatClampNeg (some v) j).map ad))))))); rw [am_up_map]; exact hD1
  · refine va_astqO (r := am_cls[4]) (ci := 4) hX.1 hX.2.1 hX.2.2.2.2.2.2.2.2 hP hD hS o 4 v (am_w_at hc) rfl (va_Nw.of rfl (hX.2.2.2.2.2.2.2.1 (.castable "DeedProofs$Open" "DeedProofs$Line") (by decide +kernel) args)) (am_w_at hv) rfl hin hd (fun H1 locs1 hP1 hD1 hS1 => ?_)
    refine (hk p l e R s m args below meth c D tc ad ad0 h0 A H1 locs1 cells slots mc ms lsC hX hE hA hG ⟨by rw [am_put_len]; exact hag.1, by rw [am_put_len]; exact hag.2.1, by rw [am_put_len]; exact hag.2.2⟩ ?_ ?_ hS1 hl)
    · rw [am_w_put]; show va_P _ _ ((am_w ad tc h).set o (_, .inl (_, _, .inr (.inr (.inr (.inr (fun j => (va_up f i.toNatClampNeg (some v) j).map ad))))))) _; rw [am_up_map]; exact hP1
    · rw [am_w_put]; show va_D _ ((am_w ad tc h).set o (_, .inl (_, _, .inr (.inr (.inr (.inr (fun j => (va_up f i.toNatClampNeg (some v) j).map ad))))))); rw [am_up_map]; exact hD1
  · refine va_astqO (r := am_cls[5]) (ci := 5) hX.1 hX.2.1 hX.2.2.2.2.2.2.2.2 hP hD hS o 4 v (am_w_at hc) rfl (va_Nw.of rfl (hX.2.2.2.2.2.2.2.1 (.castable "DeedProofs$Piece" "DeedProofs$Line") (by decide +kernel) args)) (am_w_at hv) rfl hin hd (fun H1 locs1 hP1 hD1 hS1 => ?_)
    refine (hk p l e R s m args below meth c D tc ad ad0 h0 A H1 locs1 cells slots mc ms lsC hX hE hA hG ⟨by rw [am_put_len]; exact hag.1, by rw [am_put_len]; exact hag.2.1, by rw [am_put_len]; exact hag.2.2⟩ ?_ ?_ hS1 hl)
    · rw [am_w_put]; show va_P _ _ ((am_w ad tc h).set o (_, .inl (_, _, .inr (.inr (.inr (.inr (fun j => (va_up f i.toNatClampNeg (some v) j).map ad))))))) _; rw [am_up_map]; exact hP1
    · rw [am_w_put]; show va_D _ ((am_w ad tc h).set o (_, .inl (_, _, .inr (.inr (.inr (.inr (fun j => (va_up f i.toNatClampNeg (some v) j).map ad))))))); rw [am_up_map]; exact hD1
  · refine va_astqO (r := am_cls[8]) (ci := 8) hX.1 hX.2.1 hX.2.2.2.2.2.2.2.2 hP hD hS o 4 v (am_w_at hc) rfl (va_Nw.of rfl (hX.2.2.2.2.2.2.2.1 (.castable "DeedProofs$Shared" "DeedProofs$Line") (by decide +kernel) args)) (am_w_at hv) rfl hin hd (fun H1 locs1 hP1 hD1 hS1 => ?_)
    refine (hk p l e R s m args below meth c D tc ad ad0 h0 A H1 locs1 cells slots mc ms lsC hX hE hA hG ⟨by rw [am_put_len]; exact hag.1, by rw [am_put_len]; exact hag.2.1, by rw [am_put_len]; exact hag.2.2⟩ ?_ ?_ hS1 hl)
    · rw [am_w_put]; show va_P _ _ ((am_w ad tc h).set o (_, .inl (_, _, .inr (.inr (.inr (.inr (fun j => (va_up f i.toNatClampNeg (some v) j).map ad))))))) _; rw [am_up_map]; exact hP1
    · rw [am_w_put]; show va_D _ ((am_w ad tc h).set o (_, .inl (_, _, .inr (.inr (.inr (.inr (fun j => (va_up f i.toNatClampNeg (some v) j).map ad))))))); rw [am_up_map]; exact hD1
theorem am_s_above {ix : Nat} (ho : (am_y mi).cls = "DeedProofs") (hw : Cond.fieldLink "DeedProofs" ix "DeedProofs" "ABOVE" "[I" ∈ am_gt) (hd : decode (am_code mi) pc = .ok (.getstatic ix, 3)) (hk : am_W mi d Q kc ks (pc + 3) ls (.ref 100003 :: st) h) : am_W mi d Q kc ks pc ls st h := by
  intro p l e R s m args below meth c D tc ad ad0 h0 A H locs cells slots mc ms lsC hX hE hA hG hag hP hD hS hl
  have hZ := hE.2.2.2.2.1
  rw [← hag.2.2 100003 (Or.inr (by have := hag.2.1; omega))] at hZ
  exact va_gets hX.1 hX.2.1 hZ hS (ho ▸ hX.2.2.2.2.1) (hX.2.2.2.2.2.2.2.1 _ hw args) (fun _ z => z) hd (hk p l e R s m args below meth c D tc ad ad0 h0 A H locs cells slots mc ms lsC hX hE hA hG hag hP hD hS hl)
theorem am_s_abald {i : Int32} (hin : vp_in i 5) (hd : decode (am_code mi) pc = .ok (.iaload, 1)) (hk : am_W mi d Q kc ks (pc + 1) ls (.int (am_abv i.toNatClampNeg) :: st) h) : am_W mi d Q kc ks pc ls (.int i :: .ref 100003 :: st) h := by
  intro p l e R s m args below meth c D tc ad ad0 h0 A H locs cells slots mc ms lsC hX hE hA hG hag hP hD hS hl
  have hZ := hE.2.2.2.2.2
  rw [← hag.2.2 100003 (Or.inr (by have := hag.2.1; omega))] at hZ
  exact va_ti hX.1 hX.2.1 hZ hS hin rfl hd (hk p l e R s m args below meth c D tc ad ad0 h0 A H locs cells slots mc ms lsC hX hE hA hG hag hP hD hS hl)
end AMS
end
section
/-! fields, new cells, a method's end, a method's beginning -/
def am_FL (own : String) (ix a b : Nat) : Prop := ∃ q : vw_C, am_cls[a]? = some q ∧ b < q.2.2 ∧ (Cond.fieldLink own ix q.1 (q.2.1 b).2.1 (q.2.1 b).2.2.1 ∈ am_gt ∨ ∃ host : String, Cond.fieldLinkNest own ix q.1 (q.2.1 b).2.1 (q.2.1 b).2.2.1 host ∈ am_gt)
def am_FP (own name : String) (ix a b : Nat) : Prop := ∃ q : vw_C, am_cls[a]? = some q ∧ b < q.2.2 ∧ ((q.2.1 b).2.2.2 = false ∧ (Cond.fieldLink own ix q.1 (q.2.1 b).2.1 (q.2.1 b).2.2.1 ∈ am_gt ∨ ∃ host : String, Cond.fieldLinkNest own ix q.1 (q.2.1 b).2.1 (q.2.1 b).2.2.1 host ∈ am_gt) ∨ (q.2.1 b).2.2.2 = true ∧ Cond.fieldLink own ix q.1 (q.2.1 b).2.1 (q.2.1 b).2.2.1 ∈ am_gt ∧ name = "<init>" ∧ q.1 = own)
theorem am_fit_ok {ad : Nat → Nat} {ty : FieldType} {v : Value} (h : am_fit ty v) : narrow ty (am_v ad v) = am_v ad v ∧ fits ty (am_v ad v) = true := by
  cases ty <;> cases v <;> first | exact h.elim | exact h | exact ⟨rfl, rfl⟩
def am_ad (ad : Nat → Nat) (n q : Nat) : Nat → Nat := fun i => if i = n then q else ad i
theorem am_ad_at (ad : Nat → Nat) (n q : Nat) : am_ad ad n q n = q := if_pos rfl
theorem am_ad_ne {ad : Nat → Nat} {n q i : Nat} (h : i ≠ n) : am_ad ad n q i = ad i := if_neg h
theorem am_v_nr {ad : Nat → Nat} {n q : Nat} {v : Value} (h : am_nrV n v) : am_v (am_ad ad n q) v = am_v ad v := by
  cases v <;> first | rfl | exact congrArg Value.ref (am_ad_ne h)
theorem am_e_nr {ad : Nat → Nat} {tc : Nat → ClassId} {n q : Nat} {c : am_C} (h : am_nrC n c) : am_e (am_ad ad n q) tc c = am_e ad tc c := by
  match c, h with
  | .inl _, _ => rfl
  | .inr (.inl (t, k, f)), h =>
    have e : (fun j => (f j).map (am_ad ad n q)) = (fun j => (f j).map ad) := by
      funext j
      have hj := h j
      cases hf : f j with
      | none => rfl
      | some i => exact congrArg some (am_ad_ne (fun z => hj (by rw [hf, z])))
    show Sum.inl (_, _, Sum.inr (Sum.inr (Sum.inr (Sum.inr (fun j => (f j).map (am_ad ad n q)))))) = Sum.inl (_, _, Sum.inr (Sum.inr (Sum.inr (Sum.inr (fun j => (f j).map ad)))))
    rw [e]
  | .inr (.inr (ci, fs)), h =>
    show Sum.inr (_, fs.map (am_v (am_ad ad n q))) = Sum.inr (_, fs.map (am_v ad))
    rw [List.map_congr_left (fun v hv => am_v_nr (h v hv))]
theorem am_w_nr {ad : Nat → Nat} {tc : Nat → ClassId} {q : Nat} {h : am_H} {c : am_C} (hr : ∀ c ∈ h, am_nrC h.length c) : am_w (am_ad ad h.length q) tc (h ++ [c]) = am_w ad tc h ++ [(q, am_e (am_ad ad h.length q) tc c)] := by
  apply List.ext_getElem?
  intro j
  by_cases hj : j < h.length
  · rw [List.getElem?_append_left (by rw [am_w_len]; exact hj)]
    simp only [am_w, List.getElem?_mapIdx, List.getElem?_append_left hj, List.getElem?_eq_getElem hj, Option.map_some]
    rw [am_ad_ne (by omega), am_e_nr (hr _ (List.getElem_mem hj))]
  · rw [List.getElem?_append_right (by rw [am_w_len]; omega), am_w_len]
    simp only [am_w, List.getElem?_mapIdx]
    rw [List.getElem?_append_right (by omega)]
    by_cases hz : j = h.length
    · subst hz
      simp [am_ad_at]
    · have h1 : ¬ j - h.length = 0 := by omega
      rw [List.getElem?_eq_none (by simp; omega), List.getElem?_eq_none (by simp; omega)]
      rfl
theorem am_al_nr {ad : Nat → Nat} {n q : Nat} : ∀ (ls : am_L) (i : Nat), (∀ v, some v ∈ ls → am_nrV n v) → am_al (am_ad ad n q) i ls = am_al ad i ls
  | [], _, _ => rfl
  | none :: l, i, h => am_al_nr l (i + 1) (fun v hv => h v (List.mem_cons_of_mem _ hv))
  | some v :: l, i, h => by
    rw [am_al, am_al, am_v_nr (h v List.mem_cons_self), am_al_nr l (i + 1) (fun v hv => h v (List.mem_cons_of_mem _ hv))]
theorem am_ac_int : Cond.arrayClass .int ∈ am_gt := by decide +kernel
theorem am_ac_byte : Cond.arrayClass .byte ∈ am_gt := by decide +kernel
theorem am_ac_boolean : Cond.arrayClass .boolean ∈ am_gt := by decide +kernel
theorem am_new_v (ad : Nat → Nat) (a : Nat) : (am_new a).map (am_v ad) = am_new a := by unfold am_new; split <;> rfl
section AMM
variable {mi : am_MI} {d : Nat} {Q : Option Value → am_H → Prop} {kc ks pc : Nat} {ls : am_L} {st : List Value} {h : am_H}
theorem am_s_get {ix a b o : Nat} {fs : List Value} {v : Value} (hF : am_FL (am_y mi).cls ix a b) (hc : am_nth h o = some (.inr (.inr (a, fs)))) (hv : am_nth fs b = some v) (hd : decode (am_code mi) pc = .ok (.getfield ix, 3)) (hk : am_W mi d Q kc ks (pc + 3) ls (v :: st) h) : am_W mi d Q kc ks pc ls (.ref o :: st) h := by
  intro p l e R s m args below meth c D tc ad ad0 h0 A H locs cells slots mc ms lsC hX hE hA hG hag hP hD hS hl
  obtain ⟨⟨C, T, N⟩, hq, hb, hlk⟩ := hF
  obtain ⟨hin, hty, hnm, how, -, -⟩ := am_cls_ok a _ hq
  have hT := hX.2.2.2.2.2.2.2.1
  have hv' : (fs.map (am_v ad))[b]? = some (am_v ad v) := by rw [am_nth_eq] at hv; simp [hv]
  have hsame : ∀ x, s.fieldFound? (T b).1 (T b).2.1 (T b).2.2.1 = some x → s.fieldFound? C (T b).2.1 (T b).2.2.1 = some x := by rw [how b hb]; exact fun _ z => z
  rcases hlk with hlk | ⟨host, hlk⟩
  · exact va_get (Ts := am_gt) hX.1 hX.2.1 (hT.use args) hin hX.2.2.2.2.1 hX.2.2.2.2.2.2.2.2 hP o (am_w_at hc) hq b hb (hT _ hlk args) hsame hv' hd (hk p l e R s m args below meth c D tc ad ad0 h0 A H locs cells slots mc ms lsC hX hE hA hG hag hP hD hS hl)
  · exact va_getN (Ts := am_gt) hX.1 hX.2.1 (hT.use args) hin hX.2.2.2.2.1 hX.2.2.2.2.2.2.2.2 hP o (am_w_at hc) hq b hb (hT _ hlk args) hsame hv' hd (hk p l e R s m args below meth c D tc ad ad0 h0 A H locs cells slots mc ms lsC hX hE hA hG hag hP hD hS hl)
theorem am_fs_put {ad : Nat → Nat} {fs : List Value} {b : Nat} {v : Value} : (am_put fs b v).map (am_v ad) = (fs.map (am_v ad)).set b (am_v ad v) := by
  rw [am_put_eq, List.map_set]
theorem am_s_put {ix a b o : Nat} {fs : List Value} {v : Value} (hF : am_FP (am_y mi).cls (am_y mi).name ix a b) (hc : am_nth h o = some (.inr (.inr (a, fs)))) (hbl : b < fs.length) (hfit : am_fit (am_fty a b) v) (hd : decode (am_code mi) pc = .ok (.putfield ix, 3)) (hk : am_W mi d Q kc ks (pc + 3) ls st (am_put h o (.inr (.inr (a, am_put fs b v))))) : am_W mi d Q kc ks pc ls (v :: .ref o :: st) h := by
  intro p l e R s m args below meth c D tc ad ad0 h0 A H locs cells slots mc ms lsC hX hE hA hG hag hP hD hS hl
  obtain ⟨⟨C, T, N⟩, hq, hb, hlk⟩ := hF
  obtain ⟨hin, hty, hnm, how, -, -⟩ := am_cls_ok a _ hq
  have hT := hX.2.2.2.2.2.2.2.1
  obtain ⟨hf1, hf2⟩ := am_fit_ok (ad := ad) hfit
  have hsame : ∀ x, s.fieldFound? (T b).1 (T b).2.1 (T b).2.2.1 = some x → s.fieldFound? C (T b).2.1 (T b).2.2.1 = some x := by rw [how b hb]; exact fun _ z => z
  have key : ∀ (H1 : Heap) (locs1 : List Loc), va_P D am_cls ((am_w ad tc h).set o (ad o, .inr (a, (fs.map (am_v ad)).set b (am_v ad v)))) H1 → va_D A ((am_w ad tc h).set o (ad o, .inr (a, (fs.map (am_v ad)).set b (am_v ad v)))) → va_S A s.heap H1 locs1 → W p l e R s m args below meth c H1 locs1 cells slots (MQ below (am_Q D tc A h0 ad0 Q) args s mc ms A) (F0 m (pc + 3) lsC (st.map (am_v ad))) := by
    intro H1 locs1 hP1 hD1 hS1
    rw [← am_fs_put] at hP1 hD1
    exact hk p l e R s m args below meth c D tc ad ad0 h0 A H1 locs1 cells slots mc ms lsC hX hE hA hG ⟨by rw [am_put_len]; exact hag.1, by rw [am_put_len]; exact hag.2.1, by rw [am_put_len]; exact hag.2.2⟩ (by rw [am_w_put]; exact hP1) (by rw [am_w_put]; exact hD1) hS1 hl
  have hbl' : b < (fs.map (am_v ad)).length := by rw [List.length_map]; exact hbl
  rcases hlk with ⟨hfin, hlk | ⟨host, hlk⟩⟩ | ⟨hfin, hlk, hnam, hcc⟩
  · exact va_put (Ts := am_gt) hX.1 hX.2.1 (hT.use args) hin (am_fty a) hty hnm hX.2.2.2.2.1 hX.2.2.2.2.2.2.2.2 hP hD hS o (am_w_at hc) hq b hb (hT _ hlk args) hsame hfin (hty b hb) hf1 hf2 hbl' hd key
  · exact va_putN (Ts := am_gt) hX.1 hX.2.1 (hT.use args) hin (am_fty a) hty hnm hX.2.2.2.2.1 hX.2.2.2.2.2.2.2.2 hP hD hS o (am_w_at hc) hq b hb (hT _ hlk args) hsame hfin (hty b hb) hf1 hf2 hbl' hd key
  · exact va_putF (Ts := am_gt) hX.1 hX.2.1 (hT.use args) hin (am_fty a) hty hnm hX.2.2.2.2.1 hX.2.2.2.2.2.2.2.2 hP hD hS o (am_w_at hc) hq b hb (hT _ hlk args) hsame hfin (hX.2.2.2.2.2.2.1.trans hnam) ((how b hb).trans hcc) (hty b hb) hf1 hf2 hbl' hd key
theorem am_ag_new {h0 : am_H} {ad0 ad : Nat → Nat} {q : Nat} {c : am_C} (hag : am_ag h0 ad0 ad h) (hl : h.length + 1 < 100000) : am_ag h0 ad0 (am_ad ad h.length q) (h ++ [c]) := by
  obtain ⟨h1, h2, h3⟩ := hag
  refine ⟨by simp; omega, by simp; omega, fun i hi => ?_⟩
  simp at hi
  rw [am_ad_ne (by omega)]
  exact h3 i (by omega)
theorem am_s_new {ix a : Nat} (hN : ∃ q : vw_C, am_cls[a]? = some q ∧ Cond.classLink (am_y mi).cls ix q.1 ∈ am_gt ∧ Cond.instantiable q.1 q.2.2 ∈ am_gt ∧ Cond.initialized q.1 ∈ am_gt) (hkc : 1 ≤ kc) (hks : (am_new a).length ≤ ks) (hlen : h.length + 1 < 100000) (hnr : am_nr h.length ls st h) (hd : decode (am_code mi) pc = .ok (.new ix, 3)) (hk : am_W mi d Q (kc - 1) (ks - (am_new a).length) (pc + 3) ls (.ref h.length :: st) (h ++ [.inr (.inr (a, am_new a))])) : am_W mi d Q kc ks pc ls st h := by
  intro p l e R s m args below meth c D tc ad ad0 h0 A H locs cells slots mc ms lsC hX hE hA hG hag hP hD hS hl
  obtain ⟨⟨C, T, N⟩, hq, hw1, hw2, hw3⟩ := hN
  obtain ⟨hin, hty, hnm, how, hdf, hdl0⟩ := am_cls_ok a _ hq
  have hdl : (am_new a).length = N := hdl0
  have hT := hX.2.2.2.2.2.2.2.1
  obtain ⟨g1, g2, g3, g4, g5, g6⟩ := hG
  refine va_new (Ts := am_gt) (fs := am_new a) hX.1 hX.2.1 (hT.use args) hin (am_fty a) hty hX.2.2.2.2.1 (hT _ hw1 args) (hT _ hw2 args) (hT _ hw3 args) hX.2.2.2.2.2.2.2.2 hP hD hS hA hq hdf (by omega) (by show slots + N ≤ R.slots; omega) hd (fun q H1 hP1 hD1 hS1 => ?_)
  have e1 : am_w (am_ad ad h.length q) tc (h ++ [.inr (.inr (a, am_new a))]) = am_w ad tc h ++ [(q, .inr (a, am_new a))] := by
    rw [am_w_nr hnr.2.2]
    show _ ++ [(q, Sum.inr (a, (am_new a).map (am_v _)))] = _
    rw [am_new_v]
  have e2 : (Value.ref h.length :: st).map (am_v (am_ad ad h.length q)) = .ref q :: st.map (am_v ad) := by
    rw [List.map_cons, List.map_congr_left (fun v hv => am_v_nr (hnr.2.1 v hv))]
    show Value.ref (am_ad ad h.length q h.length) :: _ = _
    rw [am_ad_at]
  rw [← e1] at hP1 hD1
  rw [← e2]
  exact hk p l e R s m args below meth c D tc (am_ad ad h.length q) ad0 h0 A H1 locs (cells + 1) (slots + N) mc ms lsC hX hE hA ⟨g1, g2, by omega, by omega, g5, g6⟩ (am_ag_new hag hlen) hP1 hD1 hS1 (by unfold am_lv; rw [am_al_nr ls 0 hnr.1]; exact hl)
theorem am_arr_eq {s : State} {D : va_G} {cl : List vw_C} {tc : Nat → ClassId} {cA : ClassId} {a : Nat} {ty : FieldType} (hK : va_K D cl (am_tys tc) s) (hK1 : va_K D cl (am_tys tc ++ [(cA, ty)]) s) (ha : (am_tys tc)[a]? = some (tc a, ty)) : cA = tc a := by
  have h1 := (hK1.2 5 (cA, ty) rfl).2
  have h2 := (hK.2 a (tc a, ty) ha).2
  cases ty with
  | object C =>
    obtain ⟨_, _, _, _, _, q1⟩ := h1
    obtain ⟨_, _, _, _, _, q2⟩ := h2
    exact Option.some.inj (q1.symm.trans q2)
  | _ => exact Option.some.inj (h1.symm.trans h2)
theorem am_s_newa {a : Nat} {at' : ArrayType} {n : Int32} (ha : a = 0 ∧ at' = .int ∨ a = 1 ∧ at' = .byte ∨ a = 2 ∧ at' = .boolean) (hkc : 1 ≤ kc) (hks : n.toNatClampNeg ≤ ks) (hn : ¬ n < 0) (hb : n.toNatClampNeg < 100000) (hlen : h.length + 1 < 100000) (hnr : am_nr h.length ls st h) (hd : decode (am_code mi) pc = .ok (.newarray at', 2)) (hk : am_W mi d Q (kc - 1) (ks - n.toNatClampNeg) (pc + 2) ls (.ref h.length :: st) (h ++ [.inl (a, n.toNatClampNeg, fun _ => 0)])) : am_W mi d Q kc ks pc ls (.int n :: st) h := by
  intro p l e R s m args below meth c D tc ad ad0 h0 A H locs cells slots mc ms lsC hX hE hA hG hag hP hD hS hl
  have hT := hX.2.2.2.2.2.2.2.1
  have hK := hX.2.2.2.2.2.2.2.2
  obtain ⟨g1, g2, g3, g4, g5, g6⟩ := hG
  have fin : ∀ (q : Nat) (H1 : Heap), va_P D am_cls (am_w ad tc h ++ [(q, .inl (tc a, n.toNatClampNeg, .inl (fun _ => 0)))]) H1 → va_D A (am_w ad tc h ++ [(q, .inl (tc a, n.toNatClampNeg, .inl (fun _ => 0)))]) → va_S A s.heap H1 locs → W p l e R s m args below meth c H1 locs (cells + 1) (slots + n.toNatClampNeg) (MQ below (am_Q D tc A h0 ad0 Q) args s mc ms A) (F0 m (pc + 2) lsC (.ref q :: st.map (am_v ad))) := by
    intro q H1 hP1 hD1 hS1
    have e1 : am_w (am_ad ad h.length q) tc (h ++ [.inl (a, n.toNatClampNeg, fun _ => 0)]) = am_w ad tc h ++ [(q, .inl (tc a, n.toNatClampNeg, .inl (fun _ => 0)))] := am_w_nr hnr.2.2
    have e2 : (Value.ref h.length :: st).map (am_v (am_ad ad h.length q)) = .ref q :: st.map (am_v ad) := by
      rw [List.map_cons, List.map_congr_left (fun v hv => am_v_nr (hnr.2.1 v hv))]
      show Value.ref (am_ad ad h.length q h.length) :: _ = _
      rw [am_ad_at]
    rw [← e1] at hP1 hD1
    rw [← e2]
    exact hk p l e R s m args below meth c D tc (am_ad ad h.length q) ad0 h0 A H1 locs (cells + 1) (slots + n.toNatClampNeg) mc ms lsC hX hE hA ⟨g1, g2, by omega, by omega, g5, g6⟩ (am_ag_new hag hlen) hP1 hD1 hS1 (by unfold am_lv; rw [am_al_nr ls 0 hnr.1]; exact hl)
  rcases ha with ⟨rfl, rfl⟩ | ⟨rfl, rfl⟩ | ⟨rfl, rfl⟩
  · exact va_newa (atype := .int) (ty := .int) hX.1 hX.2.1 (hT (.arrayClass .int) am_ac_int args) rfl hK hP hD hS hA (a0 := (n.toNatClampNeg, .inl (fun _ => 0))) (fun _ => rfl) hn rfl (show n.toNatClampNeg * 4 ≤ 536870912 by omega) (by omega) (by omega) hd (fun q cA H1 hK1 hP1 hD1 hS1 => by rw [am_arr_eq hK hK1 (a := 0) rfl] at hP1 hD1; exact fin q H1 hP1 hD1 hS1)
  · exact va_newa (atype := .byte) (ty := .byte) hX.1 hX.2.1 (hT (.arrayClass .byte) am_ac_byte args) rfl hK hP hD hS hA (a0 := (n.toNatClampNeg, .inl (fun _ => 0))) (fun _ => rfl) hn rfl (show n.toNatClampNeg * 1 ≤ 536870912 by omega) (by omega) (by omega) hd (fun q cA H1 hK1 hP1 hD1 hS1 => by rw [am_arr_eq hK hK1 (a := 1) rfl] at hP1 hD1; exact fin q H1 hP1 hD1 hS1)
  · exact va_newa (atype := .boolean) (ty := .boolean) hX.1 hX.2.1 (hT (.arrayClass .boolean) am_ac_boolean args) rfl hK hP hD hS hA (a0 := (n.toNatClampNeg, .inl (fun _ => 0))) (fun _ => rfl) hn rfl (show n.toNatClampNeg * 1 ≤ 536870912 by omega) (by omega) (by omega) hd (fun q cA H1 hK1 hP1 hD1 hS1 => by rw [am_arr_eq hK hK1 (a := 2) rfl] at hP1 hD1; exact fin q H1 hP1 hD1 hS1)
theorem am_s_newq {a ix : Nat} {n : Int32} (ha : a = 3 ∧ Cond.classLink (am_y mi).cls ix "DeedProofs$Text" ∈ am_gt ∨ a = 4 ∧ Cond.classLink (am_y mi).cls ix "DeedProofs$Line" ∈ am_gt) (hkc : 1 ≤ kc) (hks : n.toNatClampNeg ≤ ks) (hn : ¬ n < 0) (hb : n.toNatClampNeg < 100000) (hlen : h.length + 1 < 100000) (hnr : am_nr h.length ls st h) (hd : decode (am_code mi) pc = .ok (.anewarray ix, 3)) (hk : am_W mi d Q (kc - 1) (ks - n.toNatClampNeg) (pc + 3) ls (.ref h.length :: st) (h ++ [.inr (.inl (a, n.toNatClampNeg, fun _ => none))])) : am_W mi d Q kc ks pc ls (.int n :: st) h := by
  intro p l e R s m args below meth c D tc ad ad0 h0 A H locs cells slots mc ms lsC hX hE hA hG hag hP hD hS hl
  have hT := hX.2.2.2.2.2.2.2.1
  have hK := hX.2.2.2.2.2.2.2.2
  obtain ⟨g1, g2, g3, g4, g5, g6⟩ := hG
  have fin : ∀ (q : Nat) (H1 : Heap), va_P D am_cls (am_w ad tc h ++ [(q, .inl (tc a, n.toNatClampNeg, .inr (.inr (.inr (.inr (fun _ => none))))))]) H1 → va_D A (am_w ad tc h ++ [(q, .inl (tc a, n.toNatClampNeg, .inr (.inr (.inr (.inr (fun _ => none))))))]) → va_S A s.heap H1 locs → W p l e R s m args below meth c H1 locs (cells + 1) (slots + n.toNatClampNeg) (MQ below (am_Q D tc A h0 ad0 Q) args s mc ms A) (F0 m (pc + 3) lsC (.ref q :: st.map (am_v ad))) := by
    intro q H1 hP1 hD1 hS1
    have e1 : am_w (am_ad ad h.length q) tc (h ++ [.inr (.inl (a, n.toNatClampNeg, fun _ => none))]) = am_w ad tc h ++ [(q, .inl (tc a, n.toNatClampNeg, .inr (.inr (.inr (.inr (fun _ => none))))))] := am_w_nr hnr.2.2
    have e2 : (Value.ref h.length :: st).map (am_v (am_ad ad h.length q)) = .ref q :: st.map (am_v ad) := by
      rw [List.map_cons, List.map_congr_left (fun v hv => am_v_nr (hnr.2.1 v hv))]
      show Value.ref (am_ad ad h.length q h.length) :: _ = _
      rw [am_ad_at]
    rw [← e1] at hP1 hD1
    rw [← e2]
    exact hk p l e R s m args below meth c D tc (am_ad ad h.length q) ad0 h0 A H1 locs (cells + 1) (slots + n.toNatClampNeg) mc ms lsC hX hE hA ⟨g1, g2, by omega, by omega, g5, g6⟩ (am_ag_new hag hlen) hP1 hD1 hS1 (by unfold am_lv; rw [am_al_nr ls 0 hnr.1]; exact hl)
  rcases ha with ⟨rfl, hw⟩ | ⟨rfl, hw⟩
  · exact va_newq hX.1 hX.2.1 hX.2.2.2.2.1 (hT _ hw args) hE.1.1 hK hP hD hS hA hn rfl (by omega) (by omega) (by omega) hd (fun q cA H1 hK1 hP1 hD1 hS1 => by rw [am_arr_eq hK hK1 (a := 3) rfl] at hP1 hD1; exact fin q H1 hP1 hD1 hS1)
  · exact va_newq hX.1 hX.2.1 hX.2.2.2.2.1 (hT _ hw args) hE.1.2 hK hP hD hS hA hn rfl (by omega) (by omega) (by omega) hd (fun q cA H1 hK1 hP1 hD1 hS1 => by rw [am_arr_eq hK hK1 (a := 4) rfl] at hP1 hD1; exact fin q H1 hP1 hD1 hS1)
theorem am_s_iret {v : Int32} {ty : FieldType} (hr : am_ret mi = some ty) (hn : narrow ty (.int v) = .int v) (hd : decode (am_code mi) pc = .ok (.ireturn, 1)) (hQ : Q (some (.int v)) h) : am_W mi d Q kc ks pc ls [.int v] h := by
  intro p l e R s m args below meth c D tc ad ad0 h0 A H locs cells slots mc ms lsC hX hE hA hG hag hP hD hS hl
  obtain ⟨g1, g2, g3, g4, g5, g6⟩ := hG
  have hlocks : meth.locks = false := hX.2.2.2.2.2.1
  refine W.widen (k := mc) (n := ms) (by omega) (by omega) ?_
  exact W.zret hX.1 hX.2.1 (hX.2.2.1.trans hr) hn (fun t ht hW => ⟨⟨some (.int v), h, ad, rfl, hQ, hag, by rw [ht]; exact hP, va_K.moved hW.alike hX.2.2.2.2.2.2.2.2, hD⟩, hS.F ht⟩) hS.2.2 hd
theorem am_s_aret {o : Nat} {rt : FieldType} (hr : am_ret mi = some rt) (hrt : (∃ n, rt = .object n) ∨ ∃ t, rt = .array t) (hd : decode (am_code mi) pc = .ok (.areturn, 1)) (hQ : Q (some (.ref o)) h) : am_W mi d Q kc ks pc ls [.ref o] h := by
  intro p l e R s m args below meth c D tc ad ad0 h0 A H locs cells slots mc ms lsC hX hE hA hG hag hP hD hS hl
  obtain ⟨g1, g2, g3, g4, g5, g6⟩ := hG
  have hlocks : meth.locks = false := hX.2.2.2.2.2.1
  refine W.widen (k := mc) (n := ms) (by omega) (by omega) ?_
  exact W.aret hX.1 hX.2.1 (hX.2.2.1.trans hr) hrt (Or.inr ⟨_, rfl⟩) (fun t ht hW => ⟨⟨some (.ref o), h, ad, rfl, hQ, hag, by rw [ht]; exact hP, va_K.moved hW.alike hX.2.2.2.2.2.2.2.2, hD⟩, hS.F ht⟩) hS.2.2 hd
theorem am_s_vret (hr : am_ret mi = none) (hd : decode (am_code mi) pc = .ok (.return_, 1)) (hQ : Q none h) : am_W mi d Q kc ks pc ls [] h := by
  intro p l e R s m args below meth c D tc ad ad0 h0 A H locs cells slots mc ms lsC hX hE hA hG hag hP hD hS hl
  obtain ⟨g1, g2, g3, g4, g5, g6⟩ := hG
  have hlocks : meth.locks = false := hX.2.2.2.2.2.1
  refine W.widen (k := mc) (n := ms) (by omega) (by omega) ?_
  exact W.vret hX.1 hX.2.1 (hX.2.2.1.trans hr) (fun t ht hW => ⟨⟨none, h, ad, rfl, hQ, hag, by rw [ht]; exact hP, va_K.moved hW.alike hX.2.2.2.2.2.2.2.2, hD⟩, hS.F ht⟩) hS.2.2 hd
end AMM
theorem am_al_nones {ad : Nat → Nat} : ∀ (k i : Nat), am_al ad i (am_nones k) = []
  | 0, _ => rfl
  | k + 1, i => am_al_nones k (i + 1)
theorem am_al_in {ad : Nat → Nat} (k : Nat) : ∀ (args : List Value) (i : Nat), am_al ad i (am_in args ++ am_nones k) = lv_args i (args.map (am_v ad))
  | [], i => am_al_nones k i
  | v :: l, i => by
    cases v <;> simp [am_in, am_al, lv_args, am_v, Value.category, am_al_in k l]
theorem am_in_len {ad : Nat → Nat} : ∀ (args : List Value), (lg_sl (args.map (am_v ad))).length = (am_in args).length
  | [] => rfl
  | v :: l => by
    have h := am_in_len (ad := ad) l
    have e : ∀ (w : Value) (ws : List Value), lg_sl (w :: ws) = (if w.category = 2 then [.val w, .second] else [.val w]) ++ lg_sl ws := fun w ws => by simp [lg_sl]
    rw [List.map_cons, e, List.length_append, h]
    cases v <;> simp [am_in, am_v, Value.category] <;> omega
/-- a method's beginning -/
theorem am_Met.of {mi : am_MI} {d kc ks : Nat} {args : List Value} {h : am_H} {Q : Option Value → am_H → Prop} (hy : plainName (am_y mi).cls = true) (hl : (am_in args).length ≤ am_mL mi) (hw : am_W mi d Q kc ks 0 (am_ent (am_mL mi) args) [] h) : am_Met mi d kc ks args h Q := by
  intro l D tc ad sz
  refine Met.ofW (cc := am_code mi) (maxL := am_mL mi) (ret := am_ret mi) hy rfl ?_
  intro p e s m args' below meth c s₁ B hml hv
  obtain ⟨rfl, hsz, hT, hE, hP, hK, hD0, hlen⟩ := hv
  subst hsz
  have hlv := lv_entry (args.map (am_v ad)) (n := am_mL mi) (by rw [am_in_len]; exact hl)
  rw [lg_entry_eq]
  refine hw p l e _ s m _ below meth c D tc ad ad h (va_A (am_w ad tc h) s.heap.size) s.heap [] 0 0 kc ks _ ⟨B.exec, B.bytes, B.returns, hml, findClass_of_methodNamed B.named, B.notSynchronized, (name_of_methodNamed B.named B.method).1, hT, hK⟩ hE (fun q hq => Or.inr hq) ⟨Nat.le_refl _, Nat.le_refl _, by omega, by omega, Nat.le_refl _, Nat.le_refl _⟩ ⟨Nat.le_refl _, hlen, fun _ _ => rfl⟩ hP hD0.self va_S.rf ?_
  unfold am_lv am_ent
  rw [am_al_in]
  exact hlv
end
section
/-! CALLS: any of them runs by the callee's contract; the whole world goes along -/
theorem am_blind {D : va_G} {tc ad : Nat → Nat} {h : am_H} {sz : Nat} {av : List Value} : FrameBlind (va_Pc av (am_Pre D tc ad h sz)) := by
  intro a U g mk q
  obtain ⟨q0, q1, q2, q3, q4, q5, q6, q7⟩ := q
  exact ⟨q0, q1, am_T.warm (U := U.calling g mk a) (State.WarmedH.refl U) q2, am_Ev.warm (U := U.calling g mk a) (State.WarmedH.refl U) q3, q4, va_K.moved (u := U) (U := U.calling g mk a) (Vm.Alike.refl U.vm) q5, q6, q7⟩
theorem am_wA {D : va_G} {tc ad : Nat → Nat} {h : am_H} {A : Nat → Prop} {s : State} {H : Heap} {locs : List Loc} (hA : ∀ q, s.heap.size ≤ q → A q) (hD : va_D A (am_w ad tc h)) (hS : va_S A s.heap H locs) : ∀ q, va_A (am_w ad tc h) H.size q → A q := by
  rintro q (⟨k, e, hk⟩ | hq)
  · exact hD.2 k _ hk
  · exact hA q (Nat.le_trans hS.1 hq)
theorem am_pre_ok {D : va_G} {tc ad ad0 : Nat → Nat} {h h0 : am_H} {A : Nat → Prop} {s U : State} {H : Heap} {locs : List Loc} (hT : am_T s) (hK : va_K D am_cls (am_tys tc) s) (hE : am_Ev ad0 A s s.heap) (hA : ∀ q, s.heap.size ≤ q → A q) (hag : am_ag h0 ad0 ad h) (hP : va_P D am_cls (am_w ad tc h) H) (hD : va_D A (am_w ad tc h)) (hS : va_S A s.heap H locs) (hU : U.heap = H) (hW : s.WarmedH U.vm) : am_Pre D tc ad h H.size U := by
  have hF := am_wA (D := D) hA hD hS
  refine ⟨by rw [hU], hT.warm hW, ?_, by rw [hU]; exact hP, va_K.moved hW.alike hK, hD.weaken (fun _ _ _ _ => trivial), hag.2.1⟩
  rw [hU]
  exact ((hE.kept hS.2.1).narrow hF).warm hW |>.ads (fun i hi => hag.2.2 i (Or.inr (by have := hag.2.1; omega)))
theorem am_al_ns {ad ad' : Nat → Nat} {lo hi : Nat} (e : ∀ i, (i < lo ∨ hi ≤ i) → ad' i = ad i) : ∀ (ls : am_L) (i : Nat), (∀ v, some v ∈ ls → am_nsV lo hi v) → am_al ad' i ls = am_al ad i ls
  | [], _, _ => rfl
  | none :: l, i, h => am_al_ns e l (i + 1) (fun v hv => h v (List.mem_cons_of_mem _ hv))
  | some v :: l, i, h => by
    have hv := h v List.mem_cons_self
    have e1 : am_v ad' v = am_v ad v := by
      cases v <;> first | rfl | exact congrArg Value.ref (e _ hv)
    rw [am_al, am_al, e1, am_al_ns e l (i + 1) (fun v hv => h v (List.mem_cons_of_mem _ hv))]
theorem am_run_go {mi : am_MI} {d : Nat} {Q P : Option Value → am_H → Prop} {kc ks kc' ks' pc : Nat} {ls : am_L} {rest : List Value} {h h0 : am_H} {p : Program} {l : Launch} {e : Env} {R : Room} {s : State} {m : MethodId} {args : Array Value} {below : List Frame} {meth : Method} {c : Code} {D : va_G} {tc : Nat → ClassId} {ad ad0 : Nat → Nat} {A : Nat → Prop} {H : Heap} {locs : List Loc} {cells slots mc ms : Nat} {lsC : Array Slot} {st0 : List Value} {av : Array Value}
    (hX : am_X p s m meth c mi D tc) (hE : am_Ev ad0 A s s.heap) (hA : ∀ q, s.heap.size ≤ q → A q) (hG : am_G d kc ks cells slots mc ms R) (hag : am_ag h0 ad0 ad h) (hD : va_D A (am_w ad tc h)) (hS : va_S A s.heap H locs) (hl : am_lv ad ls (am_mL mi) lsC) (hkc : kc' ≤ kc) (hks : ks' ≤ ks)
    (hr : va_Run p l e R s m args below meth c H locs cells slots kc' ks' (F0 m pc lsC st0) (rest.map (am_v ad)) (am_Q D tc (va_A (am_w ad tc h) H.size) h ad P av) (va_A (am_w ad tc h) H.size))
    (hgo : ∀ (r : Option Value) (h' : am_H), P r h' → (h'.length = h.length ∨ am_ns h.length h'.length ls rest) ∧ am_W mi d Q (kc - kc') (ks - ks') (pc + 3) ls (r.toList ++ rest) h') :
    W p l e R s m args below meth c H locs cells slots (MQ below (am_Q D tc A h0 ad0 Q) args s mc ms A) (F0 m pc lsC st0) := by
  intro T hT X
  obtain ⟨v, st₀, t, T', L, h0', X', hL, e1, e2, ⟨⟨r, h', ad', hv, hp, hag', hP', hK', hD'⟩, hz, hk⟩, stp⟩ := hr T hT X
  cases hv
  rw [h0'] at hz hk
  have hF := am_wA (D := D) hA hD hS
  have hS' : va_S A s.heap T'.heap (locs ++ L) := ⟨Nat.le_trans hS.1 (by rw [e1]; exact hz), fun q h1 h2 => by rw [e1, hk q (Nat.lt_of_lt_of_le h1 hS.1) (fun z => h2 (hF q z))]; exact hS.2.1 q h1 h2, fun q hq => by
      rcases List.mem_append.mp hq with h | h
      · exact hS.2.2 q h
      · exact hF _ (hL q h)⟩
  obtain ⟨hns, hw⟩ := hgo r h' hp
  have hsame : am_al ad' 0 ls = am_al ad 0 ls ∧ rest.map (am_v ad') = rest.map (am_v ad) := by
    rcases hns with hns | hns
    · have e3 : ad' = ad := funext fun i => hag'.2.2 i (by omega)
      rw [e3]; exact ⟨rfl, rfl⟩
    · refine ⟨am_al_ns hag'.2.2 ls 0 hns.1, List.map_congr_left fun v hv => ?_⟩
      have h1 := hns.2 v hv
      cases v <;> first | rfl | exact congrArg Value.ref (hag'.2.2 _ h1)
  have hlv' : am_lv ad' ls (am_mL mi) lsC := by unfold am_lv; rw [hsame.1]; exact hl
  have hst : (r.toList ++ rest).map (am_v ad') = (r.map (am_v ad')).toList ++ rest.map (am_v ad) := by
    rw [List.map_append, hsame.2]; cases r <;> rfl
  obtain ⟨g1, g2, g3, g4, g5, g6⟩ := hG
  have hag2 : am_ag h0 ad0 ad' h' := ⟨Nat.le_trans hag.1 hag'.1, hag'.2.1, fun i hi => by
    have a1 := hag.1
    have a2 := hag'.1
    rw [hag'.2.2 i (by omega), hag.2.2 i (by omega)]⟩
  obtain ⟨t2, a1, b1⟩ := hw p l e R s m args below meth c D tc ad' ad0 h0 A T'.heap (locs ++ L) (cells + kc') (slots + ks') mc ms lsC hX hE hA ⟨g1, g2, by omega, by omega, g5, g6⟩ hag2 (by rw [e1]; exact hP') (hD'.weaken (fun _ _ _ z => hF _ z)) hS' hlv' T' rfl X'
  rw [hst] at a1
  exact ⟨t2, stp t2 a1, b1⟩
/-- what the tables say of a callee -/
def am_ML (mi : am_MI) (b : Nat) : Prop := Cond.code (am_y mi) (am_code mi) (am_mL mi) (am_ret mi) ∈ am_gt ∧ Cond.initialized (am_y mi).cls ∈ am_gt ∧ ((am_y mi).cls ≠ "java/lang/invoke/MethodHandle" ∧ (am_y mi).cls ≠ "java/lang/invoke/VarHandle") ∧ (parseMethodDescriptor (am_y mi).desc).map (fun d => d.parameters.length) = some b ∧ am_mL mi ≤ 45
theorem am_pars {desc : String} {b : Nat} (h : (parseMethodDescriptor desc).map (fun d => d.parameters.length) = some b) : ∀ sig, parseMethodDescriptor desc = some sig → b = sig.parameters.length := by
  intro sig hs
  rw [hs] at h
  exact (Option.some.inj h).symm
theorem am_cb {mi : am_MI} {b d d' kc' ks' : Nat} {R : Room} {s : State} {args : Array Value} {own : String} {ix : Nat} (hM : am_ML mi b) (hT : am_T s) (hd : d' + 1 ≤ d) (h1 : d ≤ R.frames) (h2 : 64 * d ≤ R.locals) (hlk : (Cond.methodLink own ix (am_y mi)).before args s = true) :
    CallB R s args own ix (am_y mi) (am_code mi) (am_mL mi) (am_ret mi) (am_ws mi) (am_R d' kc' ks') kc' ks' b := by
  obtain ⟨m1, m2, m3, m4, m5⟩ := hM
  refine ⟨rfl, rfl, ?_, ?_, ?_, List.mem_cons_self, hT _ m1 args, hT _ m2 args, m3, am_pars m4, hlk⟩
  · show d' + 1 ≤ R.frames; omega
  · show 8 + (am_mL mi + 11) + 64 * d' ≤ R.locals; omega
  · intro w hw a' U hW
    cases List.mem_singleton.mp hw
    exact hT.warm hW _ m1 a'
theorem am_cn {mi : am_MI} {b d d' kc' ks' : Nat} {R : Room} {s : State} {args : Array Value} {own host : String} {ix : Nat} (hM : am_ML mi b) (hT : am_T s) (hd : d' + 1 ≤ d) (h1 : d ≤ R.frames) (h2 : 64 * d ≤ R.locals) (hlk : (Cond.methodLinkNest own ix (am_y mi) host).before args s = true) :
    va_CN R s args own ix (am_y mi) host (am_code mi) (am_mL mi) (am_ret mi) (am_ws mi) (am_R d' kc' ks') kc' ks' b := by
  obtain ⟨m1, m2, m3, m4, m5⟩ := hM
  refine ⟨⟨rfl, rfl, ?_, ?_, ?_, List.mem_cons_self⟩, hT _ m1 args, hT _ m2 args, m3, am_pars m4, hlk⟩
  · show d' + 1 ≤ R.frames; omega
  · show 8 + (am_mL mi + 11) + 64 * d' ≤ R.locals; omega
  · intro w hw a' U hW
    cases List.mem_singleton.mp hw
    exact hT.warm hW _ m1 a'
theorem am_bk {mi : am_MI} {b d d' kc' ks' : Nat} {R : Room} {s : State} (hM : am_ML mi b) (hT : am_T s) (hd : d' + 1 ≤ d) (h1 : d ≤ R.frames) (h2 : 64 * d ≤ R.locals) :
    (am_R d' kc' ks').cells = kc' ∧ (am_R d' kc' ks').slots = ks' ∧ (am_R d' kc' ks').frames + 1 ≤ R.frames ∧ 8 + (am_mL mi + 11) + (am_R d' kc' ks').locals ≤ R.locals ∧ (∀ w ∈ am_ws mi, ∀ (a' : Array Value) (U : State), s.WarmedH U.vm → w.before a' U = true) ∧ Cond.code (am_y mi) (am_code mi) (am_mL mi) (am_ret mi) ∈ am_ws mi := by
  obtain ⟨m1, m2, m3, m4, m5⟩ := hM
  refine ⟨rfl, rfl, ?_, ?_, ?_, List.mem_cons_self⟩
  · show d' + 1 ≤ R.frames; omega
  · show 8 + (am_mL mi + 11) + 64 * d' ≤ R.locals; omega
  · intro w hw a' U hW
    cases List.mem_singleton.mp hw
    exact hT.warm hW _ m1 a'
theorem am_stk {ad : Nat → Nat} {b o : Nat} {st As rest : List Value} (h : am_pop b st [] = some (As, .ref o :: rest)) : st.map (am_v ad) = (As.map (am_v ad)).reverse ++ .ref (ad o) :: rest.map (am_v ad) := by
  obtain ⟨h1, -⟩ := am_pop_eq b st [] As _ h
  rw [List.reverse_nil, List.nil_append] at h1
  rw [h1, List.map_append, List.map_reverse]
  rfl
theorem am_stk0 {ad : Nat → Nat} {b : Nat} {st As rest : List Value} (h : am_pop b st [] = some (As, rest)) : st.map (am_v ad) = (As.map (am_v ad)).reverse ++ rest.map (am_v ad) := by
  obtain ⟨h1, -⟩ := am_pop_eq b st [] As _ h
  rw [List.reverse_nil, List.nil_append] at h1
  rw [h1, List.map_append, List.map_reverse]
theorem am_popl {ad : Nat → Nat} {b : Nat} {st As rest : List Value} (h : am_pop b st [] = some (As, rest)) : (As.map (am_v ad)).length = b := by
  rw [List.length_map, (am_pop_eq b st [] As _ h).2]; simp
theorem am_cat_v {ad : Nat → Nat} {rest : List Value} : ((rest.map (am_v ad)).map fun v => v.category).sum = am_cat rest := by
  unfold am_cat
  rw [List.map_map]
  congr 1
  refine List.map_congr_left fun v _ => ?_
  cases v <;> rfl
section AMC
variable {mi mi' : am_MI} {d : Nat} {Q : Option Value → am_H → Prop} {kc ks pc : Nat} {ls : am_L} {st As rest : List Value} {h : am_H}
/-- invokevirtual of a method that the receiver's class has of its own -/
theorem am_s_callV {ix b o ci : Nat} {fs : List Value} {q : vw_C} (hq : am_cls[ci]? = some q) (hM : am_ML mi' b) (hlk : Cond.methodLink (am_y mi).cls ix (am_y mi') ∈ am_gt) (hin : Cond.instanceMethod (am_y mi') ∈ am_gt) (hse : Cond.selects q.1 (am_y mi') (am_y mi') ∈ am_gt) (hpop : am_pop b st [] = some (As, .ref o :: rest)) (hc : am_nth h o = some (.inr (.inr (ci, fs)))) (hd : decode (am_code mi) pc = .ok (.invokevirtual ix, 3))
    (hk : am_call mi' d kc ks (.ref o :: As) rest ls h (fun kc ks r h => am_W mi d Q kc ks (pc + 3) ls (r.toList ++ rest) h)) : am_W mi d Q kc ks pc ls st h := by
  intro p l e R s m args below meth c D tc ad ad0 h0 A H locs cells slots mc ms lsC hX hE hA hG hag hP hD hS hl
  obtain ⟨d', kc', ks', P, k1, k2, k3, k4, k5, k6⟩ := hk
  have hT := hX.2.2.2.2.2.2.2.1
  have hK := hX.2.2.2.2.2.2.2.2
  obtain ⟨g1, g2, g3, g4, g5, g6⟩ := id hG
  rw [am_stk hpop]
  refine am_run_go (P := P) (av := (Value.ref (ad o) :: As.map (am_v ad)).toArray) hX hE hA hG hag hD hS hl k2 k3 ?_ k6
  exact va_runV (C := q.1) (Ts := am_gt) ⟨hX.1, hX.2.1, hX.2.2.2.1, hX.2.2.2.2.1, hT.use args⟩ (k5 l D tc ad H.size) ⟨am_cb hM hT k1 g1 g2 (hT _ hlk args), hT _ hin args, hT _ hse args⟩ ⟨am_blind, va_recv hK hP hq (am_w_at hc), fun U hU hW => ⟨rfl, am_pre_ok hT hK hE hA hag hP hD hS hU hW⟩⟩ rfl (am_popl hpop) hl.1 rfl (lv_room (by rw [am_cat_v]; exact k4)) hd ⟨by omega, by omega⟩
/-- the same, by a nest mate -/
theorem am_s_callVN {ix b o ci : Nat} {host : String} {fs : List Value} {q : vw_C} (hq : am_cls[ci]? = some q) (hM : am_ML mi' b) (hlk : Cond.methodLinkNest (am_y mi).cls ix (am_y mi') host ∈ am_gt) (hin : Cond.instanceMethod (am_y mi') ∈ am_gt) (hse : Cond.selects q.1 (am_y mi') (am_y mi') ∈ am_gt) (hpop : am_pop b st [] = some (As, .ref o :: rest)) (hc : am_nth h o = some (.inr (.inr (ci, fs)))) (hd : decode (am_code mi) pc = .ok (.invokevirtual ix, 3))
    (hk : am_call mi' d kc ks (.ref o :: As) rest ls h (fun kc ks r h => am_W mi d Q kc ks (pc + 3) ls (r.toList ++ rest) h)) : am_W mi d Q kc ks pc ls st h := by
  intro p l e R s m args below meth c D tc ad ad0 h0 A H locs cells slots mc ms lsC hX hE hA hG hag hP hD hS hl
  obtain ⟨d', kc', ks', P, k1, k2, k3, k4, k5, k6⟩ := hk
  have hT := hX.2.2.2.2.2.2.2.1
  have hK := hX.2.2.2.2.2.2.2.2
  obtain ⟨g1, g2, g3, g4, g5, g6⟩ := id hG
  rw [am_stk hpop]
  refine am_run_go (P := P) (av := (Value.ref (ad o) :: As.map (am_v ad)).toArray) hX hE hA hG hag hD hS hl k2 k3 ?_ k6
  exact va_runVN (C := q.1) (Ts := am_gt) ⟨hX.1, hX.2.1, hX.2.2.2.1, hX.2.2.2.2.1, hT.use args⟩ (k5 l D tc ad H.size) ⟨am_cn hM hT k1 g1 g2 (hT _ hlk args), hT _ hin args, hT _ hse args⟩ ⟨am_blind, va_recv hK hP hq (am_w_at hc), fun U hU hW => ⟨rfl, am_pre_ok hT hK hE hA hag hP hD hS hU hW⟩⟩ rfl (am_popl hpop) hl.1 rfl (lv_room (by rw [am_cat_v]; exact k4)) hd ⟨by omega, by omega⟩
/-- of a text -/
theorem am_s_callT {ix b o : Nat} (hM : am_ML mi' b) (hlk : Cond.methodLink (am_y mi).cls ix (am_y mi') ∈ am_gt) (hin : Cond.instanceMethod (am_y mi') ∈ am_gt) (hse : Cond.selects "java/lang/String" (am_y mi') (am_y mi') ∈ am_gt) (hpop : am_pop b st [] = some (As, .ref o :: rest)) (ho1 : o < 100003) (ho2 : 100000 ≤ o) (hd : decode (am_code mi) pc = .ok (.invokevirtual ix, 3))
    (hk : am_call mi' d kc ks (.ref o :: As) rest ls h (fun kc ks r h => am_W mi d Q kc ks (pc + 3) ls (r.toList ++ rest) h)) : am_W mi d Q kc ks pc ls st h := by
  intro p l e R s m args below meth c D tc ad ad0 h0 A H locs cells slots mc ms lsC hX hE hA hG hag hP hD hS hl
  obtain ⟨d', kc', ks', P, k1, k2, k3, k4, k5, k6⟩ := hk
  have hT := hX.2.2.2.2.2.2.2.1
  have hK := hX.2.2.2.2.2.2.2.2
  obtain ⟨g1, g2, g3, g4, g5, g6⟩ := id hG
  rw [am_stk hpop]
  obtain ⟨adV, hV⟩ := (hE.ads (fun i hi => hag.2.2 i (Or.inr (by have := hag.2.1; omega)))).2.2.1
  have hrec := vk_recv hV (i := o - 100000) (by omega) hS
  rw [show 100000 + (o - 100000) = o by omega] at hrec
  refine am_run_go (P := P) (av := (Value.ref (ad o) :: As.map (am_v ad)).toArray) hX hE hA hG hag hD hS hl k2 k3 ?_ k6
  exact va_runV (C := "java/lang/String") (Ts := am_gt) ⟨hX.1, hX.2.1, hX.2.2.2.1, hX.2.2.2.2.1, hT.use args⟩ (k5 l D tc ad H.size) ⟨am_cb hM hT k1 g1 g2 (hT _ hlk args), hT _ hin args, hT _ hse args⟩ ⟨am_blind, hrec, fun U hU hW => ⟨rfl, am_pre_ok hT hK hE hA hag hP hD hS hU hW⟩⟩ rfl (am_popl hpop) hl.1 rfl (lv_room (by rw [am_cat_v]; exact k4)) hd ⟨by omega, by omega⟩
/-- of a method that a class above names -/
theorem am_s_callU {ix b o ci : Nat} {owner : String} {xn : MethodName} {fs : List Value} {q : vw_C} (hq : am_cls[ci]? = some q) (hM : am_ML mi' b) (hpx : (parseMethodDescriptor xn.desc).map (fun d => d.parameters.length) = some b) (how : owner ≠ "java/lang/invoke/MethodHandle" ∧ owner ≠ "java/lang/invoke/VarHandle") (hlk : Cond.methodLink (am_y mi).cls ix xn ∈ am_gt) (hsm : Cond.sameMethod xn.cls owner xn.name xn.desc ∈ am_gt) (hdc : Cond.declares ⟨owner, xn.name, xn.desc⟩ ∈ am_gt ∨ ∃ (bs : ByteArray) (n : Nat) (rt : Option FieldType), Cond.instanceMethod ⟨owner, xn.name, xn.desc⟩ ∈ am_gt ∧ Cond.code ⟨owner, xn.name, xn.desc⟩ bs n rt ∈ am_gt) (hin : Cond.instanceMethod (am_y mi') ∈ am_gt) (hse : Cond.selects q.1 xn (am_y mi') ∈ am_gt) (hpop : am_pop b st [] = some (As, .ref o :: rest)) (hc : am_nth h o = some (.inr (.inr (ci, fs)))) (hd : decode (am_code mi) pc = .ok (.invokevirtual ix, 3))
    (hk : am_call mi' d kc ks (.ref o :: As) rest ls h (fun kc ks r h => am_W mi d Q kc ks (pc + 3) ls (r.toList ++ rest) h)) : am_W mi d Q kc ks pc ls st h := by
  intro p l e R s m args below meth c D tc ad ad0 h0 A H locs cells slots mc ms lsC hX hE hA hG hag hP hD hS hl
  obtain ⟨d', kc', ks', P, k1, k2, k3, k4, k5, k6⟩ := hk
  have hT := hX.2.2.2.2.2.2.2.1
  have hK := hX.2.2.2.2.2.2.2.2
  obtain ⟨g1, g2, g3, g4, g5, g6⟩ := id hG
  rw [am_stk hpop]
  have hdec : va_Decl s ⟨owner, xn.name, xn.desc⟩ := by
    rcases hdc with z | ⟨bs, n, rt, z1, z2⟩
    · exact va_Decl.abs (hT _ z #[])
    · exact va_Decl.of (hT _ z1 #[]) (hT _ z2 #[])
  have bk := am_bk (kc' := kc') (ks' := ks') hM hT k1 g1 g2
  refine am_run_go (P := P) (av := (Value.ref (ad o) :: As.map (am_v ad)).toArray) hX hE hA hG hag hD hS hl k2 k3 ?_ k6
  exact va_runU (C := q.1) (Ts := am_gt) (owner := owner) (x := xn) ⟨hX.1, hX.2.1, hX.2.2.2.1, hX.2.2.2.2.1, hT.use args⟩ (k5 l D tc ad H.size) ⟨bk, hT _ hM.1 args, hT _ hM.2.1 args, how, am_pars hpx, hT _ hlk args, hT _ hsm args, hdec, hT _ hse args, hT _ hin args⟩ ⟨am_blind, va_recv hK hP hq (am_w_at hc), fun U hU hW => ⟨rfl, am_pre_ok hT hK hE hA hag hP hD hS hU hW⟩⟩ rfl (am_popl hpop) hl.1 rfl (lv_room (by rw [am_cat_v]; exact k4)) hd ⟨by omega, by omega⟩
/-- invokestatic -/
theorem am_s_callS {ix b : Nat} (hM : am_ML mi' b) (hlk : Cond.methodLink (am_y mi).cls ix (am_y mi') ∈ am_gt) (hst : Cond.static (am_y mi') ∈ am_gt) (hpop : am_pop b st [] = some (As, rest)) (hd : decode (am_code mi) pc = .ok (.invokestatic ix, 3))
    (hk : am_call mi' d kc ks As rest ls h (fun kc ks r h => am_W mi d Q kc ks (pc + 3) ls (r.toList ++ rest) h)) : am_W mi d Q kc ks pc ls st h := by
  intro p l e R s m args below meth c D tc ad ad0 h0 A H locs cells slots mc ms lsC hX hE hA hG hag hP hD hS hl
  obtain ⟨d', kc', ks', P, k1, k2, k3, k4, k5, k6⟩ := hk
  have hT := hX.2.2.2.2.2.2.2.1
  have hK := hX.2.2.2.2.2.2.2.2
  obtain ⟨g1, g2, g3, g4, g5, g6⟩ := id hG
  rw [am_stk0 hpop]
  refine am_run_go (P := P) (av := (As.map (am_v ad)).toArray) hX hE hA hG hag hD hS hl k2 k3 ?_ k6
  exact va_runS (Ts := am_gt) ⟨hX.1, hX.2.1, hX.2.2.2.1, hX.2.2.2.2.1, hT.use args⟩ (k5 l D tc ad H.size) ⟨am_cb hM hT k1 g1 g2 (hT _ hlk args), hT _ hst args⟩ ⟨am_blind, fun U hU hW => ⟨rfl, am_pre_ok hT hK hE hA hag hP hD hS hU hW⟩⟩ rfl (am_popl hpop) hl.1 rfl (lv_room (by rw [am_cat_v]; exact k4)) hd ⟨by omega, by omega⟩
theorem am_s_callSN {ix b : Nat} {host : String} (hM : am_ML mi' b) (hlk : Cond.methodLinkNest (am_y mi).cls ix (am_y mi') host ∈ am_gt) (hst : Cond.static (am_y mi') ∈ am_gt) (hpop : am_pop b st [] = some (As, rest)) (hd : decode (am_code mi) pc = .ok (.invokestatic ix, 3))
    (hk : am_call mi' d kc ks As rest ls h (fun kc ks r h => am_W mi d Q kc ks (pc + 3) ls (r.toList ++ rest) h)) : am_W mi d Q kc ks pc ls st h := by
  intro p l e R s m args below meth c D tc ad ad0 h0 A H locs cells slots mc ms lsC hX hE hA hG hag hP hD hS hl
  obtain ⟨d', kc', ks', P, k1, k2, k3, k4, k5, k6⟩ := hk
  have hT := hX.2.2.2.2.2.2.2.1
  have hK := hX.2.2.2.2.2.2.2.2
  obtain ⟨g1, g2, g3, g4, g5, g6⟩ := id hG
  rw [am_stk0 hpop]
  refine am_run_go (P := P) (av := (As.map (am_v ad)).toArray) hX hE hA hG hag hD hS hl k2 k3 ?_ k6
  exact va_runSN (Ts := am_gt) ⟨hX.1, hX.2.1, hX.2.2.2.1, hX.2.2.2.2.1, hT.use args⟩ (k5 l D tc ad H.size) ⟨am_cn hM hT k1 g1 g2 (hT _ hlk args), hT _ hst args, trivial⟩ ⟨am_blind, fun U hU hW => ⟨rfl, am_pre_ok hT hK hE hA hag hP hD hS hU hW⟩⟩ rfl (am_popl hpop) hl.1 rfl (lv_room (by rw [am_cat_v]; exact k4)) hd ⟨by omega, by omega⟩
/-- constructors -/
theorem am_s_callI {ix b o : Nat} (hM : am_ML mi' b) (hr0 : am_ret mi' = none) (hnm : (am_y mi').name = "<init>") (hlk : Cond.methodLink (am_y mi).cls ix (am_y mi') ∈ am_gt) (hin : Cond.instanceMethod (am_y mi') ∈ am_gt) (hpop : am_pop b st [] = some (As, .ref o :: rest)) (hd : decode (am_code mi) pc = .ok (.invokespecial ix, 3))
    (hk : am_call mi' d kc ks (.ref o :: As) rest ls h (fun kc ks r h => am_W mi d Q kc ks (pc + 3) ls (r.toList ++ rest) h)) : am_W mi d Q kc ks pc ls st h := by
  intro p l e R s m args below meth c D tc ad ad0 h0 A H locs cells slots mc ms lsC hX hE hA hG hag hP hD hS hl
  obtain ⟨d', kc', ks', P, k1, k2, k3, k4, k5, k6⟩ := hk
  have hT := hX.2.2.2.2.2.2.2.1
  have hK := hX.2.2.2.2.2.2.2.2
  obtain ⟨g1, g2, g3, g4, g5, g6⟩ := id hG
  rw [am_stk hpop]
  refine am_run_go (P := P) (av := (Value.ref (ad o) :: As.map (am_v ad)).toArray) hX hE hA hG hag hD hS hl k2 k3 ?_ k6
  have cb := am_cb (kc' := kc') (ks' := ks') hM hT k1 g1 g2 (hT _ hlk args)
  rw [hr0] at cb
  exact va_runI (Ts := am_gt) ⟨hX.1, hX.2.1, hX.2.2.2.1, hX.2.2.2.2.1, hT.use args⟩ (k5 l D tc ad H.size) ⟨cb, hnm, hT _ hin args⟩ ⟨am_blind, fun U hU hW => ⟨rfl, am_pre_ok hT hK hE hA hag hP hD hS hU hW⟩⟩ rfl (am_popl hpop) hl.1 rfl (lv_room (by rw [am_cat_v]; exact k4)) hd ⟨by omega, by omega⟩
theorem am_s_callIN {ix b o : Nat} {host : String} (hM : am_ML mi' b) (hr0 : am_ret mi' = none) (hnm : (am_y mi').name = "<init>") (hlk : Cond.methodLinkNest (am_y mi).cls ix (am_y mi') host ∈ am_gt) (hin : Cond.instanceMethod (am_y mi') ∈ am_gt) (hpop : am_pop b st [] = some (As, .ref o :: rest)) (hd : decode (am_code mi) pc = .ok (.invokespecial ix, 3))
    (hk : am_call mi' d kc ks (.ref o :: As) rest ls h (fun kc ks r h => am_W mi d Q kc ks (pc + 3) ls (r.toList ++ rest) h)) : am_W mi d Q kc ks pc ls st h := by
  intro p l e R s m args below meth c D tc ad ad0 h0 A H locs cells slots mc ms lsC hX hE hA hG hag hP hD hS hl
  obtain ⟨d', kc', ks', P, k1, k2, k3, k4, k5, k6⟩ := hk
  have hT := hX.2.2.2.2.2.2.2.1
  have hK := hX.2.2.2.2.2.2.2.2
  obtain ⟨g1, g2, g3, g4, g5, g6⟩ := id hG
  rw [am_stk hpop]
  refine am_run_go (P := P) (av := (Value.ref (ad o) :: As.map (am_v ad)).toArray) hX hE hA hG hag hD hS hl k2 k3 ?_ k6
  have cb := am_cn (kc' := kc') (ks' := ks') hM hT k1 g1 g2 (hT _ hlk args)
  rw [hr0] at cb
  exact va_runIN (Ts := am_gt) ⟨hX.1, hX.2.1, hX.2.2.2.1, hX.2.2.2.2.1, hT.use args⟩ (k5 l D tc ad H.size) ⟨cb, hnm, hT _ hin args⟩ ⟨am_blind, fun U hU hW => ⟨rfl, am_pre_ok hT hK hE hA hag hP hD hS hU hW⟩⟩ rfl (am_popl hpop) hl.1 rfl (lv_room (by rw [am_cat_v]; exact k4)) hd ⟨by omega, by omega⟩
theorem am_obj_in : Cond.instanceMethod objectInit ∈ am_gt ∧ Cond.code objectInit ⟨#[0xb1]⟩ 1 none ∈ am_gt := ⟨by decide +kernel, by decide +kernel⟩
theorem am_s_objInit {ix o : Nat} (hlk : Cond.methodLink (am_y mi).cls ix objectInit ∈ am_gt) (hd1 : 1 ≤ d) (hcat : am_cat st ≤ 8) (hd : decode (am_code mi) pc = .ok (.invokespecial ix, 3)) (hk : am_W mi d Q kc ks (pc + 3) ls st h) : am_W mi d Q kc ks pc ls (.ref o :: st) h := by
  intro p l e R s m args below meth c D tc ad ad0 h0 A H locs cells slots mc ms lsC hX hE hA hG hag hP hD hS hl
  have hT := hX.2.2.2.2.2.2.2.1
  obtain ⟨g1, g2, g3, g4, g5, g6⟩ := id hG
  have hc8 := lv_room (m := m) (pc := pc) (ls := lsC) (rest := (Value.ref o :: st).map (am_v ad)) (st := st.map (am_v ad)) (by rw [am_cat_v]; exact hcat)
  exact W.objInit hX.1 hX.2.1 hX.2.2.2.2.1 (hT _ hlk args) (hT _ am_obj_in.1 args) (hT _ am_obj_in.2 args) rfl (by rw [hX.2.2.2.1]; exact hl.1) rfl hd (by omega) (by omega) (hk p l e R s m args below meth c D tc ad ad0 h0 A H locs cells slots mc ms lsC hX hE hA hG hag hP hD hS hl)
theorem am_cp_in : Cond.native arraycopyName ∈ am_gt ∧ Cond.static arraycopyName ∈ am_gt ∧ Cond.initialized "java/lang/System" ∈ am_gt := ⟨by decide +kernel, by decide +kernel, by decide +kernel⟩
/-- System.arraycopy of two rows of one type -/
theorem am_s_copy {ix a o0 o1 n0 n1 : Nat} {f g : Nat → Int32} {sp dp n : Int32} (ha : a < 3) (hlk : Cond.methodLink (am_y mi).cls ix arraycopyName ∈ am_gt) (h0' : am_nth h o0 = some (.inl (a, n0, f))) (h1' : am_nth h o1 = some (.inl (a, n1, g))) (c1 : ¬ sp < 0) (c2 : ¬ dp < 0) (c3 : ¬ n < 0) (c4 : sp.toNatClampNeg + n.toNatClampNeg ≤ n0) (c5 : dp.toNatClampNeg + n.toNatClampNeg ≤ n1) (c6 : ∀ i, i < n.toNatClampNeg → fits (am_aty a) (.int (f (sp.toNatClampNeg + i))) = true) (hd1 : 1 ≤ d) (hcat : am_cat rest ≤ 8) (hd : decode (am_code mi) pc = .ok (.invokestatic ix, 3))
    (hk : am_W mi d Q kc ks (pc + 3) ls rest (am_put h o1 (.inl (a, n1, va_cpy f g sp.toNatClampNeg dp.toNatClampNeg n.toNatClampNeg)))) : am_W mi d Q kc ks pc ls (.int n :: .int dp :: .ref o1 :: .int sp :: .ref o0 :: rest) h := by
  intro p l e R s m args below meth c D tc ad ad0 h0 A H locs cells slots mc ms lsC hX hE hA hG hag hP hD hS hl
  have hT := hX.2.2.2.2.2.2.2.1
  have hK := hX.2.2.2.2.2.2.2.2
  obtain ⟨g1, g2, g3, g4, g5, g6⟩ := id hG
  have hrm : ((rest.map (am_v ad)).map fun v => v.category).sum + (nativeFrameWords "java/lang/System" "arraycopy" 5 + 11) ≤ R.locals := by
    rw [am_cat_v]
    have : nativeFrameWords "java/lang/System" "arraycopy" 5 = 7 := by decide +kernel
    omega
  rcases (show a = 0 ∨ a = 1 ∨ a = 2 by omega) with rfl | rfl | rfl
  · exact va_copyi hX.1 hX.2.1 (hX.2.2.2.1.trans hl.1.symm) hX.2.2.2.2.1 (hT _ hlk args) (hT _ am_cp_in.1 args) (hT _ am_cp_in.2.1 args) (hT _ am_cp_in.2.2 args) hK hP hD hS o0 o1 0 0 (am_w_at h0') (am_w_at h1') rfl rfl rfl c1 c2 c3 c4 c5 c6 (by omega) hrm hd (fun H1 locs1 hP1 hD1 hS1 => hk p l e R s m args below meth c D tc ad ad0 h0 A H1 locs1 cells slots mc ms lsC hX hE hA hG ⟨by rw [am_put_len]; exact hag.1, by rw [am_put_len]; exact hag.2.1, by rw [am_put_len]; exact hag.2.2⟩ (by rw [am_w_put]; exact hP1) (by rw [am_w_put]; exact hD1) hS1 hl)
  · exact va_copyi hX.1 hX.2.1 (hX.2.2.2.1.trans hl.1.symm) hX.2.2.2.2.1 (hT _ hlk args) (hT _ am_cp_in.1 args) (hT _ am_cp_in.2.1 args) (hT _ am_cp_in.2.2 args) hK hP hD hS o0 o1 1 1 (am_w_at h0') (am_w_at h1') rfl rfl rfl c1 c2 c3 c4 c5 c6 (by omega) hrm hd (fun H1 locs1 hP1 hD1 hS1 => hk p l e R s m args below meth c D tc ad ad0 h0 A H1 locs1 cells slots mc ms lsC hX hE hA hG ⟨by rw [am_put_len]; exact hag.1, by rw [am_put_len]; exact hag.2.1, by rw [am_put_len]; exact hag.2.2⟩ (by rw [am_w_put]; exact hP1) (by rw [am_w_put]; exact hD1) hS1 hl)
  · exact va_copyi hX.1 hX.2.1 (hX.2.2.2.1.trans hl.1.symm) hX.2.2.2.2.1 (hT _ hlk args) (hT _ am_cp_in.1 args) (hT _ am_cp_in.2.1 args) (hT _ am_cp_in.2.2 args) hK hP hD hS o0 o1 2 2 (am_w_at h0') (am_w_at h1') rfl rfl rfl c1 c2 c3 c4 c5 c6 (by omega) hrm hd (fun H1 locs1 hP1 hD1 hS1 => hk p l e R s m args below meth c D tc ad ad0 h0 A H1 locs1 cells slots mc ms lsC hX hE hA hG ⟨by rw [am_put_len]; exact hag.1, by rw [am_put_len]; exact hag.2.1, by rw [am_put_len]; exact hag.2.2⟩ (by rw [am_w_put]; exact hP1) (by rw [am_w_put]; exact hD1) hS1 hl)
/-- super.m(..) -/
theorem am_sub2 {vm : Vm} {a b : ClassId} {k : Class} (h : vm.classes[a]? = some k) (hs : k.super = some b) : vm.isSubclass a b = true := by
  have hl : a < vm.classes.size := (Array.getElem?_eq_some_iff.mp h).1
  obtain ⟨n, hn⟩ : ∃ n, vm.classes.size = n + 1 := ⟨vm.classes.size - 1, by have h9 : 0 < vm.classes.size := Nat.lt_of_le_of_lt (Nat.zero_le a) hl; omega⟩
  simp [Vm.isSubclass, hn, Vm.isSubclassAux, h, hs]
theorem am_s_callSU {ix b o ci : Nat} {xn : MethodName} {fs : List Value} {q : vw_C} (hq : am_cls[ci]? = some q) (hM : am_ML mi' b) (hno : xn.name ≠ "<init>") (hyn : (am_y mi').name = xn.name) (hyd : (am_y mi').desc = xn.desc) (hlk : Cond.methodLink (am_y mi).cls ix xn ∈ am_gt) (hsm : Cond.sameMethod xn.cls (am_y mi').cls xn.name xn.desc ∈ am_gt) (hsp : Cond.superclass (am_y mi).cls xn.cls ∈ am_gt) (hsp2 : xn.cls = (am_y mi').cls ∨ Cond.superclass xn.cls (am_y mi').cls ∈ am_gt) (hin : Cond.instanceMethod (am_y mi') ∈ am_gt) (hpop : am_pop b st [] = some (As, .ref o :: rest)) (hc : am_nth h o = some (.inr (.inr (ci, fs)))) (hd : decode (am_code mi) pc = .ok (.invokespecial ix, 3))
    (hk : am_call mi' d kc ks (.ref o :: As) rest ls h (fun kc ks r h => am_W mi d Q kc ks (pc + 3) ls (r.toList ++ rest) h)) : am_W mi d Q kc ks pc ls st h := by
  intro p l e R s m args below meth c D tc ad ad0 h0 A H locs cells slots mc ms lsC hX hE hA hG hag hP hD hS hl
  obtain ⟨d', kc', ks', P, k1, k2, k3, k4, k5, k6⟩ := hk
  have hT := hX.2.2.2.2.2.2.2.1
  have hK := hX.2.2.2.2.2.2.2.2
  obtain ⟨g1, g2, g3, g4, g5, g6⟩ := id hG
  rw [am_stk hpop]
  refine am_run_go (P := P) (av := (Value.ref (ad o) :: As.map (am_v ad)).toArray) hX hE hA hG hag hD hS hl k2 k3 ?_ k6
  obtain ⟨z1, z2, z3, z4, z5, z6⟩ := am_bk (kc' := kc') (ks' := ks') hM hT k1 g1 g2
  have hB : Back l R p e below s args (am_y mi') 3 8 (PreOf R kc' ks' (va_Pc ((Value.ref o :: As).map (am_v ad)) (am_Pre D tc ad h H.size))) (PostOf (am_Q D tc (va_A (am_w ad tc h) H.size) h ad P) kc' ks' (va_A (am_w ad tc h) H.size)) :=
    back_of (bytes := am_code mi') (maxL := am_mL mi') (ret := am_ret mi') (k5 l D tc ad H.size) am_blind z1 z2 z3 z4 z5 z6 (fun a' U hW => hT.warm hW _ hM.2.1 a')
  obtain ⟨cellB, hcB, hoB, hclB⟩ := va_recv hK hP hq (am_w_at hc)
  obtain ⟨-, hfc, kB, hkB, -⟩ := hK.1 ci _ hq
  have hcc : D.1 ci = cellB.cls := Option.some.inj (hfc.symm.trans hclB)
  rw [hcc] at hkB
  intro T hTh X
  obtain ⟨mk, methM, hnamed, hmethM, hstM, habM⟩ := Cond.instanceMethod_spec (hT _ hin args)
  obtain ⟨methM', cM, hmethM', -, -, -, -, -, -, hsigM⟩ := Cond.code_spec hnamed (hT _ hM.1 args)
  cases hmethM.symm.trans hmethM'
  obtain ⟨ps, dk, kp, hps, hdk, hkp, hsuper, -, -, hnid⟩ := Cond.superclass_spec hX.2.2.2.2.1 (hT _ hsp args)
  have hn : s.methodNamed? ⟨(am_y mi').cls, xn.name, xn.desc⟩ = some mk := by rw [← hyn, ← hyd]; exact hnamed
  have hmc : s.vm.findClass (am_y mi').cls = some mk.cls := findClass_of_methodNamed hnamed
  have hsub : s.vm.isSubclass ps mk.cls = true := by
    rcases hsp2 with e1 | e1
    · rw [e1] at hps
      have hpm : ps = mk.cls := Option.some.inj (hps.symm.trans hmc)
      rw [hpm]; simp [Vm.isSubclass, Vm.isSubclassAux]
    · obtain ⟨ps2, dk2, kp2, hps2, hdk2, hkp2, hsuper2, -, -, -⟩ := Cond.superclass_spec hps (hT _ e1 args)
      cases hps2.symm.trans hmc
      exact am_sub2 hdk2 hsuper2
  have hlen : (As.map (am_v ad)).length = methM.sig.parameters.length := by rw [am_popl hpop]; exact am_pars hM.2.2.2.1 _ hsigM
  obtain ⟨vm₁, X₁, hstep₁⟩ := X.invokespecialUp hX.1 hX.2.2.2.2.1 (hT _ hlk args) (hT _ hsm args) hn hmethM hstM habM hno hdk hnid hps hsuper hsub (a := ad o) (cell := cellB) (by rw [hTh]; exact hcB)
    (fun z hz => by rw [hz] at hoB; cases hoB) hkB (g := F0 m pc lsC ((As.map (am_v ad)).reverse ++ .ref (ad o) :: rest.map (am_v ad))) rfl (argsL := As.map (am_v ad)) (rest := rest.map (am_v ad)) hlen rfl (by rw [hX.2.1]; exact hd)
  obtain ⟨v, ⟨U', l2, c2, s2⟩, X', ⟨g', mk', t, L, e1, e2, hq', h1, hL, h2, h3⟩, hsteps⟩ := hB m meth c ⟨T.setVm vm₁, locs, cells, slots⟩ { F0 m pc lsC ((As.map (am_v ad)).reverse ++ .ref (ad o) :: rest.map (am_v ad)) with stack := rest.map (am_v ad) } (.invokespecial ix) mk (Value.ref (ad o) :: As.map (am_v ad)).toArray X₁ rfl (by show lsC.size = _; rw [hX.2.2.2.1]; exact hl.1) (by rw [hX.2.1]; exact hd) (lv_room (by rw [am_cat_v]; exact k4)) (X₁.named hnamed) ⟨by show cells + kc' ≤ R.cells; omega, by show slots + ks' ≤ R.slots; omega, rfl, am_pre_ok hT hK hE hA hag hP hD hS (by exact hTh) X₁.warmed⟩
  dsimp only [Pt.U, Pt.locs, Pt.cells, Pt.slots] at X' e1 e2 h1 h2 h3 hsteps
  subst h1; subst h2; subst h3
  exact ⟨v, (T.setVm vm₁).calling g' mk' (Value.ref (ad o) :: As.map (am_v ad)).toArray, t, U', L, hTh, X', hL, e1, e2, hq', fun target hh => hstep₁ _ (by rw [doInvoke_state]; exact hsteps.trans hh)⟩
end AMC
end
section
/-! WHAT AN INSTRUCTION's ROW MUST SAY, and then: steps of the abstract machine are steps of the machine -/
def am_VU (tab : Nat → am_MI) (own : String) (ix a b : Nat) (q : vw_C) : Prop := ∃ (xn : MethodName) (owner : String), am_ML (tab a) b ∧ (parseMethodDescriptor xn.desc).map (fun d => d.parameters.length) = some b ∧ (owner ≠ "java/lang/invoke/MethodHandle" ∧ owner ≠ "java/lang/invoke/VarHandle") ∧ Cond.methodLink own ix xn ∈ am_gt ∧ Cond.sameMethod xn.cls owner xn.name xn.desc ∈ am_gt ∧ (Cond.declares ⟨owner, xn.name, xn.desc⟩ ∈ am_gt ∨ ∃ (bs : ByteArray) (n : Nat) (rt : Option FieldType), Cond.instanceMethod ⟨owner, xn.name, xn.desc⟩ ∈ am_gt ∧ Cond.code ⟨owner, xn.name, xn.desc⟩ bs n rt ∈ am_gt) ∧ Cond.instanceMethod (am_y (tab a)) ∈ am_gt ∧ Cond.selects q.1 xn (am_y (tab a)) ∈ am_gt
def am_SU (tab : Nat → am_MI) (own : String) (ix a b : Nat) : Prop := ∃ xn : MethodName, am_ML (tab a) b ∧ xn.name ≠ "<init>" ∧ (am_y (tab a)).name = xn.name ∧ (am_y (tab a)).desc = xn.desc ∧ Cond.methodLink own ix xn ∈ am_gt ∧ Cond.sameMethod xn.cls (am_y (tab a)).cls xn.name xn.desc ∈ am_gt ∧ Cond.superclass own xn.cls ∈ am_gt ∧ (xn.cls = (am_y (tab a)).cls ∨ Cond.superclass xn.cls (am_y (tab a)).cls ∈ am_gt) ∧ Cond.instanceMethod (am_y (tab a)) ∈ am_gt
def am_okI (tab : Nat → am_MI) (mi : am_MI) (pc len a b c : Nat) (k : Int32) (i : Instr) : Prop :=
  match i with
  | .iconst n => len = 1 ∧ Int32.ofInt n = k
  | .bipush n => len = 2 ∧ (Int8.ofInt n).toInt32 = k
  | .sipush n => len = 3 ∧ (Int16.ofInt n).toInt32 = k
  | .ldc ix => len = 2 ∧ match c with
    | 0 => Cond.constant (am_y mi).cls ix k ∈ am_gt
    | _ => (am_y mi).cls = "DeedProofs$RuleReader" ∧ (a = 0 ∧ ix = 56 ∨ a = 1 ∧ ix = 62 ∨ a = 2 ∧ ix = 75)
  | .ldc_w ix => len = 3 ∧ Cond.constant (am_y mi).cls ix k ∈ am_gt
  | .ldc2_w ix => len = 3 ∧ Cond.constantLong (am_y mi).cls ix k.toInt64 ∈ am_gt
  | .iload j => len = 2 ∧ j = a
  | .iload_n j => len = 1 ∧ (j : Nat) = a
  | .lload_n j => len = 1 ∧ (j : Nat) = a
  | .aload j => len = 2 ∧ j = a
  | .aload_n j => len = 1 ∧ (j : Nat) = a
  | .istore j => len = 2 ∧ j = a ∧ a < am_mL mi
  | .istore_n j => len = 1 ∧ (j : Nat) = a ∧ a < am_mL mi
  | .astore j => len = 2 ∧ j = a ∧ a < am_mL mi
  | .astore_n j => len = 1 ∧ (j : Nat) = a ∧ a < am_mL mi
  | .iinc j n => len = 3 ∧ j = a ∧ Int32.ofInt n = k ∧ a < am_mL mi
  | .goto off => len = 3 ∧ (pc : Int) + off = (a : Int)
  | .ifCond _ off => len = 3 ∧ (pc : Int) + off = (a : Int)
  | .if_icmp _ off => len = 3 ∧ (pc : Int) + off = (a : Int)
  | .ifnonnull off => len = 3 ∧ (pc : Int) + off = (a : Int)
  | .lookupswitch _ ps => (ps.toList.zip (ps.toList.drop 1)).all (fun (a, next) => a.1 < next.1) = true
  | .tableswitch .. => True
  | .getstatic ix => len = 3 ∧ (am_y mi).cls = "DeedProofs" ∧ Cond.fieldLink "DeedProofs" ix "DeedProofs" "ABOVE" "[I" ∈ am_gt
  | .getfield ix => len = 3 ∧ am_FL (am_y mi).cls ix a b
  | .putfield ix => len = 3 ∧ am_FP (am_y mi).cls (am_y mi).name ix a b
  | .arraylength => len = 1 ∧ match c with
    | 0 => a < 3
    | _ => a = 3 ∨ a = 4
  | .baload => len = 1 ∧ (a = 1 ∨ a = 2)
  | .bastore => len = 1 ∧ (a = 1 ∨ a = 2)
  | .aaload => len = 1 ∧ (a = 3 ∨ a = 4)
  | .new ix => len = 3 ∧ ∃ q : vw_C, am_cls[a]? = some q ∧ Cond.classLink (am_y mi).cls ix q.1 ∈ am_gt ∧ Cond.instantiable q.1 q.2.2 ∈ am_gt ∧ Cond.initialized q.1 ∈ am_gt
  | .newarray t => len = 2 ∧ (a = 0 ∧ t = .int ∨ a = 1 ∧ t = .byte ∨ a = 2 ∧ t = .boolean)
  | .anewarray ix => len = 3 ∧ (a = 3 ∧ Cond.classLink (am_y mi).cls ix "DeedProofs$Text" ∈ am_gt ∨ a = 4 ∧ Cond.classLink (am_y mi).cls ix "DeedProofs$Line" ∈ am_gt)
  | .areturn => len = 1 ∧ ∃ rt : FieldType, am_ret mi = some rt ∧ ((∃ n, rt = .object n) ∨ ∃ t, rt = .array t)
  | .return_ => len = 1 ∧ am_ret mi = none
  | .invokevirtual ix => len = 3 ∧ match c with
    | 0 => am_ML (tab a) b ∧ ∃ q : vw_C, am_cls[k.toInt.toNat]? = some q ∧ Cond.methodLink (am_y mi).cls ix (am_y (tab a)) ∈ am_gt ∧ Cond.instanceMethod (am_y (tab a)) ∈ am_gt ∧ Cond.selects q.1 (am_y (tab a)) (am_y (tab a)) ∈ am_gt
    | 1 => am_ML (tab a) b ∧ ∃ (q : vw_C) (host : String), am_cls[k.toInt.toNat]? = some q ∧ Cond.methodLinkNest (am_y mi).cls ix (am_y (tab a)) host ∈ am_gt ∧ Cond.instanceMethod (am_y (tab a)) ∈ am_gt ∧ Cond.selects q.1 (am_y (tab a)) (am_y (tab a)) ∈ am_gt
    | 2 => am_ML (tab a) b ∧ Cond.methodLink (am_y mi).cls ix (am_y (tab a)) ∈ am_gt ∧ Cond.instanceMethod (am_y (tab a)) ∈ am_gt ∧ Cond.selects "java/lang/String" (am_y (tab a)) (am_y (tab a)) ∈ am_gt
    | 3 => ∀ ci, (ci = 1 ∨ ci = 3 ∨ ci = 4 ∨ ci = 5 ∨ ci = 8) → ∃ q : vw_C, am_cls[ci]? = some q ∧ am_VU tab (am_y mi).cls ix (am_sel a ci) b q
    | _ => ∃ q : vw_C, am_cls[k.toInt.toNat]? = some q ∧ am_VU tab (am_y mi).cls ix a b q
  | .invokestatic ix => len = 3 ∧ match c with
    | 2 => a < 3 ∧ Cond.methodLink (am_y mi).cls ix arraycopyName ∈ am_gt
    | 1 => am_ML (tab a) b ∧ ∃ host : String, Cond.methodLinkNest (am_y mi).cls ix (am_y (tab a)) host ∈ am_gt ∧ Cond.static (am_y (tab a)) ∈ am_gt
    | _ => am_ML (tab a) b ∧ Cond.methodLink (am_y mi).cls ix (am_y (tab a)) ∈ am_gt ∧ Cond.static (am_y (tab a)) ∈ am_gt
  | .invokespecial ix => len = 3 ∧ match c with
    | 0 => am_ML (tab a) b ∧ am_ret (tab a) = none ∧ (am_y (tab a)).name = "<init>" ∧ Cond.methodLink (am_y mi).cls ix (am_y (tab a)) ∈ am_gt ∧ Cond.instanceMethod (am_y (tab a)) ∈ am_gt
    | 1 => am_ML (tab a) b ∧ am_ret (tab a) = none ∧ (am_y (tab a)).name = "<init>" ∧ ∃ host : String, Cond.methodLinkNest (am_y mi).cls ix (am_y (tab a)) host ∈ am_gt ∧ Cond.instanceMethod (am_y (tab a)) ∈ am_gt
    | 2 => b = 0 ∧ Cond.methodLink (am_y mi).cls ix objectInit ∈ am_gt
    | _ => (∀ (ci : Nat), ∀ c : am_C, (∃ fs, c = .inr (.inr (ci, fs))) → True) ∧ am_SU tab (am_y mi).cls ix a b
  | _ => len = 1
theorem am_call_mono {mi : am_MI} {d kc ks : Nat} {args rest : List Value} {ls : am_L} {h : am_H} {go go' : Nat → Nat → Option Value → am_H → Prop} (hg : ∀ kc ks r h, go kc ks r h → go' kc ks r h) (hc : am_call mi d kc ks args rest ls h go) : am_call mi d kc ks args rest ls h go' := by
  obtain ⟨d', kc', ks', P, k1, k2, k3, k4, k5, k6⟩ := hc
  exact ⟨d', kc', ks', P, k1, k2, k3, k4, k5, fun r h' hp => ⟨(k6 r h' hp).1, hg _ _ _ _ (k6 r h' hp).2⟩⟩
theorem am_br_mono {co : ClassFile.Cond} {x y : Int32} {T F T' F' : Prop} (hT : T → T') (hF : F → F') (hb : am_br co x y T F) : am_br co x y T' F' := by
  cases co <;> exact ⟨fun z => hT (hb.1 z), fun z => hF (hb.2 z)⟩
set_option maxHeartbeats 4000000 in
theorem am_do_ok {tab : Nat → am_MI} {mi : am_MI} {d : Nat} {Q : Option Value → am_H → Prop} {K : am_K} {kc ks pc : Nat} {ls : am_L} {st : List Value} {h : am_H} {len a b c : Nat} {k : Int32} {i : Instr} (hK : ∀ kc ks pc ls st h, K kc ks pc ls st h → am_W mi d Q kc ks pc ls st h)
    (hd : decode (am_code mi) pc = .ok (i, len)) (hok : am_okI tab mi pc len a b c k i) (hw : am_do tab mi d Q K kc ks pc ls st h len a b c k i) : am_W mi d Q kc ks pc ls st h := by
  cases i
  case iconst n =>
    obtain ⟨rfl, hv⟩ := hok
    exact am_s_iconst hv hd (hK _ _ _ _ _ _ hw)
  case bipush n =>
    obtain ⟨rfl, hv⟩ := hok
    exact am_s_bipush hv hd (hK _ _ _ _ _ _ hw)
  case sipush n =>
    obtain ⟨rfl, hv⟩ := hok
    exact am_s_sipush hv hd (hK _ _ _ _ _ _ hw)
  case ldc ix =>
    obtain ⟨rfl, hv⟩ := hok
    dsimp only [am_do] at hw
    cases c with
    | zero => exact am_s_ldc hv hd (hK _ _ _ _ _ _ hw)
    | succ c =>
      obtain ⟨ho, ⟨rfl, rfl⟩ | ⟨rfl, rfl⟩ | ⟨rfl, rfl⟩⟩ := hv
      · exact am_s_str0 ho hd (hK _ _ _ _ _ _ hw)
      · exact am_s_str1 ho hd (hK _ _ _ _ _ _ hw)
      · exact am_s_str2 ho hd (hK _ _ _ _ _ _ hw)
  case ldc_w ix =>
    obtain ⟨rfl, hv⟩ := hok
    exact am_s_ldcw hv hd (hK _ _ _ _ _ _ hw)
  case ldc2_w ix =>
    obtain ⟨rfl, hv⟩ := hok
    exact am_s_ldc2 hv hd (hK _ _ _ _ _ _ hw)
  case aconst_null =>
    cases hok
    exact am_s_null hd (hK _ _ _ _ _ _ hw)
  case iload j =>
    obtain ⟨rfl, rfl⟩ := hok
    dsimp only [am_do] at hw
    split at hw
    · rename_i hx; exact am_s_iload hx hd (hK _ _ _ _ _ _ hw)
    · exact hw.elim
  case iload_n j =>
    obtain ⟨rfl, hv⟩ := hok
    dsimp only [am_do] at hw
    split at hw
    · rename_i hx; exact am_s_iload_n hx hd hv (hK _ _ _ _ _ _ hw)
    · exact hw.elim
  case lload_n j =>
    obtain ⟨rfl, hv⟩ := hok
    dsimp only [am_do] at hw
    split at hw
    · rename_i hx; exact am_s_lload_n hx hd hv (hK _ _ _ _ _ _ hw)
    · exact hw.elim
  case aload j =>
    obtain ⟨rfl, rfl⟩ := hok
    dsimp only [am_do] at hw
    split at hw
    · rename_i hx; exact am_s_aload hx hd (hK _ _ _ _ _ _ hw)
    · rename_i hx; exact am_s_aloadN hx hd (hK _ _ _ _ _ _ hw)
    · exact hw.elim
  case aload_n j =>
    obtain ⟨rfl, hv⟩ := hok
    dsimp only [am_do] at hw
    split at hw
    · rename_i hx; exact am_s_aload_n hx hd hv (hK _ _ _ _ _ _ hw)
    · rename_i hx; exact am_s_aload_nN hx hd hv (hK _ _ _ _ _ _ hw)
    · exact hw.elim
  case istore j =>
    obtain ⟨rfl, rfl, hm⟩ := hok
    dsimp only [am_do] at hw
    split at hw
    · rename_i hx; exact am_s_istore hx hm hd (hK _ _ _ _ _ _ hw)
    · exact hw.elim
  case istore_n j =>
    obtain ⟨rfl, hv, hm⟩ := hok
    dsimp only [am_do] at hw
    split at hw
    · rename_i hx; exact am_s_istore_n hx hm hd hv (hK _ _ _ _ _ _ hw)
    · exact hw.elim
  case astore j =>
    obtain ⟨rfl, rfl, hm⟩ := hok
    dsimp only [am_do] at hw
    split at hw
    · rename_i hx; exact am_s_astore hx hm hd (hK _ _ _ _ _ _ hw)
    · exact hw.elim
  case astore_n j =>
    obtain ⟨rfl, hv, hm⟩ := hok
    dsimp only [am_do] at hw
    split at hw
    · rename_i hx; exact am_s_astore_n hx hm hd hv (hK _ _ _ _ _ _ hw)
    · exact hw.elim
  case iinc j n =>
    obtain ⟨rfl, rfl, hv, hm⟩ := hok
    dsimp only [am_do] at hw
    split at hw
    · rename_i hx1 hx2; exact am_s_iinc hx1 hm hv hx2 hd (hK _ _ _ _ _ _ hw)
    · exact hw.elim
  case iadd =>
    cases hok
    dsimp only [am_do] at hw
    split at hw
    · exact am_s_iadd hd (hK _ _ _ _ _ _ hw)
    · exact hw.elim
  case isub =>
    cases hok
    dsimp only [am_do] at hw
    split at hw
    · exact am_s_isub hd (hK _ _ _ _ _ _ hw)
    · exact hw.elim
  case imul =>
    cases hok
    dsimp only [am_do] at hw
    split at hw
    · exact am_s_imul hd (hK _ _ _ _ _ _ hw)
    · exact hw.elim
  case iand =>
    cases hok
    dsimp only [am_do] at hw
    split at hw
    · exact am_s_iand hd (hK _ _ _ _ _ _ hw)
    · exact hw.elim
  case ior =>
    cases hok
    dsimp only [am_do] at hw
    split at hw
    · exact am_s_ior hd (hK _ _ _ _ _ _ hw)
    · exact hw.elim
  case ixor =>
    cases hok
    dsimp only [am_do] at hw
    split at hw
    · exact am_s_ixor hd (hK _ _ _ _ _ _ hw)
    · exact hw.elim
  case ishl =>
    cases hok
    dsimp only [am_do] at hw
    split at hw
    · exact am_s_ishl hd (hK _ _ _ _ _ _ hw)
    · exact hw.elim
  case ishr =>
    cases hok
    dsimp only [am_do] at hw
    split at hw
    · exact am_s_ishr hd (hK _ _ _ _ _ _ hw)
    · exact hw.elim
  case iushr =>
    cases hok
    dsimp only [am_do] at hw
    split at hw
    · exact am_s_iushr hd (hK _ _ _ _ _ _ hw)
    · exact hw.elim
  case ineg =>
    cases hok
    dsimp only [am_do] at hw
    split at hw
    · exact am_s_ineg hd (hK _ _ _ _ _ _ hw)
    · exact hw.elim
  case land =>
    cases hok
    dsimp only [am_do] at hw
    split at hw
    · exact am_s_land hd (hK _ _ _ _ _ _ hw)
    · exact hw.elim
  case lshr =>
    cases hok
    dsimp only [am_do] at hw
    split at hw
    · exact am_s_lshr hd (hK _ _ _ _ _ _ hw)
    · exact hw.elim
  case lushr =>
    cases hok
    dsimp only [am_do] at hw
    split at hw
    · exact am_s_lushr hd (hK _ _ _ _ _ _ hw)
    · exact hw.elim
  case l2i =>
    cases hok
    dsimp only [am_do] at hw
    split at hw
    · exact am_s_l2i hd (hK _ _ _ _ _ _ hw)
    · exact hw.elim
  case i2b =>
    cases hok
    dsimp only [am_do] at hw
    split at hw
    · exact am_s_i2b hd (hK _ _ _ _ _ _ hw)
    · exact hw.elim
  case i2c =>
    cases hok
    dsimp only [am_do] at hw
    split at hw
    · exact am_s_i2c hd (hK _ _ _ _ _ _ hw)
    · exact hw.elim
  case idiv =>
    cases hok
    dsimp only [am_do] at hw
    split at hw
    · exact am_s_idiv hw.1 hd (hK _ _ _ _ _ _ hw.2)
    · exact hw.elim
  case irem =>
    cases hok
    dsimp only [am_do] at hw
    split at hw
    · exact am_s_irem hw.1 hd (hK _ _ _ _ _ _ hw.2)
    · exact hw.elim
  case dup =>
    cases hok
    dsimp only [am_do] at hw
    split at hw
    · exact am_s_dupi hd (hK _ _ _ _ _ _ hw)
    · exact am_s_dupr hd (hK _ _ _ _ _ _ hw)
    · exact hw.elim
  case dup2 =>
    cases hok
    dsimp only [am_do] at hw
    split at hw
    · exact am_s_dup2 hd (hK _ _ _ _ _ _ hw)
    · exact hw.elim
  case pop =>
    cases hok
    dsimp only [am_do] at hw
    split at hw
    · exact am_s_popi hd (hK _ _ _ _ _ _ hw)
    · exact am_s_popr hd (hK _ _ _ _ _ _ hw)
    · exact hw.elim
  case goto off =>
    obtain ⟨rfl, hv⟩ := hok
    exact am_s_goto hv hd (hK _ _ _ _ _ _ hw)
  case ifCond co off =>
    obtain ⟨rfl, hv⟩ := hok
    dsimp only [am_do] at hw
    split at hw
    · exact am_s_if hv hd (am_br_mono (hK _ _ _ _ _ _) (hK _ _ _ _ _ _) hw)
    · exact hw.elim
  case if_icmp co off =>
    obtain ⟨rfl, hv⟩ := hok
    dsimp only [am_do] at hw
    split at hw
    · exact am_s_icmp hv hd (am_br_mono (hK _ _ _ _ _ _) (hK _ _ _ _ _ _) hw)
    · exact hw.elim
  case ifnonnull off =>
    obtain ⟨rfl, hv⟩ := hok
    dsimp only [am_do] at hw
    split at hw
    · exact am_s_nonnull hv hd (hK _ _ _ _ _ _ hw)
    · exact am_s_nonnullN hd (hK _ _ _ _ _ _ hw)
    · exact hw.elim
  case tableswitch dflt lo hi offs =>
    dsimp only [am_do] at hw
    split at hw
    · obtain ⟨tgt, ⟨h1, h2⟩ | ⟨h1, h2, off, h3, h4⟩, hw⟩ := hw
      · exact am_s_tabO h1 h2 hd (hK _ _ _ _ _ _ hw)
      · exact am_s_tabI h1 h2 h3 h4 hd (hK _ _ _ _ _ _ hw)
    · exact hw.elim
  case lookupswitch dflt ps =>
    dsimp only [am_do] at hw
    split at hw
    · obtain ⟨tgt, h1, hw⟩ := hw
      exact am_s_look hok h1 hd (hK _ _ _ _ _ _ hw)
    · exact hw.elim
  case getstatic ix =>
    obtain ⟨rfl, h1, h2⟩ := hok
    exact am_s_above h1 h2 hd (hK _ _ _ _ _ _ hw)
  case getfield ix =>
    obtain ⟨rfl, h1⟩ := hok
    dsimp only [am_do] at hw
    split at hw
    · obtain ⟨fs, v, h2, h3, hw⟩ := hw
      exact am_s_get h1 h2 h3 hd (hK _ _ _ _ _ _ hw)
    · exact hw.elim
  case putfield ix =>
    obtain ⟨rfl, h1⟩ := hok
    dsimp only [am_do] at hw
    split at hw
    · obtain ⟨fs, h2, h3, h4, hw⟩ := hw
      exact am_s_put h1 h2 h3 h4 hd (hK _ _ _ _ _ _ hw)
    · exact hw.elim
  case arraylength =>
    obtain ⟨rfl, h1⟩ := hok
    dsimp only [am_do] at hw
    split at hw
    · cases c with
      | zero => obtain ⟨n, f, h2, hw⟩ := hw; exact am_s_len h1 h2 hd (hK _ _ _ _ _ _ hw)
      | succ c => obtain ⟨n, f, h2, hw⟩ := hw; exact am_s_lenq h1 h2 hd (hK _ _ _ _ _ _ hw)
    · exact hw.elim
  case iaload =>
    cases hok
    dsimp only [am_do] at hw
    split at hw
    · cases c with
      | zero => obtain ⟨n, f, h2, h3, hw⟩ := hw; exact am_s_iald h2 h3 hd (hK _ _ _ _ _ _ hw)
      | succ c => obtain ⟨rfl, h3, hw⟩ := hw; exact am_s_abald h3 hd (hK _ _ _ _ _ _ hw)
    · exact hw.elim
  case baload =>
    obtain ⟨rfl, h1⟩ := hok
    dsimp only [am_do] at hw
    split at hw
    · obtain ⟨n, f, h2, h3, hw⟩ := hw
      exact am_s_bald h1 h2 h3 hd (hK _ _ _ _ _ _ hw)
    · exact hw.elim
  case iastore =>
    cases hok
    dsimp only [am_do] at hw
    split at hw
    · obtain ⟨n, f, h2, h3, hw⟩ := hw
      exact am_s_iast h2 h3 hd (hK _ _ _ _ _ _ hw)
    · exact hw.elim
  case bastore =>
    obtain ⟨rfl, h1⟩ := hok
    dsimp only [am_do] at hw
    split at hw
    · obtain ⟨n, f, h2, h3, hw⟩ := hw
      exact am_s_bast h1 h2 h3 hd (hK _ _ _ _ _ _ hw)
    · exact hw.elim
  case aaload =>
    obtain ⟨rfl, h1⟩ := hok
    dsimp only [am_do] at hw
    split at hw
    · obtain ⟨n, f, j, h2, h3, h4, hw⟩ := hw
      exact am_s_aald h1 h2 h3 h4 hd (hK _ _ _ _ _ _ hw)
    · exact hw.elim
  case aastore =>
    cases hok
    dsimp only [am_do] at hw
    split at hw
    · obtain ⟨n, f, ci, fs, h2, h3, h4, h5, hw⟩ := hw
      exact am_s_aast h4 h2 h3 h5 hd (hK _ _ _ _ _ _ hw)
    · exact hw.elim
  case new ix =>
    obtain ⟨rfl, h1⟩ := hok
    dsimp only [am_do] at hw
    obtain ⟨k1, k2, k3, k4, hw⟩ := hw
    exact am_s_new h1 k1 k2 k3 k4 hd (hK _ _ _ _ _ _ hw)
  case newarray t =>
    obtain ⟨rfl, h1⟩ := hok
    dsimp only [am_do] at hw
    split at hw
    · obtain ⟨k1, k2, k3, k4, k5, k6, hw⟩ := hw
      exact am_s_newa h1 k1 k2 k3 k4 k5 k6 hd (hK _ _ _ _ _ _ hw)
    · exact hw.elim
  case anewarray ix =>
    obtain ⟨rfl, h1⟩ := hok
    dsimp only [am_do] at hw
    split at hw
    · obtain ⟨k1, k2, k3, k4, k5, k6, hw⟩ := hw
      exact am_s_newq h1 k1 k2 k3 k4 k5 k6 hd (hK _ _ _ _ _ _ hw)
    · exact hw.elim
  case ireturn =>
    cases hok
    dsimp only [am_do] at hw
    split at hw
    · obtain ⟨h1, h2⟩ := hw
      split at h1
      · rename_i hr; exact am_s_iret hr rfl hd h2
      · rename_i hr; exact am_s_iret hr h1 hd h2
      · exact h1.elim
    · exact hw.elim
  case areturn =>
    obtain ⟨rfl, rt, h1, h2⟩ := hok
    dsimp only [am_do] at hw
    split at hw
    · exact am_s_aret h1 h2 hd hw
    · exact hw.elim
  case return_ =>
    obtain ⟨rfl, h1⟩ := hok
    dsimp only [am_do] at hw
    split at hw
    · exact am_s_vret h1 hd hw
    · exact hw.elim
  case invokevirtual ix =>
    obtain ⟨rfl, h1⟩ := hok
    dsimp only [am_do] at hw
    split at hw
    · rename_i hp
      split at hw
      · obtain ⟨h1, q, h2, h3, h4, h5⟩ := h1
        obtain ⟨fs, h6, hw⟩ := hw
        exact am_s_callV h2 h1 h3 h4 h5 hp h6 hd (am_call_mono (fun _ _ _ _ z => hK _ _ _ _ _ _ z) hw)
      · obtain ⟨h1, q, host, h2, h3, h4, h5⟩ := h1
        obtain ⟨fs, h6, hw⟩ := hw
        exact am_s_callVN h2 h1 h3 h4 h5 hp h6 hd (am_call_mono (fun _ _ _ _ z => hK _ _ _ _ _ _ z) hw)
      · obtain ⟨h1, h3, h4, h5⟩ := h1
        obtain ⟨h6, h7, hw⟩ := hw
        exact am_s_callT h1 h3 h4 h5 hp h6 h7 hd (am_call_mono (fun _ _ _ _ z => hK _ _ _ _ _ _ z) hw)
      · obtain ⟨ci, fs, h6, h7, hw⟩ := hw
        obtain ⟨q, h2, xn, owner, u1, u2, u3, u4, u5, u6, u7, u8⟩ := h1 ci h7
        exact am_s_callU h2 u1 u2 u3 u4 u5 u6 u7 u8 hp h6 hd (am_call_mono (fun _ _ _ _ z => hK _ _ _ _ _ _ z) hw)
      · rename_i n0 n1 n2 n3
        obtain ⟨fs, h6, hw⟩ := hw
        have h1' : ∃ q : vw_C, am_cls[k.toInt.toNat]? = some q ∧ am_VU tab (am_y mi).cls ix a b q := by
          revert h1; split <;> first | (intro h1; exact h1) | (intro h1; exact absurd rfl (by assumption))
        obtain ⟨q, h2, xn, owner, u1, u2, u3, u4, u5, u6, u7, u8⟩ := h1'
        exact am_s_callU h2 u1 u2 u3 u4 u5 u6 u7 u8 hp h6 hd (am_call_mono (fun _ _ _ _ z => hK _ _ _ _ _ _ z) hw)
    · exact hw.elim
  case invokestatic ix =>
    obtain ⟨rfl, h1⟩ := hok
    dsimp only [am_do] at hw
    split at hw
    · split at hw
      · obtain ⟨n0, n1, f, g, k1, k2, k3, k4, k5, k6, k7, k8, k9, k10, hw⟩ := hw
        exact am_s_copy h1.1 h1.2 k1 k2 k3 k4 k5 k6 k7 k8 k9 k10 hd (hK _ _ _ _ _ _ hw)
      · exact hw.elim
    · rename_i n2
      split at hw
      · rename_i hp
        revert h1; split
        · exact absurd rfl n2
        · rintro ⟨h1, host, h3, h4⟩; exact am_s_callSN h1 h3 h4 hp hd (am_call_mono (fun _ _ _ _ z => hK _ _ _ _ _ _ z) hw)
        · rintro ⟨h1, h3, h4⟩; exact am_s_callS h1 h3 h4 hp hd (am_call_mono (fun _ _ _ _ z => hK _ _ _ _ _ _ z) hw)
      · exact hw.elim
  case invokespecial ix =>
    obtain ⟨rfl, h1⟩ := hok
    dsimp only [am_do] at hw
    split at hw
    · rename_i hp
      split at hw
      · obtain ⟨h1, h2, h3, h4, h5⟩ := h1
        exact am_s_callI h1 h2 h3 h4 h5 hp hd (am_call_mono (fun _ _ _ _ z => hK _ _ _ _ _ _ z) hw)
      · obtain ⟨h1, h2, h3, host, h4, h5⟩ := h1
        exact am_s_callIN h1 h2 h3 h4 h5 hp hd (am_call_mono (fun _ _ _ _ z => hK _ _ _ _ _ _ z) hw)
      · obtain ⟨rfl, h4⟩ := h1
        obtain ⟨h5, h6, hw⟩ := hw
        cases hp
        exact am_s_objInit h4 h5 h6 hd (hK _ _ _ _ _ _ hw)
      · obtain ⟨ci, fs, q, h2, h6, hw⟩ := hw
        have h1' : am_SU tab (am_y mi).cls ix a b := by
          revert h1; split <;> first | (intro h1; exact h1.2) | (intro h1; exact absurd rfl (by assumption))
        obtain ⟨xn, u1, u2, u3, u4, u5, u6, u7, u8, u9⟩ := h1'
        exact am_s_callSU h2 u1 u2 u3 u4 u5 u6 u7 u8 u9 hp h6 hd (am_call_mono (fun _ _ _ _ z => hK _ _ _ _ _ _ z) hw)
    · exact hw.elim
  all_goals exact hw.elim
def am_ok (tab : Nat → am_MI) (mi : am_MI) : Prop := ∀ (pc len a b c : Nat) (k : Int32) (i : Instr), am_nth (am_ins mi) pc = some (some (i, len, a, b, c, k)) → decode (am_code mi) pc = .ok (i, len) ∧ am_okI tab mi pc len a b c k i
theorem am_go {tab : Nat → am_MI} {mi : am_MI} {d : Nat} {Q : Option Value → am_H → Prop} (hok : am_ok tab mi) : ∀ (n kc ks pc : Nat) (ls : am_L) (st : List Value) (h : am_H), am_wp tab mi d Q n kc ks pc ls st h → am_W mi d Q kc ks pc ls st h
  | 0, _, _, _, _, _, _, hw => hw
  | n + 1, kc, ks, pc, ls, st, h, hw => by
    dsimp only [am_wp] at hw
    split at hw
    · rename_i i len a b c k hi
      obtain ⟨h1, h2⟩ := hok pc len a b c k i hi
      exact am_do_ok (am_go hok n) h1 h2 hw
    · exact hw.elim
end
section
/-! the methods' instructions, by program out of the claim's bytecode -/
def RJ6 : String := "java/lang/Integer"
def RJ9 : String := "java/lang/Math"
def RJ0 : String := "java/lang/String"
def RJ7 : String := "java/util/Arrays"
abbrev cJ6_bitCount_0f7a4 : ByteArray := prog_15_method_49_code
def yJ6_bitCount_0f7a4 : MethodName := ⟨RJ6, "bitCount", "(I)I"⟩
abbrev cJ9_max_7cf53 : ByteArray := prog_16_method_65_code
def yJ9_max_7cf53 : MethodName := ⟨RJ9, "max", "(II)I"⟩
abbrev cJ9_min_7cf53 : ByteArray := prog_16_method_69_code
def yJ9_min_7cf53 : MethodName := ⟨RJ9, "min", "(II)I"⟩
abbrev cJ0_length_8abf5 : ByteArray := prog_17_method_54_code
def yJ0_length_8abf5 : MethodName := ⟨RJ0, "length", "()I"⟩
abbrev cJ0_charAt_5068e : ByteArray := prog_17_method_56_code
def yJ0_charAt_5068e : MethodName := ⟨RJ0, "charAt", "(I)C"⟩
abbrev cJ7_fill_53178 : ByteArray := prog_21_method_103_code
def yJ7_fill_53178 : MethodName := ⟨RJ7, "fill", "([II)V"⟩
def mi_X0_init : am_MI := (yX0_init, cX0_init, 2, none, [
  some (.aload_n 0, 1, 0, 0, 0, 0), some (.invokespecial 3, 3, 0, 0, 2, 0), none, none, some (.aload_n 0, 1, 0, 0, 0, 0), some (.bipush 8, 2, 0, 0, 0, 8),
  none, some (.newarray .int, 2, 0, 0, 0, 0), none, some (.putfield 9, 3, 0, 0, 0, 0), none, none,
  some (.aload_n 0, 1, 0, 0, 0, 0), some (.bipush 120, 2, 0, 0, 0, 120), none, some (.newarray .byte, 2, 1, 0, 0, 0), none, some (.putfield 15, 3, 0, 1, 0, 0),
  none, none, some (.aload_n 0, 1, 0, 0, 0, 0), some (.bipush 20, 2, 0, 0, 0, 20), none, some (.anewarray 19, 3, 3, 0, 0, 0),
  none, none, some (.putfield 21, 3, 0, 2, 0, 0), none, none, some (.aload_n 0, 1, 0, 0, 0, 0),
  some (.bipush 12, 2, 0, 0, 0, 12), none, some (.newarray .int, 2, 0, 0, 0, 0), none, some (.putfield 25, 3, 0, 3, 0, 0), none,
  none, some (.aload_n 0, 1, 0, 0, 0, 0), some (.bipush 12, 2, 0, 0, 0, 12), none, some (.newarray .int, 2, 0, 0, 0, 0), none,
  some (.putfield 28, 3, 0, 4, 0, 0), none, none, some (.aload_n 0, 1, 0, 0, 0, 0), some (.bipush 20, 2, 0, 0, 0, 20), none,
  some (.newarray .int, 2, 0, 0, 0, 0), none, some (.putfield 31, 3, 0, 5, 0, 0), none, none, some (.aload_n 0, 1, 0, 0, 0, 0),
  some (.bipush 20, 2, 0, 0, 0, 20), none, some (.newarray .int, 2, 0, 0, 0, 0), none, some (.putfield 34, 3, 0, 6, 0, 0), none,
  none, some (.aload_n 0, 1, 0, 0, 0, 0), some (.iconst 0, 1, 0, 0, 0, 0), some (.putfield 37, 3, 0, 7, 0, 0), none, none,
  some (.aload_n 0, 1, 0, 0, 0, 0), some (.bipush 12, 2, 0, 0, 0, 12), none, some (.newarray .int, 2, 0, 0, 0, 0), none, some (.putfield 41, 3, 0, 8, 0, 0),
  none, none, some (.aload_n 0, 1, 0, 0, 0, 0), some (.bipush 12, 2, 0, 0, 0, 12), none, some (.newarray .int, 2, 0, 0, 0, 0),
  none, some (.putfield 44, 3, 0, 9, 0, 0), none, none, some (.aload_n 0, 1, 0, 0, 0, 0), some (.sipush 864, 3, 0, 0, 0, 864),
  none, none, some (.newarray .int, 2, 0, 0, 0, 0), none, some (.putfield 47, 3, 0, 10, 0, 0), none,
  none, some (.aload_n 0, 1, 0, 0, 0, 0), some (.bipush 10, 2, 0, 0, 0, 10), none, some (.newarray .int, 2, 0, 0, 0, 0), none,
  some (.putfield 50, 3, 0, 11, 0, 0), none, none, some (.aload_n 0, 1, 0, 0, 0, 0), some (.bipush 10, 2, 0, 0, 0, 10), none,
  some (.newarray .int, 2, 0, 0, 0, 0), none, some (.putfield 53, 3, 0, 12, 0, 0), none, none, some (.aload_n 0, 1, 0, 0, 0, 0),
  some (.bipush 10, 2, 0, 0, 0, 10), none, some (.newarray .int, 2, 0, 0, 0, 0), none, some (.putfield 56, 3, 0, 13, 0, 0), none,
  none, some (.aload_n 0, 1, 0, 0, 0, 0), some (.bipush 6, 2, 0, 0, 0, 6), none, some (.newarray .int, 2, 0, 0, 0, 0), none,
  some (.putfield 59, 3, 0, 14, 0, 0), none, none, some (.aload_n 0, 1, 0, 0, 0, 0), some (.sipush 720, 3, 0, 0, 0, 720), none,
  none, some (.newarray .byte, 2, 1, 0, 0, 0), none, some (.putfield 62, 3, 0, 15, 0, 0), none, none,
  some (.aload_n 0, 1, 0, 0, 0, 0), some (.sipush 750, 3, 0, 0, 0, 750), none, none, some (.newarray .boolean, 2, 2, 0, 0, 0), none,
  some (.putfield 65, 3, 0, 16, 0, 0), none, none, some (.aload_n 0, 1, 0, 0, 0, 0), some (.iconst 0, 1, 0, 0, 0, 0), some (.putfield 69, 3, 0, 17, 0, 0),
  none, none, some (.iconst 0, 1, 0, 0, 0, 0), some (.istore_n 1, 1, 1, 0, 0, 0), some (.iload_n 1, 1, 1, 0, 0, 0), some (.aload_n 0, 1, 0, 0, 0, 0),
  some (.getfield 21, 3, 0, 2, 0, 0), none, none, some (.arraylength, 1, 3, 0, 1, 0), some (.if_icmp .ge 22, 3, 176, 0, 0, 0), none,
  none, some (.aload_n 0, 1, 0, 0, 0, 0), some (.getfield 21, 3, 0, 2, 0, 0), none, none, some (.iload_n 1, 1, 1, 0, 0, 0),
  some (.new 19, 3, 10, 0, 0, 0), none, none, some (.dup, 1, 0, 0, 0, 0), some (.invokespecial 73, 3, 68, 0, 1, 0), none,
  none, some (.aastore, 1, 3, 0, 0, 0), some (.iinc 1 1, 3, 1, 0, 0, 1), none, none, some (.goto (-25), 3, 148, 0, 0, 0),
  none, none, some (.return_, 1, 0, 0, 0, 0)
  ])
def mi_X0_become : am_MI := (yX0_become, cX0_become, 3, none, [
  some (.aload_n 1, 1, 1, 0, 0, 0), some (.getfield 9, 3, 0, 0, 0, 0), none, none, some (.iconst 0, 1, 0, 0, 0, 0), some (.aload_n 0, 1, 0, 0, 0, 0),
  some (.getfield 9, 3, 0, 0, 0, 0), none, none, some (.iconst 0, 1, 0, 0, 0, 0), some (.aload_n 0, 1, 0, 0, 0, 0), some (.getfield 9, 3, 0, 0, 0, 0),
  none, none, some (.arraylength, 1, 0, 0, 0, 0), some (.invokestatic 74, 3, 0, 0, 2, 0), none, none,
  some (.aload_n 1, 1, 1, 0, 0, 0), some (.getfield 15, 3, 0, 1, 0, 0), none, none, some (.iconst 0, 1, 0, 0, 0, 0), some (.aload_n 0, 1, 0, 0, 0, 0),
  some (.getfield 15, 3, 0, 1, 0, 0), none, none, some (.iconst 0, 1, 0, 0, 0, 0), some (.aload_n 0, 1, 0, 0, 0, 0), some (.getfield 15, 3, 0, 1, 0, 0),
  none, none, some (.arraylength, 1, 1, 0, 0, 0), some (.invokestatic 74, 3, 1, 0, 2, 0), none, none,
  some (.iconst 0, 1, 0, 0, 0, 0), some (.istore_n 2, 1, 2, 0, 0, 0), some (.iload_n 2, 1, 2, 0, 0, 0), some (.aload_n 0, 1, 0, 0, 0, 0), some (.getfield 21, 3, 0, 2, 0, 0), none,
  none, some (.arraylength, 1, 3, 0, 1, 0), some (.if_icmp .ge 24, 3, 68, 0, 0, 0), none, none, some (.aload_n 0, 1, 0, 0, 0, 0),
  some (.getfield 21, 3, 0, 2, 0, 0), none, none, some (.iload_n 2, 1, 2, 0, 0, 0), some (.aaload, 1, 3, 0, 0, 0), some (.aload_n 1, 1, 1, 0, 0, 0),
  some (.getfield 21, 3, 0, 2, 0, 0), none, none, some (.iload_n 2, 1, 2, 0, 0, 0), some (.aaload, 1, 3, 0, 0, 0), some (.invokevirtual 80, 3, 74, 1, 1, 10),
  none, none, some (.iinc 2 1, 3, 2, 0, 0, 1), none, none, some (.goto (-27), 3, 38, 0, 0, 0),
  none, none, some (.aload_n 1, 1, 1, 0, 0, 0), some (.getfield 25, 3, 0, 3, 0, 0), none, none,
  some (.iconst 0, 1, 0, 0, 0, 0), some (.aload_n 0, 1, 0, 0, 0, 0), some (.getfield 25, 3, 0, 3, 0, 0), none, none, some (.iconst 0, 1, 0, 0, 0, 0),
  some (.aload_n 0, 1, 0, 0, 0, 0), some (.getfield 25, 3, 0, 3, 0, 0), none, none, some (.arraylength, 1, 0, 0, 0, 0), some (.invokestatic 74, 3, 0, 0, 2, 0),
  none, none, some (.aload_n 1, 1, 1, 0, 0, 0), some (.getfield 28, 3, 0, 4, 0, 0), none, none,
  some (.iconst 0, 1, 0, 0, 0, 0), some (.aload_n 0, 1, 0, 0, 0, 0), some (.getfield 28, 3, 0, 4, 0, 0), none, none, some (.iconst 0, 1, 0, 0, 0, 0),
  some (.aload_n 0, 1, 0, 0, 0, 0), some (.getfield 28, 3, 0, 4, 0, 0), none, none, some (.arraylength, 1, 0, 0, 0, 0), some (.invokestatic 74, 3, 0, 0, 2, 0),
  none, none, some (.aload_n 1, 1, 1, 0, 0, 0), some (.getfield 31, 3, 0, 5, 0, 0), none, none,
  some (.iconst 0, 1, 0, 0, 0, 0), some (.aload_n 0, 1, 0, 0, 0, 0), some (.getfield 31, 3, 0, 5, 0, 0), none, none, some (.iconst 0, 1, 0, 0, 0, 0),
  some (.aload_n 0, 1, 0, 0, 0, 0), some (.getfield 31, 3, 0, 5, 0, 0), none, none, some (.arraylength, 1, 0, 0, 0, 0), some (.invokestatic 74, 3, 0, 0, 2, 0),
  none, none, some (.aload_n 1, 1, 1, 0, 0, 0), some (.getfield 34, 3, 0, 6, 0, 0), none, none,
  some (.iconst 0, 1, 0, 0, 0, 0), some (.aload_n 0, 1, 0, 0, 0, 0), some (.getfield 34, 3, 0, 6, 0, 0), none, none, some (.iconst 0, 1, 0, 0, 0, 0),
  some (.aload_n 0, 1, 0, 0, 0, 0), some (.getfield 34, 3, 0, 6, 0, 0), none, none, some (.arraylength, 1, 0, 0, 0, 0), some (.invokestatic 74, 3, 0, 0, 2, 0),
  none, none, some (.aload_n 0, 1, 0, 0, 0, 0), some (.aload_n 1, 1, 1, 0, 0, 0), some (.getfield 37, 3, 0, 7, 0, 0), none,
  none, some (.putfield 37, 3, 0, 7, 0, 0), none, none, some (.aload_n 1, 1, 1, 0, 0, 0), some (.getfield 41, 3, 0, 8, 0, 0),
  none, none, some (.iconst 0, 1, 0, 0, 0, 0), some (.aload_n 0, 1, 0, 0, 0, 0), some (.getfield 41, 3, 0, 8, 0, 0), none,
  none, some (.iconst 0, 1, 0, 0, 0, 0), some (.aload_n 0, 1, 0, 0, 0, 0), some (.getfield 41, 3, 0, 8, 0, 0), none, none,
  some (.arraylength, 1, 0, 0, 0, 0), some (.invokestatic 74, 3, 0, 0, 2, 0), none, none, some (.aload_n 1, 1, 1, 0, 0, 0), some (.getfield 44, 3, 0, 9, 0, 0),
  none, none, some (.iconst 0, 1, 0, 0, 0, 0), some (.aload_n 0, 1, 0, 0, 0, 0), some (.getfield 44, 3, 0, 9, 0, 0), none,
  none, some (.iconst 0, 1, 0, 0, 0, 0), some (.aload_n 0, 1, 0, 0, 0, 0), some (.getfield 44, 3, 0, 9, 0, 0), none, none,
  some (.arraylength, 1, 0, 0, 0, 0), some (.invokestatic 74, 3, 0, 0, 2, 0), none, none, some (.aload_n 1, 1, 1, 0, 0, 0), some (.getfield 47, 3, 0, 10, 0, 0),
  none, none, some (.iconst 0, 1, 0, 0, 0, 0), some (.aload_n 0, 1, 0, 0, 0, 0), some (.getfield 47, 3, 0, 10, 0, 0), none,
  none, some (.iconst 0, 1, 0, 0, 0, 0), some (.aload_n 0, 1, 0, 0, 0, 0), some (.getfield 47, 3, 0, 10, 0, 0), none, none,
  some (.arraylength, 1, 0, 0, 0, 0), some (.invokestatic 74, 3, 0, 0, 2, 0), none, none, some (.aload_n 1, 1, 1, 0, 0, 0), some (.getfield 50, 3, 0, 11, 0, 0),
  none, none, some (.iconst 0, 1, 0, 0, 0, 0), some (.aload_n 0, 1, 0, 0, 0, 0), some (.getfield 50, 3, 0, 11, 0, 0), none,
  none, some (.iconst 0, 1, 0, 0, 0, 0), some (.aload_n 0, 1, 0, 0, 0, 0), some (.getfield 50, 3, 0, 11, 0, 0), none, none,
  some (.arraylength, 1, 0, 0, 0, 0), some (.invokestatic 74, 3, 0, 0, 2, 0), none, none, some (.aload_n 1, 1, 1, 0, 0, 0), some (.getfield 53, 3, 0, 12, 0, 0),
  none, none, some (.iconst 0, 1, 0, 0, 0, 0), some (.aload_n 0, 1, 0, 0, 0, 0), some (.getfield 53, 3, 0, 12, 0, 0), none,
  none, some (.iconst 0, 1, 0, 0, 0, 0), some (.aload_n 0, 1, 0, 0, 0, 0), some (.getfield 53, 3, 0, 12, 0, 0), none, none,
  some (.arraylength, 1, 0, 0, 0, 0), some (.invokestatic 74, 3, 0, 0, 2, 0), none, none, some (.aload_n 1, 1, 1, 0, 0, 0), some (.getfield 56, 3, 0, 13, 0, 0),
  none, none, some (.iconst 0, 1, 0, 0, 0, 0), some (.aload_n 0, 1, 0, 0, 0, 0), some (.getfield 56, 3, 0, 13, 0, 0), none,
  none, some (.iconst 0, 1, 0, 0, 0, 0), some (.aload_n 0, 1, 0, 0, 0, 0), some (.getfield 56, 3, 0, 13, 0, 0), none, none,
  some (.arraylength, 1, 0, 0, 0, 0), some (.invokestatic 74, 3, 0, 0, 2, 0), none, none, some (.aload_n 1, 1, 1, 0, 0, 0), some (.getfield 59, 3, 0, 14, 0, 0),
  none, none, some (.iconst 0, 1, 0, 0, 0, 0), some (.aload_n 0, 1, 0, 0, 0, 0), some (.getfield 59, 3, 0, 14, 0, 0), none,
  none, some (.iconst 0, 1, 0, 0, 0, 0), some (.aload_n 0, 1, 0, 0, 0, 0), some (.getfield 59, 3, 0, 14, 0, 0), none, none,
  some (.arraylength, 1, 0, 0, 0, 0), some (.invokestatic 74, 3, 0, 0, 2, 0), none, none, some (.aload_n 1, 1, 1, 0, 0, 0), some (.getfield 62, 3, 0, 15, 0, 0),
  none, none, some (.iconst 0, 1, 0, 0, 0, 0), some (.aload_n 0, 1, 0, 0, 0, 0), some (.getfield 62, 3, 0, 15, 0, 0), none,
  none, some (.iconst 0, 1, 0, 0, 0, 0), some (.aload_n 0, 1, 0, 0, 0, 0), some (.getfield 62, 3, 0, 15, 0, 0), none, none,
  some (.arraylength, 1, 1, 0, 0, 0), some (.invokestatic 74, 3, 1, 0, 2, 0), none, none, some (.aload_n 1, 1, 1, 0, 0, 0), some (.getfield 65, 3, 0, 16, 0, 0),
  none, none, some (.iconst 0, 1, 0, 0, 0, 0), some (.aload_n 0, 1, 0, 0, 0, 0), some (.getfield 65, 3, 0, 16, 0, 0), none,
  none, some (.iconst 0, 1, 0, 0, 0, 0), some (.aload_n 0, 1, 0, 0, 0, 0), some (.getfield 65, 3, 0, 16, 0, 0), none, none,
  some (.arraylength, 1, 2, 0, 0, 0), some (.invokestatic 74, 3, 2, 0, 2, 0), none, none, some (.aload_n 0, 1, 0, 0, 0, 0), some (.aload_n 1, 1, 1, 0, 0, 0),
  some (.getfield 69, 3, 0, 17, 0, 0), none, none, some (.putfield 69, 3, 0, 17, 0, 0), none, none,
  some (.return_, 1, 0, 0, 0, 0)
  ])
def mi_X0_has : am_MI := (yX0_has, cX0_has, 3, (some FieldType.boolean), [
  some (.iload_n 2, 1, 2, 0, 0, 0), some (.ifCond .lt 17, 3, 18, 0, 0, 0), none, none, some (.iload_n 2, 1, 2, 0, 0, 0), some (.aload_n 0, 1, 0, 0, 0, 0),
  some (.getfield 9, 3, 0, 0, 0, 0), none, none, some (.iload_n 1, 1, 1, 0, 0, 0), some (.iaload, 1, 0, 0, 0, 0), some (.if_icmp .ge 7, 3, 18, 0, 0, 0),
  none, none, some (.iconst 1, 1, 0, 0, 0, 1), some (.goto 4, 3, 19, 0, 0, 0), none, none,
  some (.iconst 0, 1, 0, 0, 0, 0), some (.ireturn, 1, 0, 0, 0, 0)
  ])
def mi_X0_hasStep : am_MI := (yX0_hasStep, cX0_hasStep, 3, (some FieldType.boolean), [
  some (.aload_n 0, 1, 0, 0, 0, 0), some (.iconst 4, 1, 0, 0, 0, 4), some (.iload_n 1, 1, 1, 0, 0, 0), some (.invokevirtual 84, 3, 2, 2, 0, 0), none, none,
  some (.ifCond .eq 21, 3, 27, 0, 0, 0), none, none, some (.iload_n 2, 1, 2, 0, 0, 0), some (.ifCond .lt 17, 3, 27, 0, 0, 0), none,
  none, some (.iload_n 2, 1, 2, 0, 0, 0), some (.aload_n 0, 1, 0, 0, 0, 0), some (.getfield 44, 3, 0, 9, 0, 0), none, none,
  some (.iload_n 1, 1, 1, 0, 0, 0), some (.iaload, 1, 0, 0, 0, 0), some (.if_icmp .ge 7, 3, 27, 0, 0, 0), none, none, some (.iconst 1, 1, 0, 0, 0, 1),
  some (.goto 4, 3, 28, 0, 0, 0), none, none, some (.iconst 0, 1, 0, 0, 0, 0), some (.ireturn, 1, 0, 0, 0, 0)
  ])
def mi_X0_isTrue : am_MI := (yX0_isTrue, cX0_isTrue, 2, (some FieldType.boolean), [
  some (.aload_n 0, 1, 0, 0, 0, 0), some (.iconst 3, 1, 0, 0, 0, 3), some (.iload_n 1, 1, 1, 0, 0, 0), some (.invokevirtual 84, 3, 2, 2, 0, 0), none, none,
  some (.ifCond .eq 18, 3, 24, 0, 0, 0), none, none, some (.aload_n 0, 1, 0, 0, 0, 0), some (.getfield 37, 3, 0, 7, 0, 0), none,
  none, some (.iload_n 1, 1, 1, 0, 0, 0), some (.ishr, 1, 0, 0, 0, 0), some (.iconst 1, 1, 0, 0, 0, 1), some (.iand, 1, 0, 0, 0, 0), some (.ifCond .eq 7, 3, 24, 0, 0, 0),
  none, none, some (.iconst 1, 1, 0, 0, 0, 1), some (.goto 4, 3, 25, 0, 0, 0), none, none,
  some (.iconst 0, 1, 0, 0, 0, 0), some (.ireturn, 1, 0, 0, 0, 0)
  ])
def mi_X0_changeOn : am_MI := (yX0_changeOn, cX0_changeOn, 6, (some FieldType.int), [
  some (.iconst (-1), 1, 0, 0, 0, -1), some (.istore_n 3, 1, 3, 0, 0, 0), some (.iconst 0, 1, 0, 0, 0, 0), some (.istore 4, 2, 4, 0, 0, 0), none, some (.iload 4, 2, 4, 0, 0, 0),
  none, some (.aload_n 0, 1, 0, 0, 0, 0), some (.getfield 9, 3, 0, 0, 0, 0), none, none, some (.iconst 2, 1, 0, 0, 0, 2),
  some (.iaload, 1, 0, 0, 0, 0), some (.if_icmp .ge 66, 3, 79, 0, 0, 0), none, none, some (.aload_n 0, 1, 0, 0, 0, 0), some (.getfield 25, 3, 0, 3, 0, 0),
  none, none, some (.iload 4, 2, 4, 0, 0, 0), none, some (.iaload, 1, 0, 0, 0, 0), some (.iload_n 1, 1, 1, 0, 0, 0),
  some (.if_icmp .ne 18, 3, 42, 0, 0, 0), none, none, some (.aload_n 0, 1, 0, 0, 0, 0), some (.getfield 28, 3, 0, 4, 0, 0), none,
  none, some (.iload 4, 2, 4, 0, 0, 0), none, some (.iaload, 1, 0, 0, 0, 0), some (.iload_n 2, 1, 2, 0, 0, 0), some (.if_icmp .gt 7, 3, 42, 0, 0, 0),
  none, none, some (.iconst 1, 1, 0, 0, 0, 1), some (.goto 4, 3, 43, 0, 0, 0), none, none,
  some (.iconst 0, 1, 0, 0, 0, 0), some (.istore 5, 2, 5, 0, 0, 0), none, some (.iload 5, 2, 5, 0, 0, 0), none, some (.ifCond .eq 26, 3, 73, 0, 0, 0),
  none, none, some (.iload_n 3, 1, 3, 0, 0, 0), some (.ifCond .lt 19, 3, 70, 0, 0, 0), none, none,
  some (.aload_n 0, 1, 0, 0, 0, 0), some (.getfield 28, 3, 0, 4, 0, 0), none, none, some (.iload 4, 2, 4, 0, 0, 0), none,
  some (.iaload, 1, 0, 0, 0, 0), some (.aload_n 0, 1, 0, 0, 0, 0), some (.getfield 28, 3, 0, 4, 0, 0), none, none, some (.iload_n 3, 1, 3, 0, 0, 0),
  some (.iaload, 1, 0, 0, 0, 0), some (.if_icmp .lt 6, 3, 73, 0, 0, 0), none, none, some (.iload 4, 2, 4, 0, 0, 0), none,
  some (.istore_n 3, 1, 3, 0, 0, 0), some (.iinc 4 1, 3, 4, 0, 0, 1), none, none, some (.goto (-71), 3, 5, 0, 0, 0), none,
  none, some (.iload_n 3, 1, 3, 0, 0, 0), some (.ireturn, 1, 0, 0, 0, 0)
  ])
def mi_X0_textOn : am_MI := (yX0_textOn, cX0_textOn, 4, (some (FieldType.object "DeedProofs$Text")), [
  some (.aload_n 0, 1, 0, 0, 0, 0), some (.iload_n 1, 1, 1, 0, 0, 0), some (.iload_n 2, 1, 2, 0, 0, 0), some (.invokevirtual 88, 3, 5, 2, 0, 0), none, none,
  some (.istore_n 3, 1, 3, 0, 0, 0), some (.iload_n 3, 1, 3, 0, 0, 0), some (.ifCond .ge 12, 3, 20, 0, 0, 0), none, none, some (.aload_n 0, 1, 0, 0, 0, 0),
  some (.getfield 21, 3, 0, 2, 0, 0), none, none, some (.iload_n 1, 1, 1, 0, 0, 0), some (.aaload, 1, 3, 0, 0, 0), some (.goto 12, 3, 29, 0, 0, 0),
  none, none, some (.aload_n 0, 1, 0, 0, 0, 0), some (.getfield 21, 3, 0, 2, 0, 0), none, none,
  some (.bipush 8, 2, 0, 0, 0, 8), none, some (.iload_n 3, 1, 3, 0, 0, 0), some (.iadd, 1, 0, 0, 0, 0), some (.aaload, 1, 3, 0, 0, 0), some (.areturn, 1, 0, 0, 0, 0)
  ])
def mi_X0_rowOf : am_MI := (yX0_rowOf, cX0_rowOf, 3, (some FieldType.int), [
  some (.iload_n 1, 1, 1, 0, 0, 0), some (.bipush 12, 2, 0, 0, 0, 12), none, some (.imul, 1, 0, 0, 0, 0), some (.iload_n 2, 1, 2, 0, 0, 0), some (.iadd, 1, 0, 0, 0, 0),
  some (.bipush 6, 2, 0, 0, 0, 6), none, some (.imul, 1, 0, 0, 0, 0), some (.ireturn, 1, 0, 0, 0, 0)
  ])
def mi_X0_takesHoles : am_MI := (yX0_takesHoles, cX0_takesHoles, 2, (some FieldType.boolean), [
  some (.aload_n 0, 1, 0, 0, 0, 0), some (.getfield 41, 3, 0, 8, 0, 0), none, none, some (.iload_n 1, 1, 1, 0, 0, 0), some (.iaload, 1, 0, 0, 0, 0),
  some (.iconst 1, 1, 0, 0, 0, 1), some (.if_icmp .eq 13, 3, 20, 0, 0, 0), none, none, some (.aload_n 0, 1, 0, 0, 0, 0), some (.getfield 41, 3, 0, 8, 0, 0),
  none, none, some (.iload_n 1, 1, 1, 0, 0, 0), some (.iaload, 1, 0, 0, 0, 0), some (.iconst 4, 1, 0, 0, 0, 4), some (.if_icmp .ne 7, 3, 24, 0, 0, 0),
  none, none, some (.iconst 1, 1, 0, 0, 0, 1), some (.goto 4, 3, 25, 0, 0, 0), none, none,
  some (.iconst 0, 1, 0, 0, 0, 0), some (.ireturn, 1, 0, 0, 0, 0)
  ])
def mi_X0_takesEnds : am_MI := (yX0_takesEnds, cX0_takesEnds, 2, (some FieldType.boolean), [
  some (.aload_n 0, 1, 0, 0, 0, 0), some (.getfield 41, 3, 0, 8, 0, 0), none, none, some (.iload_n 1, 1, 1, 0, 0, 0), some (.iaload, 1, 0, 0, 0, 0),
  some (.iconst 2, 1, 0, 0, 0, 2), some (.if_icmp .eq 13, 3, 20, 0, 0, 0), none, none, some (.aload_n 0, 1, 0, 0, 0, 0), some (.getfield 41, 3, 0, 8, 0, 0),
  none, none, some (.iload_n 1, 1, 1, 0, 0, 0), some (.iaload, 1, 0, 0, 0, 0), some (.iconst 3, 1, 0, 0, 0, 3), some (.if_icmp .ne 7, 3, 24, 0, 0, 0),
  none, none, some (.iconst 1, 1, 0, 0, 0, 1), some (.goto 4, 3, 25, 0, 0, 0), none, none,
  some (.iconst 0, 1, 0, 0, 0, 0), some (.ireturn, 1, 0, 0, 0, 0)
  ])
def mi_X0_endIn : am_MI := (yX0_endIn, cX0_endIn, 4, (some FieldType.int), [
  some (.iload_n 2, 1, 2, 0, 0, 0), some (.sipush 200, 3, 0, 0, 0, 200), none, none, some (.if_icmp .lt 16, 3, 20, 0, 0, 0), none,
  none, some (.iload_n 2, 1, 2, 0, 0, 0), some (.sipush 200, 3, 0, 0, 0, 200), none, none, some (.iload_n 1, 1, 1, 0, 0, 0),
  some (.iadd, 1, 0, 0, 0, 0), some (.if_icmp .ge 7, 3, 20, 0, 0, 0), none, none, some (.iconst 1, 1, 0, 0, 0, 1), some (.goto 4, 3, 21, 0, 0, 0),
  none, none, some (.iconst 0, 1, 0, 0, 0, 0), some (.istore_n 3, 1, 3, 0, 0, 0), some (.iload_n 3, 1, 3, 0, 0, 0), some (.ifCond .eq 19, 3, 42, 0, 0, 0),
  none, none, some (.aload_n 0, 1, 0, 0, 0, 0), some (.iload_n 1, 1, 1, 0, 0, 0), some (.invokevirtual 92, 3, 9, 1, 0, 0), none,
  none, some (.ifCond .eq 11, 3, 42, 0, 0, 0), none, none, some (.iload_n 2, 1, 2, 0, 0, 0), some (.sipush 200, 3, 0, 0, 0, 200),
  none, none, some (.isub, 1, 0, 0, 0, 0), some (.goto 4, 3, 43, 0, 0, 0), none, none,
  some (.iconst (-1), 1, 0, 0, 0, -1), some (.ireturn, 1, 0, 0, 0, 0)
  ])
def mi_X0_isTitled : am_MI := (yX0_isTitled, cX0_isTitled, 3, (some FieldType.boolean), [
  some (.iconst 0, 1, 0, 0, 0, 0), some (.istore_n 2, 1, 2, 0, 0, 0), some (.iload_n 2, 1, 2, 0, 0, 0), some (.aload_n 0, 1, 0, 0, 0, 0), some (.getfield 9, 3, 0, 0, 0, 0), none,
  none, some (.iconst 5, 1, 0, 0, 0, 5), some (.iaload, 1, 0, 0, 0, 0), some (.if_icmp .ge 21, 3, 30, 0, 0, 0), none, none,
  some (.aload_n 0, 1, 0, 0, 0, 0), some (.getfield 50, 3, 0, 11, 0, 0), none, none, some (.iload_n 2, 1, 2, 0, 0, 0), some (.iaload, 1, 0, 0, 0, 0),
  some (.iload_n 1, 1, 1, 0, 0, 0), some (.if_icmp .ne 5, 3, 24, 0, 0, 0), none, none, some (.iconst 1, 1, 0, 0, 0, 1), some (.ireturn, 1, 0, 0, 0, 0),
  some (.iinc 2 1, 3, 2, 0, 0, 1), none, none, some (.goto (-25), 3, 2, 0, 0, 0), none, none,
  some (.iconst 0, 1, 0, 0, 0, 0), some (.ireturn, 1, 0, 0, 0, 0)
  ])
def mi_X0_isTitleOf : am_MI := (yX0_isTitleOf, cX0_isTitleOf, 3, (some FieldType.boolean), [
  some (.iconst 0, 1, 0, 0, 0, 0), some (.istore_n 2, 1, 2, 0, 0, 0), some (.iload_n 2, 1, 2, 0, 0, 0), some (.aload_n 0, 1, 0, 0, 0, 0), some (.getfield 9, 3, 0, 0, 0, 0), none,
  none, some (.iconst 5, 1, 0, 0, 0, 5), some (.iaload, 1, 0, 0, 0, 0), some (.if_icmp .ge 21, 3, 30, 0, 0, 0), none, none,
  some (.aload_n 0, 1, 0, 0, 0, 0), some (.getfield 53, 3, 0, 12, 0, 0), none, none, some (.iload_n 2, 1, 2, 0, 0, 0), some (.iaload, 1, 0, 0, 0, 0),
  some (.iload_n 1, 1, 1, 0, 0, 0), some (.if_icmp .ne 5, 3, 24, 0, 0, 0), none, none, some (.iconst 1, 1, 0, 0, 0, 1), some (.ireturn, 1, 0, 0, 0, 0),
  some (.iinc 2 1, 3, 2, 0, 0, 1), none, none, some (.goto (-25), 3, 2, 0, 0, 0), none, none,
  some (.iconst 0, 1, 0, 0, 0, 0), some (.ireturn, 1, 0, 0, 0, 0)
  ])
def mi_X0_isUsed : am_MI := (yX0_isUsed, cX0_isUsed, 3, (some FieldType.boolean), [
  some (.iload_n 1, 1, 1, 0, 0, 0), some (.iconst 1, 1, 0, 0, 0, 1), some (.iadd, 1, 0, 0, 0, 0), some (.istore_n 2, 1, 2, 0, 0, 0), some (.iload_n 2, 1, 2, 0, 0, 0), some (.aload_n 0, 1, 0, 0, 0, 0),
  some (.getfield 9, 3, 0, 0, 0, 0), none, none, some (.iconst 4, 1, 0, 0, 0, 4), some (.iaload, 1, 0, 0, 0, 0), some (.if_icmp .ge 32, 3, 43, 0, 0, 0),
  none, none, some (.aload_n 0, 1, 0, 0, 0, 0), some (.iload_n 2, 1, 2, 0, 0, 0), some (.invokevirtual 92, 3, 9, 1, 0, 0), none,
  none, some (.ifCond .eq 18, 3, 37, 0, 0, 0), none, none, some (.aload_n 0, 1, 0, 0, 0, 0), some (.iload_n 2, 1, 2, 0, 0, 0),
  some (.sipush 200, 3, 0, 0, 0, 200), none, none, some (.iload_n 1, 1, 1, 0, 0, 0), some (.iadd, 1, 0, 0, 0, 0), some (.invokevirtual 96, 3, 15, 2, 0, 0),
  none, none, some (.ifCond .le 5, 3, 37, 0, 0, 0), none, none, some (.iconst 1, 1, 0, 0, 0, 1),
  some (.ireturn, 1, 0, 0, 0, 0), some (.iinc 2 1, 3, 2, 0, 0, 1), none, none, some (.goto (-36), 3, 4, 0, 0, 0), none,
  none, some (.iconst 0, 1, 0, 0, 0, 0), some (.ireturn, 1, 0, 0, 0, 0)
  ])
def mi_X0_holesOf : am_MI := (yX0_holesOf, cX0_holesOf, 2, (some FieldType.int), [
  some (.aload_n 0, 1, 0, 0, 0, 0), some (.iload_n 1, 1, 1, 0, 0, 0), some (.invokevirtual 99, 3, 8, 1, 0, 0), none, none, some (.ifCond .eq 14, 3, 19, 0, 0, 0),
  none, none, some (.aload_n 0, 1, 0, 0, 0, 0), some (.iload_n 1, 1, 1, 0, 0, 0), some (.sipush 300, 3, 0, 0, 0, 300), none,
  none, some (.invokevirtual 96, 3, 15, 2, 0, 0), none, none, some (.goto 4, 3, 20, 0, 0, 0), none,
  none, some (.iconst 0, 1, 0, 0, 0, 0), some (.ireturn, 1, 0, 0, 0, 0)
  ])
def mi_X0_countSources : am_MI := (yX0_countSources, cX0_countSources, 7, (some FieldType.int), [
  some (.iconst 0, 1, 0, 0, 0, 0), some (.istore_n 3, 1, 3, 0, 0, 0), some (.iconst 0, 1, 0, 0, 0, 0), some (.istore 4, 2, 4, 0, 0, 0), none, some (.iload 4, 2, 4, 0, 0, 0),
  none, some (.aload_n 0, 1, 0, 0, 0, 0), some (.getfield 44, 3, 0, 9, 0, 0), none, none, some (.iload_n 1, 1, 1, 0, 0, 0),
  some (.iaload, 1, 0, 0, 0, 0), some (.if_icmp .ge 65, 3, 78, 0, 0, 0), none, none, some (.aload_n 0, 1, 0, 0, 0, 0), some (.iload_n 1, 1, 1, 0, 0, 0),
  some (.iload 4, 2, 4, 0, 0, 0), none, some (.invokevirtual 102, 3, 7, 2, 0, 0), none, none, some (.istore 5, 2, 5, 0, 0, 0),
  none, some (.iconst 0, 1, 0, 0, 0, 0), some (.istore 6, 2, 6, 0, 0, 0), none, some (.iload 6, 2, 6, 0, 0, 0), none,
  some (.aload_n 0, 1, 0, 0, 0, 0), some (.getfield 47, 3, 0, 10, 0, 0), none, none, some (.iload 5, 2, 5, 0, 0, 0), none,
  some (.iconst 2, 1, 0, 0, 0, 2), some (.iadd, 1, 0, 0, 0, 0), some (.iaload, 1, 0, 0, 0, 0), some (.if_icmp .ge 33, 3, 72, 0, 0, 0), none, none,
  some (.iload_n 3, 1, 3, 0, 0, 0), some (.aload_n 0, 1, 0, 0, 0, 0), some (.getfield 47, 3, 0, 10, 0, 0), none, none, some (.iload 5, 2, 5, 0, 0, 0),
  none, some (.iconst 3, 1, 0, 0, 0, 3), some (.iadd, 1, 0, 0, 0, 0), some (.iload 6, 2, 6, 0, 0, 0), none, some (.iadd, 1, 0, 0, 0, 0),
  some (.iaload, 1, 0, 0, 0, 0), some (.iload_n 2, 1, 2, 0, 0, 0), some (.if_icmp .ne 7, 3, 63, 0, 0, 0), none, none, some (.iconst 1, 1, 0, 0, 0, 1),
  some (.goto 4, 3, 64, 0, 0, 0), none, none, some (.iconst 0, 1, 0, 0, 0, 0), some (.iadd, 1, 0, 0, 0, 0), some (.istore_n 3, 1, 3, 0, 0, 0),
  some (.iinc 6 1, 3, 6, 0, 0, 1), none, none, some (.goto (-41), 3, 28, 0, 0, 0), none, none,
  some (.iinc 4 1, 3, 4, 0, 0, 1), none, none, some (.goto (-70), 3, 5, 0, 0, 0), none, none,
  some (.iload_n 3, 1, 3, 0, 0, 0), some (.ireturn, 1, 0, 0, 0, 0)
  ])
def mi_X0_placeOfHole : am_MI := (yX0_placeOfHole, cX0_placeOfHole, 8, (some FieldType.int), [
  some (.aload_n 0, 1, 0, 0, 0, 0), some (.iload_n 1, 1, 1, 0, 0, 0), some (.invokevirtual 99, 3, 8, 1, 0, 0), none, none, some (.ifCond .ne 5, 3, 10, 0, 0, 0),
  none, none, some (.iconst (-1), 1, 0, 0, 0, -1), some (.ireturn, 1, 0, 0, 0, 0), some (.iload_n 2, 1, 2, 0, 0, 0), some (.istore_n 3, 1, 3, 0, 0, 0),
  some (.iconst 0, 1, 0, 0, 0, 0), some (.istore 4, 2, 4, 0, 0, 0), none, some (.iload 4, 2, 4, 0, 0, 0), none, some (.aload_n 0, 1, 0, 0, 0, 0),
  some (.getfield 44, 3, 0, 9, 0, 0), none, none, some (.iload_n 1, 1, 1, 0, 0, 0), some (.iaload, 1, 0, 0, 0, 0), some (.if_icmp .ge 97, 3, 120, 0, 0, 0),
  none, none, some (.aload_n 0, 1, 0, 0, 0, 0), some (.iload_n 1, 1, 1, 0, 0, 0), some (.iload 4, 2, 4, 0, 0, 0), none,
  some (.invokevirtual 102, 3, 7, 2, 0, 0), none, none, some (.istore 5, 2, 5, 0, 0, 0), none, some (.iconst 0, 1, 0, 0, 0, 0),
  some (.istore 6, 2, 6, 0, 0, 0), none, some (.iload 6, 2, 6, 0, 0, 0), none, some (.aload_n 0, 1, 0, 0, 0, 0), some (.getfield 47, 3, 0, 10, 0, 0),
  none, none, some (.iload 5, 2, 5, 0, 0, 0), none, some (.iconst 2, 1, 0, 0, 0, 2), some (.iadd, 1, 0, 0, 0, 0),
  some (.iaload, 1, 0, 0, 0, 0), some (.if_icmp .ge 65, 3, 114, 0, 0, 0), none, none, some (.aload_n 0, 1, 0, 0, 0, 0), some (.getfield 47, 3, 0, 10, 0, 0),
  none, none, some (.iload 5, 2, 5, 0, 0, 0), none, some (.iconst 3, 1, 0, 0, 0, 3), some (.iadd, 1, 0, 0, 0, 0),
  some (.iload 6, 2, 6, 0, 0, 0), none, some (.iadd, 1, 0, 0, 0, 0), some (.iaload, 1, 0, 0, 0, 0), some (.sipush 300, 3, 0, 0, 0, 300), none,
  none, some (.if_icmp .ne 7, 3, 74, 0, 0, 0), none, none, some (.iconst 1, 1, 0, 0, 0, 1), some (.goto 4, 3, 75, 0, 0, 0),
  none, none, some (.iconst 0, 1, 0, 0, 0, 0), some (.istore 7, 2, 7, 0, 0, 0), none, some (.iload 7, 2, 7, 0, 0, 0),
  none, some (.ifCond .eq 16, 3, 95, 0, 0, 0), none, none, some (.iload_n 3, 1, 3, 0, 0, 0), some (.ifCond .ne 12, 3, 95, 0, 0, 0),
  none, none, some (.bipush 10, 2, 0, 0, 0, 10), none, some (.iload 4, 2, 4, 0, 0, 0), none,
  some (.imul, 1, 0, 0, 0, 0), some (.iload 6, 2, 6, 0, 0, 0), none, some (.iadd, 1, 0, 0, 0, 0), some (.ireturn, 1, 0, 0, 0, 0), some (.iload_n 3, 1, 3, 0, 0, 0),
  some (.iload 7, 2, 7, 0, 0, 0), none, some (.ifCond .eq 7, 3, 105, 0, 0, 0), none, none, some (.iconst 1, 1, 0, 0, 0, 1),
  some (.goto 4, 3, 106, 0, 0, 0), none, none, some (.iconst 0, 1, 0, 0, 0, 0), some (.isub, 1, 0, 0, 0, 0), some (.istore_n 3, 1, 3, 0, 0, 0),
  some (.iinc 6 1, 3, 6, 0, 0, 1), none, none, some (.goto (-73), 3, 38, 0, 0, 0), none, none,
  some (.iinc 4 1, 3, 4, 0, 0, 1), none, none, some (.goto (-102), 3, 15, 0, 0, 0), none, none,
  some (.iconst (-1), 1, 0, 0, 0, -1), some (.ireturn, 1, 0, 0, 0, 0)
  ])
def mi_X1_init : am_MI := (yX1_init, cX1_init, 1, none, [
  some (.aload_n 0, 1, 0, 0, 0, 0), some (.invokespecial 1, 3, 28, 0, 1, 0), none, none, some (.return_, 1, 0, 0, 0, 0)
  ])
def mi_X1_actEnds : am_MI := (yX1_actEnds, cX1_actEnds, 4, (some FieldType.int), [
  some (.aload_n 0, 1, 0, 0, 0, 0), some (.iload_n 1, 1, 1, 0, 0, 0), some (.iload_n 2, 1, 2, 0, 0, 0), some (.iload_n 3, 1, 3, 0, 0, 0), some (.invokespecial 7, 3, 31, 3, 3, 0), none,
  none, some (.ineg, 1, 0, 0, 0, 0), some (.ireturn, 1, 0, 0, 0, 0)
  ])
def mi_X2_init : am_MI := (yX2_init, cX2_init, 2, none, [
  some (.aload_n 0, 1, 0, 0, 0, 0), some (.invokespecial 3, 3, 0, 0, 2, 0), none, none, some (.aload_n 0, 1, 0, 0, 0, 0), some (.sipush 144, 3, 0, 0, 0, 144),
  none, none, some (.newarray .int, 2, 0, 0, 0, 0), none, some (.putfield 9, 3, 2, 1, 0, 0), none,
  none, some (.aload_n 0, 1, 0, 0, 0, 0), some (.sipush 144, 3, 0, 0, 0, 144), none, none, some (.newarray .int, 2, 0, 0, 0, 0),
  none, some (.putfield 15, 3, 2, 2, 0, 0), none, none, some (.aload_n 0, 1, 0, 0, 0, 0), some (.bipush 12, 2, 0, 0, 0, 12),
  none, some (.newarray .boolean, 2, 2, 0, 0, 0), none, some (.putfield 18, 3, 2, 3, 0, 0), none, none,
  some (.aload_n 0, 1, 0, 0, 0, 0), some (.bipush 12, 2, 0, 0, 0, 12), none, some (.newarray .int, 2, 0, 0, 0, 0), none, some (.putfield 22, 3, 2, 4, 0, 0),
  none, none, some (.aload_n 0, 1, 0, 0, 0, 0), some (.invokestatic 25, 3, 69, 0, 1, 0), none, none,
  some (.putfield 31, 3, 2, 5, 0, 0), none, none, some (.aload_n 0, 1, 0, 0, 0, 0), some (.iconst 0, 1, 0, 0, 0, 0), some (.putfield 34, 3, 2, 6, 0, 0),
  none, none, some (.aload_n 0, 1, 0, 0, 0, 0), some (.aload_n 1, 1, 1, 0, 0, 0), some (.putfield 38, 3, 2, 0, 0, 0), none,
  none, some (.return_, 1, 0, 0, 0, 0)
  ])
def mi_X2_weigh : am_MI := (yX2_weigh, cX2_weigh, 9, none, [
  some (.aload_n 0, 1, 0, 0, 0, 0), some (.iload_n 3, 1, 3, 0, 0, 0), some (.putfield 34, 3, 2, 6, 0, 0), none, none, some (.iconst 0, 1, 0, 0, 0, 0),
  some (.istore 4, 2, 4, 0, 0, 0), none, some (.iload 4, 2, 4, 0, 0, 0), none, some (.iload_n 1, 1, 1, 0, 0, 0), some (.if_icmp .gt 156, 3, 167, 0, 0, 0),
  none, none, some (.aload_n 0, 1, 0, 0, 0, 0), some (.getfield 38, 3, 2, 0, 0, 0), none, none,
  some (.getfield 42, 3, 0, 9, 0, 0), none, none, some (.iload 4, 2, 4, 0, 0, 0), none, some (.iaload, 1, 0, 0, 0, 0),
  some (.istore 5, 2, 5, 0, 0, 0), none, some (.iload 5, 2, 5, 0, 0, 0), none, some (.ifCond .le 7, 3, 35, 0, 0, 0), none,
  none, some (.iconst 1, 1, 0, 0, 0, 1), some (.goto 4, 3, 36, 0, 0, 0), none, none, some (.iconst 0, 1, 0, 0, 0, 0),
  some (.istore 6, 2, 6, 0, 0, 0), none, some (.iconst 0, 1, 0, 0, 0, 0), some (.istore 7, 2, 7, 0, 0, 0), none, some (.iload 7, 2, 7, 0, 0, 0),
  none, some (.iload 5, 2, 5, 0, 0, 0), none, some (.if_icmp .ge 73, 3, 118, 0, 0, 0), none, none,
  some (.iload 4, 2, 4, 0, 0, 0), none, some (.bipush 12, 2, 0, 0, 0, 12), none, some (.imul, 1, 0, 0, 0, 0), some (.iload 7, 2, 7, 0, 0, 0),
  none, some (.iadd, 1, 0, 0, 0, 0), some (.istore 8, 2, 8, 0, 0, 0), none, some (.aload_n 0, 1, 0, 0, 0, 0), some (.getfield 15, 3, 2, 2, 0, 0),
  none, none, some (.iload 8, 2, 8, 0, 0, 0), none, some (.aload_n 0, 1, 0, 0, 0, 0), some (.iload 4, 2, 4, 0, 0, 0),
  none, some (.iload 7, 2, 7, 0, 0, 0), none, some (.iload_n 2, 1, 2, 0, 0, 0), some (.invokevirtual 47, 3, 23, 3, 0, 2), none,
  none, some (.iastore, 1, 0, 0, 0, 0), some (.aload_n 0, 1, 0, 0, 0, 0), some (.getfield 9, 3, 2, 1, 0, 0), none, none,
  some (.iload 8, 2, 8, 0, 0, 0), none, some (.aload_n 0, 1, 0, 0, 0, 0), some (.iload 4, 2, 4, 0, 0, 0), none, some (.iload 7, 2, 7, 0, 0, 0),
  none, some (.iload_n 2, 1, 2, 0, 0, 0), some (.invokevirtual 51, 3, 21, 3, 0, 2), none, none, some (.iastore, 1, 0, 0, 0, 0),
  some (.iload 6, 2, 6, 0, 0, 0), none, some (.ifCond .eq 17, 3, 109, 0, 0, 0), none, none, some (.aload_n 0, 1, 0, 0, 0, 0),
  some (.getfield 9, 3, 2, 1, 0, 0), none, none, some (.iload 8, 2, 8, 0, 0, 0), none, some (.iaload, 1, 0, 0, 0, 0),
  some (.ifCond .ne 7, 3, 109, 0, 0, 0), none, none, some (.iconst 1, 1, 0, 0, 0, 1), some (.goto 4, 3, 110, 0, 0, 0), none,
  none, some (.iconst 0, 1, 0, 0, 0, 0), some (.istore 6, 2, 6, 0, 0, 0), none, some (.iinc 7 1, 3, 7, 0, 0, 1), none,
  none, some (.goto (-74), 3, 41, 0, 0, 0), none, none, some (.aload_n 0, 1, 0, 0, 0, 0), some (.getfield 18, 3, 2, 3, 0, 0),
  none, none, some (.iload 4, 2, 4, 0, 0, 0), none, some (.iload 6, 2, 6, 0, 0, 0), none,
  some (.ifCond .eq 33, 3, 159, 0, 0, 0), none, none, some (.aload_n 0, 1, 0, 0, 0, 0), some (.getfield 38, 3, 2, 0, 0, 0), none,
  none, some (.getfield 54, 3, 0, 8, 0, 0), none, none, some (.iload 4, 2, 4, 0, 0, 0), none,
  some (.iaload, 1, 0, 0, 0, 0), some (.iconst 4, 1, 0, 0, 0, 4), some (.if_icmp .eq 15, 3, 155, 0, 0, 0), none, none, some (.aload_n 0, 1, 0, 0, 0, 0),
  some (.getfield 38, 3, 2, 0, 0, 0), none, none, some (.iload 4, 2, 4, 0, 0, 0), none, some (.invokevirtual 57, 3, 14, 1, 1, 0),
  none, none, some (.ifCond .ne 7, 3, 159, 0, 0, 0), none, none, some (.iconst 1, 1, 0, 0, 0, 1),
  some (.goto 4, 3, 160, 0, 0, 0), none, none, some (.iconst 0, 1, 0, 0, 0, 0), some (.bastore, 1, 2, 0, 0, 0), some (.iinc 4 1, 3, 4, 0, 0, 1),
  none, none, some (.goto (-156), 3, 8, 0, 0, 0), none, none, some (.return_, 1, 0, 0, 0, 0)
  ])
def mi_X2_lackOf : am_MI := (yX2_lackOf, cX2_lackOf, 9, (some FieldType.int), [
  some (.aload_n 0, 1, 0, 0, 0, 0), some (.getfield 38, 3, 2, 0, 0, 0), none, none, some (.iload_n 1, 1, 1, 0, 0, 0), some (.iload_n 2, 1, 2, 0, 0, 0),
  some (.invokevirtual 61, 3, 7, 2, 1, 0), none, none, some (.istore 4, 2, 4, 0, 0, 0), none, some (.aload_n 0, 1, 0, 0, 0, 0),
  some (.getfield 38, 3, 2, 0, 0, 0), none, none, some (.getfield 65, 3, 0, 10, 0, 0), none, none,
  some (.iload 4, 2, 4, 0, 0, 0), none, some (.iconst 2, 1, 0, 0, 0, 2), some (.iadd, 1, 0, 0, 0, 0), some (.iaload, 1, 0, 0, 0, 0), some (.istore 5, 2, 5, 0, 0, 0),
  none, some (.aload_n 0, 1, 0, 0, 0, 0), some (.getfield 38, 3, 2, 0, 0, 0), none, none, some (.aload_n 0, 1, 0, 0, 0, 0),
  some (.getfield 38, 3, 2, 0, 0, 0), none, none, some (.getfield 65, 3, 0, 10, 0, 0), none, none,
  some (.iload 4, 2, 4, 0, 0, 0), none, some (.iconst 0, 1, 0, 0, 0, 0), some (.iadd, 1, 0, 0, 0, 0), some (.iaload, 1, 0, 0, 0, 0), some (.iload_n 3, 1, 3, 0, 0, 0),
  some (.invokevirtual 68, 3, 6, 2, 1, 0), none, none, some (.astore 6, 2, 6, 0, 0, 0), none, some (.aload 6, 2, 6, 0, 0, 0),
  none, some (.getfield 72, 3, 10, 0, 0, 0), none, none, some (.iload 5, 2, 5, 0, 0, 0), none,
  some (.if_icmp .eq 5, 3, 59, 0, 0, 0), none, none, some (.iconst 1, 1, 0, 0, 0, 1), some (.ireturn, 1, 0, 0, 0, 0), some (.aload_n 0, 1, 0, 0, 0, 0),
  some (.getfield 38, 3, 2, 0, 0, 0), none, none, some (.getfield 65, 3, 0, 10, 0, 0), none, none,
  some (.iload 4, 2, 4, 0, 0, 0), none, some (.iconst 1, 1, 0, 0, 0, 1), some (.iadd, 1, 0, 0, 0, 0), some (.iaload, 1, 0, 0, 0, 0), some (.aload_n 0, 1, 0, 0, 0, 0),
  some (.getfield 31, 3, 2, 5, 0, 0), none, none, some (.invokestatic 75, 3, 70, 2, 1, 0), none, none,
  some (.aload 6, 2, 6, 0, 0, 0), none, some (.aload_n 0, 1, 0, 0, 0, 0), some (.getfield 31, 3, 2, 5, 0, 0), none, none,
  some (.invokevirtual 79, 3, 73, 1, 1, 10), none, none, some (.ifCond .ne 5, 3, 92, 0, 0, 0), none, none,
  some (.iconst 2, 1, 0, 0, 0, 2), some (.ireturn, 1, 0, 0, 0, 0), some (.iconst 0, 1, 0, 0, 0, 0), some (.istore 7, 2, 7, 0, 0, 0), none, some (.iload 7, 2, 7, 0, 0, 0),
  none, some (.iload 5, 2, 5, 0, 0, 0), none, some (.if_icmp .ge 54, 3, 153, 0, 0, 0), none, none,
  some (.aload_n 0, 1, 0, 0, 0, 0), some (.getfield 38, 3, 2, 0, 0, 0), none, none, some (.getfield 65, 3, 0, 10, 0, 0), none,
  none, some (.iload 4, 2, 4, 0, 0, 0), none, some (.iconst 3, 1, 0, 0, 0, 3), some (.iadd, 1, 0, 0, 0, 0), some (.iload 7, 2, 7, 0, 0, 0),
  none, some (.iadd, 1, 0, 0, 0, 0), some (.iaload, 1, 0, 0, 0, 0), some (.istore 8, 2, 8, 0, 0, 0), none, some (.aload_n 0, 1, 0, 0, 0, 0),
  some (.iload_n 1, 1, 1, 0, 0, 0), some (.iload_n 2, 1, 2, 0, 0, 0), some (.iload 8, 2, 8, 0, 0, 0), none, some (.aload 6, 2, 6, 0, 0, 0), none,
  some (.iload 7, 2, 7, 0, 0, 0), none, some (.aload_n 0, 1, 0, 0, 0, 0), some (.getfield 31, 3, 2, 5, 0, 0), none, none,
  some (.invokevirtual 83, 3, 72, 2, 1, 10), none, none, some (.invokevirtual 87, 3, 22, 4, 0, 2), none, none,
  some (.ifCond .ne 9, 3, 147, 0, 0, 0), none, none, some (.bipush 10, 2, 0, 0, 0, 10), none, some (.iload 7, 2, 7, 0, 0, 0),
  none, some (.iadd, 1, 0, 0, 0, 0), some (.ireturn, 1, 0, 0, 0, 0), some (.iinc 7 1, 3, 7, 0, 0, 1), none, none,
  some (.goto (-55), 3, 95, 0, 0, 0), none, none, some (.iconst 0, 1, 0, 0, 0, 0), some (.ireturn, 1, 0, 0, 0, 0)
  ])
def mi_X2_gives : am_MI := (yX2_gives, cX2_gives, 6, (some FieldType.boolean), [
  some (.aload_n 0, 1, 0, 0, 0, 0), some (.getfield 38, 3, 2, 0, 0, 0), none, none, some (.iconst 3, 1, 0, 0, 0, 3), some (.iload_n 3, 1, 3, 0, 0, 0),
  some (.invokevirtual 91, 3, 2, 2, 1, 0), none, none, some (.ifCond .eq 34, 3, 43, 0, 0, 0), none, none,
  some (.aload_n 0, 1, 0, 0, 0, 0), some (.getfield 34, 3, 2, 6, 0, 0), none, none, some (.iload_n 3, 1, 3, 0, 0, 0), some (.ishr, 1, 0, 0, 0, 0),
  some (.iconst 1, 1, 0, 0, 0, 1), some (.iand, 1, 0, 0, 0, 0), some (.ifCond .eq 21, 3, 41, 0, 0, 0), none, none, some (.aload_n 0, 1, 0, 0, 0, 0),
  some (.getfield 38, 3, 2, 0, 0, 0), none, none, some (.getfield 95, 3, 0, 5, 0, 0), none, none,
  some (.iload_n 3, 1, 3, 0, 0, 0), some (.iaload, 1, 0, 0, 0, 0), some (.iload 4, 2, 4, 0, 0, 0), none, some (.if_icmp .ne 7, 3, 41, 0, 0, 0), none,
  none, some (.iconst 1, 1, 0, 0, 0, 1), some (.goto 4, 3, 42, 0, 0, 0), none, none, some (.iconst 0, 1, 0, 0, 0, 0),
  some (.ireturn, 1, 0, 0, 0, 0), some (.iload_n 3, 1, 3, 0, 0, 0), some (.bipush 100, 2, 0, 0, 0, 100), none, some (.if_icmp .lt 50, 3, 96, 0, 0, 0), none,
  none, some (.iload_n 3, 1, 3, 0, 0, 0), some (.bipush 100, 2, 0, 0, 0, 100), none, some (.iload_n 2, 1, 2, 0, 0, 0), some (.iadd, 1, 0, 0, 0, 0),
  some (.if_icmp .ge 42, 3, 96, 0, 0, 0), none, none, some (.iload_n 1, 1, 1, 0, 0, 0), some (.bipush 12, 2, 0, 0, 0, 12), none,
  some (.imul, 1, 0, 0, 0, 0), some (.iload_n 3, 1, 3, 0, 0, 0), some (.iadd, 1, 0, 0, 0, 0), some (.bipush 100, 2, 0, 0, 0, 100), none, some (.isub, 1, 0, 0, 0, 0),
  some (.istore 5, 2, 5, 0, 0, 0), none, some (.aload_n 0, 1, 0, 0, 0, 0), some (.getfield 9, 3, 2, 1, 0, 0), none, none,
  some (.iload 5, 2, 5, 0, 0, 0), none, some (.iaload, 1, 0, 0, 0, 0), some (.ifCond .ne 19, 3, 94, 0, 0, 0), none, none,
  some (.aload_n 0, 1, 0, 0, 0, 0), some (.getfield 15, 3, 2, 2, 0, 0), none, none, some (.iload 5, 2, 5, 0, 0, 0), none,
  some (.iaload, 1, 0, 0, 0, 0), some (.iload 4, 2, 4, 0, 0, 0), none, some (.if_icmp .ne 7, 3, 94, 0, 0, 0), none, none,
  some (.iconst 1, 1, 0, 0, 0, 1), some (.goto 4, 3, 95, 0, 0, 0), none, none, some (.iconst 0, 1, 0, 0, 0, 0), some (.ireturn, 1, 0, 0, 0, 0),
  some (.aload_n 0, 1, 0, 0, 0, 0), some (.getfield 38, 3, 2, 0, 0, 0), none, none, some (.iload_n 1, 1, 1, 0, 0, 0), some (.iload_n 3, 1, 3, 0, 0, 0),
  some (.invokevirtual 98, 3, 10, 2, 1, 0), none, none, some (.istore 5, 2, 5, 0, 0, 0), none, some (.iload 5, 2, 5, 0, 0, 0),
  none, some (.ifCond .lt 47, 3, 156, 0, 0, 0), none, none, some (.aload_n 0, 1, 0, 0, 0, 0), some (.getfield 18, 3, 2, 3, 0, 0),
  none, none, some (.iload 5, 2, 5, 0, 0, 0), none, some (.baload, 1, 2, 0, 0, 0), some (.ifCond .eq 35, 3, 154, 0, 0, 0),
  none, none, some (.aload_n 0, 1, 0, 0, 0, 0), some (.getfield 15, 3, 2, 2, 0, 0), none, none,
  some (.iload 5, 2, 5, 0, 0, 0), none, some (.bipush 12, 2, 0, 0, 0, 12), none, some (.imul, 1, 0, 0, 0, 0), some (.aload_n 0, 1, 0, 0, 0, 0),
  some (.getfield 38, 3, 2, 0, 0, 0), none, none, some (.getfield 42, 3, 0, 9, 0, 0), none, none,
  some (.iload 5, 2, 5, 0, 0, 0), none, some (.iaload, 1, 0, 0, 0, 0), some (.iadd, 1, 0, 0, 0, 0), some (.iconst 1, 1, 0, 0, 0, 1), some (.isub, 1, 0, 0, 0, 0),
  some (.iaload, 1, 0, 0, 0, 0), some (.iload 4, 2, 4, 0, 0, 0), none, some (.if_icmp .ne 7, 3, 154, 0, 0, 0), none, none,
  some (.iconst 1, 1, 0, 0, 0, 1), some (.goto 4, 3, 155, 0, 0, 0), none, none, some (.iconst 0, 1, 0, 0, 0, 0), some (.ireturn, 1, 0, 0, 0, 0),
  some (.iload_n 3, 1, 3, 0, 0, 0), some (.sipush 300, 3, 0, 0, 0, 300), none, none, some (.if_icmp .ne 18, 3, 178, 0, 0, 0), none,
  none, some (.aload_n 0, 1, 0, 0, 0, 0), some (.getfield 38, 3, 2, 0, 0, 0), none, none, some (.iload_n 1, 1, 1, 0, 0, 0),
  some (.invokevirtual 101, 3, 8, 1, 1, 0), none, none, some (.ifCond .eq 7, 3, 178, 0, 0, 0), none, none,
  some (.iconst 1, 1, 0, 0, 0, 1), some (.goto 4, 3, 179, 0, 0, 0), none, none, some (.iconst 0, 1, 0, 0, 0, 0), some (.ireturn, 1, 0, 0, 0, 0)
  ])
def mi_X2_factOfStep : am_MI := (yX2_factOfStep, cX2_factOfStep, 5, (some FieldType.int), [
  some (.aload_n 0, 1, 0, 0, 0, 0), some (.getfield 38, 3, 2, 0, 0, 0), none, none, some (.iload_n 1, 1, 1, 0, 0, 0), some (.iload_n 2, 1, 2, 0, 0, 0),
  some (.invokevirtual 61, 3, 7, 2, 1, 0), none, none, some (.istore 4, 2, 4, 0, 0, 0), none, some (.aload_n 0, 1, 0, 0, 0, 0),
  some (.getfield 38, 3, 2, 0, 0, 0), none, none, some (.getfield 65, 3, 0, 10, 0, 0), none, none,
  some (.iload 4, 2, 4, 0, 0, 0), none, some (.iconst 1, 1, 0, 0, 0, 1), some (.iadd, 1, 0, 0, 0, 0), some (.iaload, 1, 0, 0, 0, 0), some (.aload_n 0, 1, 0, 0, 0, 0),
  some (.getfield 31, 3, 2, 5, 0, 0), none, none, some (.invokestatic 75, 3, 70, 2, 1, 0), none, none,
  some (.aload_n 0, 1, 0, 0, 0, 0), some (.getfield 38, 3, 2, 0, 0, 0), none, none, some (.aload_n 0, 1, 0, 0, 0, 0), some (.getfield 38, 3, 2, 0, 0, 0),
  none, none, some (.getfield 65, 3, 0, 10, 0, 0), none, none, some (.iload 4, 2, 4, 0, 0, 0),
  none, some (.iconst 0, 1, 0, 0, 0, 0), some (.iadd, 1, 0, 0, 0, 0), some (.iaload, 1, 0, 0, 0, 0), some (.iload_n 3, 1, 3, 0, 0, 0), some (.invokevirtual 68, 3, 6, 2, 1, 0),
  none, none, some (.iconst 3, 1, 0, 0, 0, 3), some (.aload_n 0, 1, 0, 0, 0, 0), some (.getfield 31, 3, 2, 5, 0, 0), none,
  none, some (.invokevirtual 83, 3, 72, 2, 1, 10), none, none, some (.ireturn, 1, 0, 0, 0, 0)
  ])
def mi_X2_factOfTerm : am_MI := (yX2_factOfTerm, cX2_factOfTerm, 6, (some FieldType.int), [
  some (.aload_n 0, 1, 0, 0, 0, 0), some (.getfield 38, 3, 2, 0, 0, 0), none, none, some (.iload_n 1, 1, 1, 0, 0, 0), some (.iload_n 2, 1, 2, 0, 0, 0),
  some (.invokevirtual 61, 3, 7, 2, 1, 0), none, none, some (.istore 4, 2, 4, 0, 0, 0), none, some (.aload_n 0, 1, 0, 0, 0, 0),
  some (.getfield 38, 3, 2, 0, 0, 0), none, none, some (.aload_n 0, 1, 0, 0, 0, 0), some (.getfield 38, 3, 2, 0, 0, 0), none,
  none, some (.getfield 65, 3, 0, 10, 0, 0), none, none, some (.iload 4, 2, 4, 0, 0, 0), none,
  some (.iconst 0, 1, 0, 0, 0, 0), some (.iadd, 1, 0, 0, 0, 0), some (.iaload, 1, 0, 0, 0, 0), some (.aload_n 0, 1, 0, 0, 0, 0), some (.getfield 38, 3, 2, 0, 0, 0), none,
  none, some (.getfield 105, 3, 0, 0, 0, 0), none, none, some (.iconst 0, 1, 0, 0, 0, 0), some (.iaload, 1, 0, 0, 0, 0),
  some (.invokevirtual 68, 3, 6, 2, 1, 0), none, none, some (.astore 5, 2, 5, 0, 0, 0), none, some (.iload_n 3, 1, 3, 0, 0, 0),
  some (.ifCond .lt 12, 3, 54, 0, 0, 0), none, none, some (.iload_n 3, 1, 3, 0, 0, 0), some (.aload 5, 2, 5, 0, 0, 0), none,
  some (.getfield 72, 3, 10, 0, 0, 0), none, none, some (.if_icmp .lt 5, 3, 56, 0, 0, 0), none, none,
  some (.iconst (-1), 1, 0, 0, 0, -1), some (.ireturn, 1, 0, 0, 0, 0), some (.aload_n 0, 1, 0, 0, 0, 0), some (.getfield 38, 3, 2, 0, 0, 0), none, none,
  some (.getfield 65, 3, 0, 10, 0, 0), none, none, some (.iload 4, 2, 4, 0, 0, 0), none, some (.iconst 1, 1, 0, 0, 0, 1),
  some (.iadd, 1, 0, 0, 0, 0), some (.iaload, 1, 0, 0, 0, 0), some (.aload_n 0, 1, 0, 0, 0, 0), some (.getfield 31, 3, 2, 5, 0, 0), none, none,
  some (.invokestatic 75, 3, 70, 2, 1, 0), none, none, some (.aload 5, 2, 5, 0, 0, 0), none, some (.iload_n 3, 1, 3, 0, 0, 0),
  some (.aload_n 0, 1, 0, 0, 0, 0), some (.getfield 31, 3, 2, 5, 0, 0), none, none, some (.invokevirtual 83, 3, 72, 2, 1, 10), none,
  none, some (.ireturn, 1, 0, 0, 0, 0)
  ])
def mi_X2_saidBy : am_MI := (yX2_saidBy, cX2_saidBy, 4, (some FieldType.int), [
  some (.aload_n 0, 1, 0, 0, 0, 0), some (.getfield 38, 3, 2, 0, 0, 0), none, none, some (.iload_n 3, 1, 3, 0, 0, 0), some (.invokevirtual 108, 3, 4, 1, 1, 0),
  none, none, some (.ifCond .eq 13, 3, 21, 0, 0, 0), none, none, some (.aload_n 0, 1, 0, 0, 0, 0),
  some (.getfield 38, 3, 2, 0, 0, 0), none, none, some (.getfield 95, 3, 0, 5, 0, 0), none, none,
  some (.iload_n 3, 1, 3, 0, 0, 0), some (.iaload, 1, 0, 0, 0, 0), some (.ireturn, 1, 0, 0, 0, 0), some (.iload_n 3, 1, 3, 0, 0, 0), some (.bipush 100, 2, 0, 0, 0, 100), none,
  some (.if_icmp .lt 30, 3, 54, 0, 0, 0), none, none, some (.iload_n 3, 1, 3, 0, 0, 0), some (.bipush 100, 2, 0, 0, 0, 100), none,
  some (.iload_n 2, 1, 2, 0, 0, 0), some (.iadd, 1, 0, 0, 0, 0), some (.if_icmp .ge 22, 3, 54, 0, 0, 0), none, none, some (.aload_n 0, 1, 0, 0, 0, 0),
  some (.iload_n 1, 1, 1, 0, 0, 0), some (.iload_n 3, 1, 3, 0, 0, 0), some (.bipush 100, 2, 0, 0, 0, 100), none, some (.isub, 1, 0, 0, 0, 0), some (.aload_n 0, 1, 0, 0, 0, 0),
  some (.getfield 38, 3, 2, 0, 0, 0), none, none, some (.getfield 105, 3, 0, 0, 0, 0), none, none,
  some (.iconst 0, 1, 0, 0, 0, 0), some (.iaload, 1, 0, 0, 0, 0), some (.invokevirtual 47, 3, 23, 3, 0, 2), none, none, some (.ireturn, 1, 0, 0, 0, 0),
  some (.iconst (-1), 1, 0, 0, 0, -1), some (.ireturn, 1, 0, 0, 0, 0)
  ])
def mi_X2_papersUnder : am_MI := (yX2_papersUnder, cX2_papersUnder, 4, (some FieldType.int), [
  some (.iconst 0, 1, 0, 0, 0, 0), some (.istore_n 2, 1, 2, 0, 0, 0), some (.iload_n 2, 1, 2, 0, 0, 0), some (.iload_n 1, 1, 1, 0, 0, 0), some (.if_icmp .gt 60, 3, 64, 0, 0, 0), none,
  none, some (.aload_n 0, 1, 0, 0, 0, 0), some (.getfield 22, 3, 2, 4, 0, 0), none, none, some (.iload_n 2, 1, 2, 0, 0, 0),
  some (.iconst 0, 1, 0, 0, 0, 0), some (.iastore, 1, 0, 0, 0, 0), some (.iconst 0, 1, 0, 0, 0, 0), some (.istore_n 3, 1, 3, 0, 0, 0), some (.iload_n 3, 1, 3, 0, 0, 0), some (.aload_n 0, 1, 0, 0, 0, 0),
  some (.getfield 38, 3, 2, 0, 0, 0), none, none, some (.getfield 42, 3, 0, 9, 0, 0), none, none,
  some (.iload_n 2, 1, 2, 0, 0, 0), some (.iaload, 1, 0, 0, 0, 0), some (.if_icmp .ge 32, 3, 58, 0, 0, 0), none, none, some (.aload_n 0, 1, 0, 0, 0, 0),
  some (.getfield 22, 3, 2, 4, 0, 0), none, none, some (.iload_n 2, 1, 2, 0, 0, 0), some (.dup2, 1, 0, 0, 0, 0), some (.iaload, 1, 0, 0, 0, 0),
  some (.aload_n 0, 1, 0, 0, 0, 0), some (.iload_n 2, 1, 2, 0, 0, 0), some (.aload_n 0, 1, 0, 0, 0, 0), some (.getfield 38, 3, 2, 0, 0, 0), none, none,
  some (.iload_n 2, 1, 2, 0, 0, 0), some (.iload_n 3, 1, 3, 0, 0, 0), some (.invokevirtual 61, 3, 7, 2, 1, 0), none, none, some (.invokevirtual 111, 3, 27, 2, 0, 2),
  none, none, some (.ior, 1, 0, 0, 0, 0), some (.iastore, 1, 0, 0, 0, 0), some (.iinc 3 1, 3, 3, 0, 0, 1), none,
  none, some (.goto (-39), 3, 16, 0, 0, 0), none, none, some (.iinc 2 1, 3, 2, 0, 0, 1), none,
  none, some (.goto (-59), 3, 2, 0, 0, 0), none, none, some (.aload_n 0, 1, 0, 0, 0, 0), some (.getfield 22, 3, 2, 4, 0, 0),
  none, none, some (.iload_n 1, 1, 1, 0, 0, 0), some (.iaload, 1, 0, 0, 0, 0), some (.ireturn, 1, 0, 0, 0, 0)
  ])
def mi_X2_papersUnderStep : am_MI := (yX2_papersUnderStep, cX2_papersUnderStep, 7, (some FieldType.int), [
  some (.iconst 0, 1, 0, 0, 0, 0), some (.istore_n 3, 1, 3, 0, 0, 0), some (.iconst 0, 1, 0, 0, 0, 0), some (.istore 4, 2, 4, 0, 0, 0), none, some (.iload 4, 2, 4, 0, 0, 0),
  none, some (.aload_n 0, 1, 0, 0, 0, 0), some (.getfield 38, 3, 2, 0, 0, 0), none, none, some (.getfield 65, 3, 0, 10, 0, 0),
  none, none, some (.iload_n 2, 1, 2, 0, 0, 0), some (.iconst 2, 1, 0, 0, 0, 2), some (.iadd, 1, 0, 0, 0, 0), some (.iaload, 1, 0, 0, 0, 0),
  some (.if_icmp .ge 75, 3, 93, 0, 0, 0), none, none, some (.aload_n 0, 1, 0, 0, 0, 0), some (.getfield 38, 3, 2, 0, 0, 0), none,
  none, some (.getfield 65, 3, 0, 10, 0, 0), none, none, some (.iload_n 2, 1, 2, 0, 0, 0), some (.iconst 3, 1, 0, 0, 0, 3),
  some (.iadd, 1, 0, 0, 0, 0), some (.iload 4, 2, 4, 0, 0, 0), none, some (.iadd, 1, 0, 0, 0, 0), some (.iaload, 1, 0, 0, 0, 0), some (.istore 5, 2, 5, 0, 0, 0),
  none, some (.aload_n 0, 1, 0, 0, 0, 0), some (.getfield 38, 3, 2, 0, 0, 0), none, none, some (.iload_n 1, 1, 1, 0, 0, 0),
  some (.iload 5, 2, 5, 0, 0, 0), none, some (.invokevirtual 98, 3, 10, 2, 1, 0), none, none, some (.istore 6, 2, 6, 0, 0, 0),
  none, some (.aload_n 0, 1, 0, 0, 0, 0), some (.getfield 38, 3, 2, 0, 0, 0), none, none, some (.iconst 3, 1, 0, 0, 0, 3),
  some (.iload 5, 2, 5, 0, 0, 0), none, some (.invokevirtual 91, 3, 2, 2, 1, 0), none, none, some (.ifCond .eq 13, 3, 72, 0, 0, 0),
  none, none, some (.iload_n 3, 1, 3, 0, 0, 0), some (.iconst 1, 1, 0, 0, 0, 1), some (.iload 5, 2, 5, 0, 0, 0), none,
  some (.ishl, 1, 0, 0, 0, 0), some (.ior, 1, 0, 0, 0, 0), some (.istore_n 3, 1, 3, 0, 0, 0), some (.goto 18, 3, 87, 0, 0, 0), none, none,
  some (.iload 6, 2, 6, 0, 0, 0), none, some (.ifCond .lt 13, 3, 87, 0, 0, 0), none, none, some (.iload_n 3, 1, 3, 0, 0, 0),
  some (.aload_n 0, 1, 0, 0, 0, 0), some (.getfield 22, 3, 2, 4, 0, 0), none, none, some (.iload 6, 2, 6, 0, 0, 0), none,
  some (.iaload, 1, 0, 0, 0, 0), some (.ior, 1, 0, 0, 0, 0), some (.istore_n 3, 1, 3, 0, 0, 0), some (.iinc 4 1, 3, 4, 0, 0, 1), none, none,
  some (.goto (-85), 3, 5, 0, 0, 0), none, none, some (.iload_n 3, 1, 3, 0, 0, 0), some (.ireturn, 1, 0, 0, 0, 0)
  ])
def mi_X3_init : am_MI := (yX3_init, cX3_init, 1, none, [
  some (.aload_n 0, 1, 0, 0, 0, 0), some (.invokespecial 1, 3, 0, 0, 2, 0), none, none, some (.return_, 1, 0, 0, 0, 0)
  ])
def mi_X3_actLeans : am_MI := (yX3_actLeans, cX3_actLeans, 4, (some FieldType.int), [
  some (.iload_n 1, 1, 1, 0, 0, 0), some (.iload_n 3, 1, 3, 0, 0, 0), some (.iadd, 1, 0, 0, 0, 0), some (.ireturn, 1, 0, 0, 0, 0)
  ])
def mi_X3_actShows : am_MI := (yX3_actShows, cX3_actShows, 4, (some FieldType.int), [
  some (.aload_n 0, 1, 0, 0, 0, 0), some (.iload_n 1, 1, 1, 0, 0, 0), some (.iload_n 2, 1, 2, 0, 0, 0), some (.iload_n 3, 1, 3, 0, 0, 0), some (.invokevirtual 7, 3, 216, 3, 3, 0), none,
  none, some (.iload_n 2, 1, 2, 0, 0, 0), some (.isub, 1, 0, 0, 0, 0), some (.ireturn, 1, 0, 0, 0, 0)
  ])
def mi_X3_actEnds : am_MI := (yX3_actEnds, cX3_actEnds, 4, (some FieldType.int), [
  some (.aload_n 0, 1, 0, 0, 0, 0), some (.iload_n 1, 1, 1, 0, 0, 0), some (.iload_n 2, 1, 2, 0, 0, 0), some (.iload_n 3, 1, 3, 0, 0, 0), some (.invokevirtual 13, 3, 225, 3, 3, 0), none,
  none, some (.iconst 2, 1, 0, 0, 0, 2), some (.imul, 1, 0, 0, 0, 0), some (.ireturn, 1, 0, 0, 0, 0)
  ])
def mi_X4_init : am_MI := (yX4_init, cX4_init, 1, none, [
  some (.aload_n 0, 1, 0, 0, 0, 0), some (.invokespecial 1, 3, 35, 0, 1, 0), none, none, some (.return_, 1, 0, 0, 0, 0)
  ])
def mi_X4_actShows : am_MI := (yX4_actShows, cX4_actShows, 4, (some FieldType.int), [
  some (.aload_n 0, 1, 0, 0, 0, 0), some (.iload_n 1, 1, 1, 0, 0, 0), some (.iconst 1, 1, 0, 0, 0, 1), some (.iadd, 1, 0, 0, 0, 0), some (.iload_n 2, 1, 2, 0, 0, 0), some (.iload_n 3, 1, 3, 0, 0, 0),
  some (.invokespecial 7, 3, 30, 3, 3, 0), none, none, some (.ireturn, 1, 0, 0, 0, 0)
  ])
def mi_X4_actEnds : am_MI := (yX4_actEnds, cX4_actEnds, 4, (some FieldType.int), [
  some (.aload_n 0, 1, 0, 0, 0, 0), some (.iload_n 1, 1, 1, 0, 0, 0), some (.iload_n 2, 1, 2, 0, 0, 0), some (.iload_n 3, 1, 3, 0, 0, 0), some (.invokespecial 11, 3, 31, 3, 3, 0), none,
  none, some (.aload_n 0, 1, 0, 0, 0, 0), some (.iconst 1, 1, 0, 0, 0, 1), some (.iload_n 2, 1, 2, 0, 0, 0), some (.iload_n 3, 1, 3, 0, 0, 0), some (.invokevirtual 14, 3, 36, 3, 4, 4),
  none, none, some (.iadd, 1, 0, 0, 0, 0), some (.ireturn, 1, 0, 0, 0, 0)
  ])
def mi_X5_init : am_MI := (yX5_init, cX5_init, 1, none, [
  some (.aload_n 0, 1, 0, 0, 0, 0), some (.invokespecial 1, 3, 28, 0, 1, 0), none, none, some (.return_, 1, 0, 0, 0, 0)
  ])
def mi_X5_actLeans : am_MI := (yX5_actLeans, cX5_actLeans, 4, (some FieldType.int), [
  some (.aload_n 0, 1, 0, 0, 0, 0), some (.iload_n 1, 1, 1, 0, 0, 0), some (.iconst 2, 1, 0, 0, 0, 2), some (.imul, 1, 0, 0, 0, 0), some (.iload_n 2, 1, 2, 0, 0, 0), some (.iload_n 3, 1, 3, 0, 0, 0),
  some (.invokespecial 7, 3, 29, 3, 3, 0), none, none, some (.ireturn, 1, 0, 0, 0, 0)
  ])
def mi_X6_init : am_MI := (yX6_init, cX6_init, 2, none, [
  some (.aload_n 0, 1, 0, 0, 0, 0), some (.invokespecial 3, 3, 0, 0, 2, 0), none, none, some (.aload_n 0, 1, 0, 0, 0, 0), some (.sipush 750, 3, 0, 0, 0, 750),
  none, none, some (.newarray .int, 2, 0, 0, 0, 0), none, some (.putfield 9, 3, 6, 1, 0, 0), none,
  none, some (.aload_n 0, 1, 0, 0, 0, 0), some (.sipush 750, 3, 0, 0, 0, 750), none, none, some (.newarray .int, 2, 0, 0, 0, 0),
  none, some (.putfield 15, 3, 6, 2, 0, 0), none, none, some (.aload_n 0, 1, 0, 0, 0, 0), some (.iconst 0, 1, 0, 0, 0, 0),
  some (.putfield 18, 3, 6, 3, 0, 0), none, none, some (.aload_n 0, 1, 0, 0, 0, 0), some (.sipush 750, 3, 0, 0, 0, 750), none,
  none, some (.newarray .boolean, 2, 2, 0, 0, 0), none, some (.putfield 22, 3, 6, 4, 0, 0), none, none,
  some (.aload_n 0, 1, 0, 0, 0, 0), some (.iconst 0, 1, 0, 0, 0, 0), some (.putfield 26, 3, 6, 5, 0, 0), none, none, some (.aload_n 0, 1, 0, 0, 0, 0),
  some (.bipush 8, 2, 0, 0, 0, 8), none, some (.anewarray 30, 3, 3, 0, 0, 0), none, none, some (.putfield 32, 3, 6, 6, 0, 0),
  none, none, some (.aload_n 0, 1, 0, 0, 0, 0), some (.invokestatic 36, 3, 69, 0, 1, 0), none, none,
  some (.putfield 40, 3, 6, 7, 0, 0), none, none, some (.aload_n 0, 1, 0, 0, 0, 0), some (.aload_n 1, 1, 1, 0, 0, 0), some (.putfield 43, 3, 6, 0, 0, 0),
  none, none, some (.aload_n 0, 1, 0, 0, 0, 0), some (.getfield 9, 3, 6, 1, 0, 0), none, none,
  some (.iconst (-1), 1, 0, 0, 0, -1), some (.invokestatic 47, 3, 215, 2, 0, 0), none, none, some (.return_, 1, 0, 0, 0, 0)
  ])
def mi_X6_has : am_MI := (yX6_has, cX6_has, 2, (some FieldType.boolean), [
  some (.aload_n 0, 1, 0, 0, 0, 0), some (.getfield 9, 3, 6, 1, 0, 0), none, none, some (.iload_n 1, 1, 1, 0, 0, 0), some (.iaload, 1, 0, 0, 0, 0),
  some (.ifCond .lt 7, 3, 13, 0, 0, 0), none, none, some (.iconst 1, 1, 0, 0, 0, 1), some (.goto 4, 3, 14, 0, 0, 0), none,
  none, some (.iconst 0, 1, 0, 0, 0, 0), some (.ireturn, 1, 0, 0, 0, 0)
  ])
def mi_X6_begin : am_MI := (yX6_begin, cX6_begin, 4, none, [
  some (.iconst 0, 1, 0, 0, 0, 0), some (.istore_n 3, 1, 3, 0, 0, 0), some (.iload_n 3, 1, 3, 0, 0, 0), some (.aload_n 0, 1, 0, 0, 0, 0), some (.getfield 18, 3, 6, 3, 0, 0), none,
  none, some (.if_icmp .ge 33, 3, 40, 0, 0, 0), none, none, some (.aload_n 0, 1, 0, 0, 0, 0), some (.getfield 9, 3, 6, 1, 0, 0),
  none, none, some (.aload_n 0, 1, 0, 0, 0, 0), some (.getfield 15, 3, 6, 2, 0, 0), none, none,
  some (.iload_n 3, 1, 3, 0, 0, 0), some (.iaload, 1, 0, 0, 0, 0), some (.iconst (-1), 1, 0, 0, 0, -1), some (.iastore, 1, 0, 0, 0, 0), some (.aload_n 0, 1, 0, 0, 0, 0), some (.getfield 22, 3, 6, 4, 0, 0),
  none, none, some (.aload_n 0, 1, 0, 0, 0, 0), some (.getfield 15, 3, 6, 2, 0, 0), none, none,
  some (.iload_n 3, 1, 3, 0, 0, 0), some (.iaload, 1, 0, 0, 0, 0), some (.iconst 0, 1, 0, 0, 0, 0), some (.bastore, 1, 2, 0, 0, 0), some (.iinc 3 1, 3, 3, 0, 0, 1), none,
  none, some (.goto (-35), 3, 2, 0, 0, 0), none, none, some (.aload_n 0, 1, 0, 0, 0, 0), some (.iconst 0, 1, 0, 0, 0, 0),
  some (.putfield 18, 3, 6, 3, 0, 0), none, none, some (.aload_n 0, 1, 0, 0, 0, 0), some (.iload_n 2, 1, 2, 0, 0, 0), some (.putfield 26, 3, 6, 5, 0, 0),
  none, none, some (.iconst 0, 1, 0, 0, 0, 0), some (.istore_n 3, 1, 3, 0, 0, 0), some (.iload_n 3, 1, 3, 0, 0, 0), some (.aload_n 0, 1, 0, 0, 0, 0),
  some (.getfield 43, 3, 6, 0, 0, 0), none, none, some (.getfield 53, 3, 0, 0, 0, 0), none, none,
  some (.iconst 3, 1, 0, 0, 0, 3), some (.iaload, 1, 0, 0, 0, 0), some (.if_icmp .ge 39, 3, 101, 0, 0, 0), none, none, some (.iload_n 1, 1, 1, 0, 0, 0),
  some (.iload_n 3, 1, 3, 0, 0, 0), some (.ishr, 1, 0, 0, 0, 0), some (.iconst 1, 1, 0, 0, 0, 1), some (.iand, 1, 0, 0, 0, 0), some (.ifCond .eq 25, 3, 95, 0, 0, 0), none,
  none, some (.aload_n 0, 1, 0, 0, 0, 0), some (.aload_n 0, 1, 0, 0, 0, 0), some (.getfield 43, 3, 6, 0, 0, 0), none, none,
  some (.getfield 58, 3, 0, 5, 0, 0), none, none, some (.iload_n 3, 1, 3, 0, 0, 0), some (.iaload, 1, 0, 0, 0, 0), some (.iload_n 2, 1, 2, 0, 0, 0),
  some (.ifCond .eq 7, 3, 91, 0, 0, 0), none, none, some (.iconst 1, 1, 0, 0, 0, 1), some (.goto 4, 3, 92, 0, 0, 0), none,
  none, some (.iconst 0, 1, 0, 0, 0, 0), some (.invokevirtual 61, 3, 49, 2, 0, 6), none, none, some (.iinc 3 1, 3, 3, 0, 0, 1),
  none, none, some (.goto (-46), 3, 52, 0, 0, 0), none, none, some (.return_, 1, 0, 0, 0, 0)
  ])
def mi_X6_spread : am_MI := (yX6_spread, cX6_spread, 7, none, [
  some (.aload_n 0, 1, 0, 0, 0, 0), some (.iload_n 2, 1, 2, 0, 0, 0), some (.iload_n 3, 1, 3, 0, 0, 0), some (.invokevirtual 65, 3, 39, 2, 0, 6), none, none,
  some (.aload_n 0, 1, 0, 0, 0, 0), some (.getfield 43, 3, 6, 0, 0, 0), none, none, some (.getfield 53, 3, 0, 0, 0, 0), none,
  none, some (.iconst 1, 1, 0, 0, 0, 1), some (.iaload, 1, 0, 0, 0, 0), some (.istore 4, 2, 4, 0, 0, 0), none, some (.iconst 0, 1, 0, 0, 0, 0),
  some (.istore 5, 2, 5, 0, 0, 0), none, some (.iload 5, 2, 5, 0, 0, 0), none, some (.iload 4, 2, 4, 0, 0, 0), none,
  some (.if_icmp .ge 26, 3, 50, 0, 0, 0), none, none, some (.aload_n 0, 1, 0, 0, 0, 0), some (.getfield 32, 3, 6, 6, 0, 0), none,
  none, some (.iload 5, 2, 5, 0, 0, 0), none, some (.aload_n 0, 1, 0, 0, 0, 0), some (.getfield 43, 3, 6, 0, 0, 0), none,
  none, some (.iload 5, 2, 5, 0, 0, 0), none, some (.iload_n 1, 1, 1, 0, 0, 0), some (.invokevirtual 69, 3, 6, 2, 1, 0), none,
  none, some (.aastore, 1, 3, 0, 0, 0), some (.iinc 5 1, 3, 5, 0, 0, 1), none, none, some (.goto (-27), 3, 20, 0, 0, 0),
  none, none, some (.iconst 0, 1, 0, 0, 0, 0), some (.istore 5, 2, 5, 0, 0, 0), none, some (.iload 5, 2, 5, 0, 0, 0),
  none, some (.aload_n 0, 1, 0, 0, 0, 0), some (.getfield 18, 3, 6, 3, 0, 0), none, none, some (.if_icmp .ge 77, 3, 136, 0, 0, 0),
  none, none, some (.iload 5, 2, 5, 0, 0, 0), none, some (.sipush 750, 3, 0, 0, 0, 750), none,
  none, some (.if_icmp .ge 69, 3, 136, 0, 0, 0), none, none, some (.aload_n 0, 1, 0, 0, 0, 0), some (.getfield 26, 3, 6, 5, 0, 0),
  none, none, some (.ifCond .eq 9, 3, 83, 0, 0, 0), none, none, some (.aload_n 0, 1, 0, 0, 0, 0),
  some (.iload 5, 2, 5, 0, 0, 0), none, some (.invokevirtual 73, 3, 41, 1, 0, 6), none, none, some (.aload_n 0, 1, 0, 0, 0, 0),
  some (.getfield 22, 3, 6, 4, 0, 0), none, none, some (.aload_n 0, 1, 0, 0, 0, 0), some (.getfield 15, 3, 6, 2, 0, 0), none,
  none, some (.iload 5, 2, 5, 0, 0, 0), none, some (.iaload, 1, 0, 0, 0, 0), some (.iconst 1, 1, 0, 0, 0, 1), some (.bastore, 1, 2, 0, 0, 0),
  some (.iconst 0, 1, 0, 0, 0, 0), some (.istore 6, 2, 6, 0, 0, 0), none, some (.iload 6, 2, 6, 0, 0, 0), none, some (.iload 4, 2, 4, 0, 0, 0),
  none, some (.if_icmp .ge 27, 3, 130, 0, 0, 0), none, none, some (.aload_n 0, 1, 0, 0, 0, 0), some (.aload_n 0, 1, 0, 0, 0, 0),
  some (.getfield 32, 3, 6, 6, 0, 0), none, none, some (.iload 6, 2, 6, 0, 0, 0), none, some (.aaload, 1, 3, 0, 0, 0),
  some (.aload_n 0, 1, 0, 0, 0, 0), some (.getfield 15, 3, 6, 2, 0, 0), none, none, some (.iload 5, 2, 5, 0, 0, 0), none,
  some (.iaload, 1, 0, 0, 0, 0), some (.invokevirtual 77, 3, 42, 2, 0, 6), none, none, some (.iinc 6 1, 3, 6, 0, 0, 1), none,
  none, some (.goto (-28), 3, 99, 0, 0, 0), none, none, some (.iinc 5 1, 3, 5, 0, 0, 1), none,
  none, some (.goto (-80), 3, 53, 0, 0, 0), none, none, some (.return_, 1, 0, 0, 0, 0)
  ])
def mi_X6_bringLeast : am_MI := (yX6_bringLeast, cX6_bringLeast, 4, none, [
  some (.iload_n 1, 1, 1, 0, 0, 0), some (.istore_n 2, 1, 2, 0, 0, 0), some (.iload_n 1, 1, 1, 0, 0, 0), some (.iconst 1, 1, 0, 0, 0, 1), some (.iadd, 1, 0, 0, 0, 0), some (.istore_n 3, 1, 3, 0, 0, 0),
  some (.iload_n 3, 1, 3, 0, 0, 0), some (.aload_n 0, 1, 0, 0, 0, 0), some (.getfield 18, 3, 6, 3, 0, 0), none, none, some (.if_icmp .ge 36, 3, 47, 0, 0, 0),
  none, none, some (.aload_n 0, 1, 0, 0, 0, 0), some (.getfield 9, 3, 6, 1, 0, 0), none, none,
  some (.aload_n 0, 1, 0, 0, 0, 0), some (.getfield 15, 3, 6, 2, 0, 0), none, none, some (.iload_n 3, 1, 3, 0, 0, 0), some (.iaload, 1, 0, 0, 0, 0),
  some (.iaload, 1, 0, 0, 0, 0), some (.aload_n 0, 1, 0, 0, 0, 0), some (.getfield 9, 3, 6, 1, 0, 0), none, none, some (.aload_n 0, 1, 0, 0, 0, 0),
  some (.getfield 15, 3, 6, 2, 0, 0), none, none, some (.iload_n 2, 1, 2, 0, 0, 0), some (.iaload, 1, 0, 0, 0, 0), some (.iaload, 1, 0, 0, 0, 0),
  some (.if_icmp .ge 5, 3, 41, 0, 0, 0), none, none, some (.iload_n 3, 1, 3, 0, 0, 0), some (.istore_n 2, 1, 2, 0, 0, 0), some (.iinc 3 1, 3, 3, 0, 0, 1),
  none, none, some (.goto (-38), 3, 6, 0, 0, 0), none, none, some (.aload_n 0, 1, 0, 0, 0, 0),
  some (.getfield 15, 3, 6, 2, 0, 0), none, none, some (.iload_n 2, 1, 2, 0, 0, 0), some (.iaload, 1, 0, 0, 0, 0), some (.istore_n 3, 1, 3, 0, 0, 0),
  some (.aload_n 0, 1, 0, 0, 0, 0), some (.getfield 15, 3, 6, 2, 0, 0), none, none, some (.iload_n 2, 1, 2, 0, 0, 0), some (.aload_n 0, 1, 0, 0, 0, 0),
  some (.getfield 15, 3, 6, 2, 0, 0), none, none, some (.iload_n 1, 1, 1, 0, 0, 0), some (.iaload, 1, 0, 0, 0, 0), some (.iastore, 1, 0, 0, 0, 0),
  some (.aload_n 0, 1, 0, 0, 0, 0), some (.getfield 15, 3, 6, 2, 0, 0), none, none, some (.iload_n 1, 1, 1, 0, 0, 0), some (.iload_n 3, 1, 3, 0, 0, 0),
  some (.iastore, 1, 0, 0, 0, 0), some (.return_, 1, 0, 0, 0, 0)
  ])
def mi_X6_useIn : am_MI := (yX6_useIn, cX6_useIn, 4, none, [
  some (.iconst 0, 1, 0, 0, 0, 0), some (.istore_n 3, 1, 3, 0, 0, 0), some (.iload_n 3, 1, 3, 0, 0, 0), some (.aload_n 1, 1, 1, 0, 0, 0), some (.getfield 81, 3, 10, 0, 0, 0), none,
  none, some (.if_icmp .ge 25, 3, 32, 0, 0, 0), none, none, some (.aload_n 0, 1, 0, 0, 0, 0), some (.aload_n 1, 1, 1, 0, 0, 0),
  some (.iload_n 3, 1, 3, 0, 0, 0), some (.iload_n 2, 1, 2, 0, 0, 0), some (.invokevirtual 84, 3, 45, 3, 0, 6), none, none, some (.ifCond .eq 9, 3, 26, 0, 0, 0),
  none, none, some (.aload_n 0, 1, 0, 0, 0, 0), some (.aload_n 1, 1, 1, 0, 0, 0), some (.iconst 5, 1, 0, 0, 0, 5), some (.invokevirtual 88, 3, 47, 2, 0, 6),
  none, none, some (.iinc 3 1, 3, 3, 0, 0, 1), none, none, some (.goto (-27), 3, 2, 0, 0, 0),
  none, none, some (.return_, 1, 0, 0, 0, 0)
  ])
def mi_X6_useOnce : am_MI := (yX6_useOnce, cX6_useOnce, 4, none, [
  some (.aload_n 0, 1, 0, 0, 0, 0), some (.getfield 18, 3, 6, 3, 0, 0), none, none, some (.istore_n 2, 1, 2, 0, 0, 0), some (.iconst 0, 1, 0, 0, 0, 0),
  some (.istore_n 3, 1, 3, 0, 0, 0), some (.iload_n 3, 1, 3, 0, 0, 0), some (.iload_n 2, 1, 2, 0, 0, 0), some (.if_icmp .ge 30, 3, 39, 0, 0, 0), none, none,
  some (.aload_n 0, 1, 0, 0, 0, 0), some (.aload_n 1, 1, 1, 0, 0, 0), some (.iconst 0, 1, 0, 0, 0, 0), some (.aload_n 0, 1, 0, 0, 0, 0), some (.getfield 15, 3, 6, 2, 0, 0), none,
  none, some (.iload_n 3, 1, 3, 0, 0, 0), some (.iaload, 1, 0, 0, 0, 0), some (.invokevirtual 84, 3, 45, 3, 0, 6), none, none,
  some (.ifCond .eq 9, 3, 33, 0, 0, 0), none, none, some (.aload_n 0, 1, 0, 0, 0, 0), some (.aload_n 1, 1, 1, 0, 0, 0), some (.iconst 5, 1, 0, 0, 0, 5),
  some (.invokevirtual 88, 3, 47, 2, 0, 6), none, none, some (.iinc 3 1, 3, 3, 0, 0, 1), none, none,
  some (.goto (-29), 3, 7, 0, 0, 0), none, none, some (.aload_n 0, 1, 0, 0, 0, 0), some (.iload_n 2, 1, 2, 0, 0, 0), some (.invokevirtual 91, 3, 44, 1, 0, 6),
  none, none, some (.return_, 1, 0, 0, 0, 0)
  ])
def mi_X6_settleFrom : am_MI := (yX6_settleFrom, cX6_settleFrom, 3, none, [
  some (.iload_n 1, 1, 1, 0, 0, 0), some (.istore_n 2, 1, 2, 0, 0, 0), some (.iload_n 2, 1, 2, 0, 0, 0), some (.aload_n 0, 1, 0, 0, 0, 0), some (.getfield 18, 3, 6, 3, 0, 0), none,
  none, some (.if_icmp .ge 21, 3, 28, 0, 0, 0), none, none, some (.aload_n 0, 1, 0, 0, 0, 0), some (.getfield 22, 3, 6, 4, 0, 0),
  none, none, some (.aload_n 0, 1, 0, 0, 0, 0), some (.getfield 15, 3, 6, 2, 0, 0), none, none,
  some (.iload_n 2, 1, 2, 0, 0, 0), some (.iaload, 1, 0, 0, 0, 0), some (.iconst 1, 1, 0, 0, 0, 1), some (.bastore, 1, 2, 0, 0, 0), some (.iinc 2 1, 3, 2, 0, 0, 1), none,
  none, some (.goto (-23), 3, 2, 0, 0, 0), none, none, some (.return_, 1, 0, 0, 0, 0)
  ])
def mi_X6_bind : am_MI := (yX6_bind, cX6_bind, 5, (some FieldType.boolean), [
  some (.aload_n 1, 1, 1, 0, 0, 0), some (.getfield 94, 3, 10, 3, 0, 0), none, none, some (.iconst 4, 1, 0, 0, 0, 4), some (.iload_n 2, 1, 2, 0, 0, 0),
  some (.imul, 1, 0, 0, 0, 0), some (.iaload, 1, 0, 0, 0, 0), some (.iload_n 3, 1, 3, 0, 0, 0), some (.bipush 125, 2, 0, 0, 0, 125), none, some (.idiv, 1, 0, 0, 0, 0),
  some (.if_icmp .eq 5, 3, 17, 0, 0, 0), none, none, some (.iconst 0, 1, 0, 0, 0, 0), some (.ireturn, 1, 0, 0, 0, 0), some (.iconst 5, 1, 0, 0, 0, 5),
  some (.istore 4, 2, 4, 0, 0, 0), none, some (.iload 4, 2, 4, 0, 0, 0), none, some (.bipush 9, 2, 0, 0, 0, 9), none,
  some (.if_icmp .ge 17, 3, 41, 0, 0, 0), none, none, some (.aload_n 0, 1, 0, 0, 0, 0), some (.getfield 40, 3, 6, 7, 0, 0), none,
  none, some (.iload 4, 2, 4, 0, 0, 0), none, some (.iconst (-1), 1, 0, 0, 0, -1), some (.iastore, 1, 0, 0, 0, 0), some (.iinc 4 1, 3, 4, 0, 0, 1),
  none, none, some (.goto (-18), 3, 20, 0, 0, 0), none, none, some (.aload_n 0, 1, 0, 0, 0, 0),
  some (.aload_n 1, 1, 1, 0, 0, 0), some (.getfield 94, 3, 10, 3, 0, 0), none, none, some (.iconst 4, 1, 0, 0, 0, 4), some (.iload_n 2, 1, 2, 0, 0, 0),
  some (.imul, 1, 0, 0, 0, 0), some (.iconst 1, 1, 0, 0, 0, 1), some (.iadd, 1, 0, 0, 0, 0), some (.iaload, 1, 0, 0, 0, 0), some (.iload_n 3, 1, 3, 0, 0, 0), some (.bipush 25, 2, 0, 0, 0, 25),
  none, some (.idiv, 1, 0, 0, 0, 0), some (.iconst 5, 1, 0, 0, 0, 5), some (.irem, 1, 0, 0, 0, 0), some (.invokevirtual 97, 3, 46, 2, 0, 6), none,
  none, some (.ifCond .eq 49, 3, 110, 0, 0, 0), none, none, some (.aload_n 0, 1, 0, 0, 0, 0), some (.aload_n 1, 1, 1, 0, 0, 0),
  some (.getfield 94, 3, 10, 3, 0, 0), none, none, some (.iconst 4, 1, 0, 0, 0, 4), some (.iload_n 2, 1, 2, 0, 0, 0), some (.imul, 1, 0, 0, 0, 0),
  some (.iconst 2, 1, 0, 0, 0, 2), some (.iadd, 1, 0, 0, 0, 0), some (.iaload, 1, 0, 0, 0, 0), some (.iload_n 3, 1, 3, 0, 0, 0), some (.iconst 5, 1, 0, 0, 0, 5), some (.idiv, 1, 0, 0, 0, 0),
  some (.iconst 5, 1, 0, 0, 0, 5), some (.irem, 1, 0, 0, 0, 0), some (.invokevirtual 97, 3, 46, 2, 0, 6), none, none, some (.ifCond .eq 27, 3, 110, 0, 0, 0),
  none, none, some (.aload_n 0, 1, 0, 0, 0, 0), some (.aload_n 1, 1, 1, 0, 0, 0), some (.getfield 94, 3, 10, 3, 0, 0), none,
  none, some (.iconst 4, 1, 0, 0, 0, 4), some (.iload_n 2, 1, 2, 0, 0, 0), some (.imul, 1, 0, 0, 0, 0), some (.iconst 3, 1, 0, 0, 0, 3), some (.iadd, 1, 0, 0, 0, 0),
  some (.iaload, 1, 0, 0, 0, 0), some (.iload_n 3, 1, 3, 0, 0, 0), some (.iconst 5, 1, 0, 0, 0, 5), some (.irem, 1, 0, 0, 0, 0), some (.invokevirtual 97, 3, 46, 2, 0, 6), none,
  none, some (.ifCond .eq 7, 3, 110, 0, 0, 0), none, none, some (.iconst 1, 1, 0, 0, 0, 1), some (.goto 4, 3, 111, 0, 0, 0),
  none, none, some (.iconst 0, 1, 0, 0, 0, 0), some (.ireturn, 1, 0, 0, 0, 0)
  ])
def mi_X6_bindArg : am_MI := (yX6_bindArg, cX6_bindArg, 3, (some FieldType.boolean), [
  some (.aload_n 0, 1, 0, 0, 0, 0), some (.getfield 40, 3, 6, 7, 0, 0), none, none, some (.iload_n 1, 1, 1, 0, 0, 0), some (.iaload, 1, 0, 0, 0, 0),
  some (.iconst (-1), 1, 0, 0, 0, -1), some (.if_icmp .ne 10, 3, 17, 0, 0, 0), none, none, some (.aload_n 0, 1, 0, 0, 0, 0), some (.getfield 40, 3, 6, 7, 0, 0),
  none, none, some (.iload_n 1, 1, 1, 0, 0, 0), some (.iload_n 2, 1, 2, 0, 0, 0), some (.iastore, 1, 0, 0, 0, 0), some (.aload_n 0, 1, 0, 0, 0, 0),
  some (.getfield 40, 3, 6, 7, 0, 0), none, none, some (.iload_n 1, 1, 1, 0, 0, 0), some (.iaload, 1, 0, 0, 0, 0), some (.iload_n 2, 1, 2, 0, 0, 0),
  some (.if_icmp .ne 7, 3, 31, 0, 0, 0), none, none, some (.iconst 1, 1, 0, 0, 0, 1), some (.goto 4, 3, 32, 0, 0, 0), none,
  none, some (.iconst 0, 1, 0, 0, 0, 0), some (.ireturn, 1, 0, 0, 0, 0)
  ])
def mi_X6_complete : am_MI := (yX6_complete, cX6_complete, 5, none, [
  some (.iload_n 2, 1, 2, 0, 0, 0), some (.istore_n 3, 1, 3, 0, 0, 0), some (.iload_n 3, 1, 3, 0, 0, 0), some (.bipush 9, 2, 0, 0, 0, 9), none, some (.if_icmp .ge 27, 3, 32, 0, 0, 0),
  none, none, some (.aload_n 0, 1, 0, 0, 0, 0), some (.getfield 40, 3, 6, 7, 0, 0), none, none,
  some (.iload_n 3, 1, 3, 0, 0, 0), some (.iaload, 1, 0, 0, 0, 0), some (.iconst (-1), 1, 0, 0, 0, -1), some (.if_icmp .ne 11, 3, 26, 0, 0, 0), none, none,
  some (.aload_n 1, 1, 1, 0, 0, 0), some (.iload_n 3, 1, 3, 0, 0, 0), some (.invokevirtual 101, 3, 71, 1, 1, 10), none, none, some (.ifCond .ne 9, 3, 32, 0, 0, 0),
  none, none, some (.iinc 3 1, 3, 3, 0, 0, 1), none, none, some (.goto (-27), 3, 2, 0, 0, 0),
  none, none, some (.iload_n 3, 1, 3, 0, 0, 0), some (.bipush 9, 2, 0, 0, 0, 9), none, some (.if_icmp .lt 9, 3, 44, 0, 0, 0),
  none, none, some (.aload_n 0, 1, 0, 0, 0, 0), some (.aload_n 1, 1, 1, 0, 0, 0), some (.invokevirtual 105, 3, 48, 1, 0, 6), none,
  none, some (.return_, 1, 0, 0, 0, 0), some (.iconst 0, 1, 0, 0, 0, 0), some (.istore 4, 2, 4, 0, 0, 0), none, some (.iload 4, 2, 4, 0, 0, 0),
  none, some (.iconst 5, 1, 0, 0, 0, 5), some (.if_icmp .ge 25, 3, 75, 0, 0, 0), none, none, some (.aload_n 0, 1, 0, 0, 0, 0),
  some (.getfield 40, 3, 6, 7, 0, 0), none, none, some (.iload_n 3, 1, 3, 0, 0, 0), some (.iload 4, 2, 4, 0, 0, 0), none,
  some (.iastore, 1, 0, 0, 0, 0), some (.aload_n 0, 1, 0, 0, 0, 0), some (.aload_n 1, 1, 1, 0, 0, 0), some (.iload_n 3, 1, 3, 0, 0, 0), some (.iconst 1, 1, 0, 0, 0, 1), some (.iadd, 1, 0, 0, 0, 0),
  some (.invokevirtual 88, 3, 47, 2, 0, 6), none, none, some (.iinc 4 1, 3, 4, 0, 0, 1), none, none,
  some (.goto (-25), 3, 47, 0, 0, 0), none, none, some (.aload_n 0, 1, 0, 0, 0, 0), some (.getfield 40, 3, 6, 7, 0, 0), none,
  none, some (.iload_n 3, 1, 3, 0, 0, 0), some (.iconst (-1), 1, 0, 0, 0, -1), some (.iastore, 1, 0, 0, 0, 0), some (.return_, 1, 0, 0, 0, 0)
  ])
def mi_X6_conclude : am_MI := (yX6_conclude, cX6_conclude, 6, none, [
  some (.aload_n 1, 1, 1, 0, 0, 0), some (.aload_n 0, 1, 0, 0, 0, 0), some (.getfield 40, 3, 6, 7, 0, 0), none, none, some (.invokevirtual 109, 3, 73, 1, 1, 10),
  none, none, some (.ifCond .ne 4, 3, 12, 0, 0, 0), none, none, some (.return_, 1, 0, 0, 0, 0),
  some (.iconst 0, 1, 0, 0, 0, 0), some (.istore_n 2, 1, 2, 0, 0, 0), some (.iconst 0, 1, 0, 0, 0, 0), some (.istore_n 3, 1, 3, 0, 0, 0), some (.iconst 0, 1, 0, 0, 0, 0), some (.istore 4, 2, 4, 0, 0, 0),
  none, some (.iload 4, 2, 4, 0, 0, 0), none, some (.aload_n 1, 1, 1, 0, 0, 0), some (.getfield 81, 3, 10, 0, 0, 0), none,
  none, some (.if_icmp .ge 54, 3, 79, 0, 0, 0), none, none, some (.aload_n 1, 1, 1, 0, 0, 0), some (.iload 4, 2, 4, 0, 0, 0),
  none, some (.aload_n 0, 1, 0, 0, 0, 0), some (.getfield 40, 3, 6, 7, 0, 0), none, none, some (.invokevirtual 113, 3, 72, 2, 1, 10),
  none, none, some (.istore 5, 2, 5, 0, 0, 0), none, some (.aload_n 0, 1, 0, 0, 0, 0), some (.getfield 22, 3, 6, 4, 0, 0),
  none, none, some (.iload 5, 2, 5, 0, 0, 0), none, some (.baload, 1, 2, 0, 0, 0), some (.ifCond .ne 4, 3, 51, 0, 0, 0),
  none, none, some (.return_, 1, 0, 0, 0, 0), some (.iload_n 2, 1, 2, 0, 0, 0), some (.aload_n 0, 1, 0, 0, 0, 0), some (.getfield 9, 3, 6, 1, 0, 0),
  none, none, some (.iload 5, 2, 5, 0, 0, 0), none, some (.iaload, 1, 0, 0, 0, 0), some (.iadd, 1, 0, 0, 0, 0),
  some (.istore_n 2, 1, 2, 0, 0, 0), some (.iload_n 3, 1, 3, 0, 0, 0), some (.aload_n 0, 1, 0, 0, 0, 0), some (.getfield 9, 3, 6, 1, 0, 0), none, none,
  some (.iload 5, 2, 5, 0, 0, 0), none, some (.iaload, 1, 0, 0, 0, 0), some (.invokestatic 117, 3, 211, 2, 0, 0), none, none,
  some (.istore_n 3, 1, 3, 0, 0, 0), some (.iinc 4 1, 3, 4, 0, 0, 1), none, none, some (.goto (-57), 3, 19, 0, 0, 0), none,
  none, some (.aload_n 0, 1, 0, 0, 0, 0), some (.aload_n 1, 1, 1, 0, 0, 0), some (.iconst 3, 1, 0, 0, 0, 3), some (.aload_n 0, 1, 0, 0, 0, 0), some (.getfield 40, 3, 6, 7, 0, 0),
  none, none, some (.invokevirtual 113, 3, 72, 2, 1, 10), none, none, some (.aload_n 0, 1, 0, 0, 0, 0),
  some (.getfield 26, 3, 6, 5, 0, 0), none, none, some (.ifCond .eq 14, 3, 107, 0, 0, 0), none, none,
  some (.ldc 123, 2, 0, 0, 0, 100000), none, some (.iconst 1, 1, 0, 0, 0, 1), some (.iload_n 2, 1, 2, 0, 0, 0), some (.iadd, 1, 0, 0, 0, 0), some (.invokestatic 124, 3, 212, 2, 0, 0),
  none, none, some (.goto 6, 3, 110, 0, 0, 0), none, none, some (.iconst 1, 1, 0, 0, 0, 1),
  some (.iload_n 3, 1, 3, 0, 0, 0), some (.iadd, 1, 0, 0, 0, 0), some (.invokevirtual 61, 3, 49, 2, 0, 6), none, none, some (.return_, 1, 0, 0, 0, 0)
  ])
def mi_X6_arrive : am_MI := (yX6_arrive, cX6_arrive, 3, none, [
  some (.aload_n 0, 1, 0, 0, 0, 0), some (.getfield 9, 3, 6, 1, 0, 0), none, none, some (.iload_n 1, 1, 1, 0, 0, 0), some (.iaload, 1, 0, 0, 0, 0),
  some (.ifCond .ge 43, 3, 49, 0, 0, 0), none, none, some (.aload_n 0, 1, 0, 0, 0, 0), some (.getfield 18, 3, 6, 3, 0, 0), none,
  none, some (.sipush 750, 3, 0, 0, 0, 750), none, none, some (.if_icmp .ge 33, 3, 49, 0, 0, 0), none,
  none, some (.aload_n 0, 1, 0, 0, 0, 0), some (.getfield 15, 3, 6, 2, 0, 0), none, none, some (.aload_n 0, 1, 0, 0, 0, 0),
  some (.getfield 18, 3, 6, 3, 0, 0), none, none, some (.iload_n 1, 1, 1, 0, 0, 0), some (.iastore, 1, 0, 0, 0, 0), some (.aload_n 0, 1, 0, 0, 0, 0),
  some (.dup, 1, 0, 0, 0, 0), some (.getfield 18, 3, 6, 3, 0, 0), none, none, some (.iconst 1, 1, 0, 0, 0, 1), some (.iadd, 1, 0, 0, 0, 0),
  some (.putfield 18, 3, 6, 3, 0, 0), none, none, some (.aload_n 0, 1, 0, 0, 0, 0), some (.getfield 9, 3, 6, 1, 0, 0), none,
  none, some (.iload_n 1, 1, 1, 0, 0, 0), some (.iload_n 2, 1, 2, 0, 0, 0), some (.iastore, 1, 0, 0, 0, 0), some (.goto 20, 3, 66, 0, 0, 0), none,
  none, some (.iload_n 2, 1, 2, 0, 0, 0), some (.aload_n 0, 1, 0, 0, 0, 0), some (.getfield 9, 3, 6, 1, 0, 0), none, none,
  some (.iload_n 1, 1, 1, 0, 0, 0), some (.iaload, 1, 0, 0, 0, 0), some (.if_icmp .ge 10, 3, 66, 0, 0, 0), none, none, some (.aload_n 0, 1, 0, 0, 0, 0),
  some (.getfield 9, 3, 6, 1, 0, 0), none, none, some (.iload_n 1, 1, 1, 0, 0, 0), some (.iload_n 2, 1, 2, 0, 0, 0), some (.iastore, 1, 0, 0, 0, 0),
  some (.return_, 1, 0, 0, 0, 0)
  ])
def mi_X7_init : am_MI := (yX7_init, cX7_init, 1, none, [
  some (.aload_n 0, 1, 0, 0, 0, 0), some (.invokespecial 3, 3, 0, 0, 2, 0), none, none, some (.aload_n 0, 1, 0, 0, 0, 0), some (.iconst 0, 1, 0, 0, 0, 0),
  some (.newarray .byte, 2, 1, 0, 0, 0), none, some (.putfield 9, 3, 7, 0, 0, 0), none, none, some (.aload_n 0, 1, 0, 0, 0, 0),
  some (.iconst 0, 1, 0, 0, 0, 0), some (.putfield 15, 3, 7, 1, 0, 0), none, none, some (.aload_n 0, 1, 0, 0, 0, 0), some (.iconst 0, 1, 0, 0, 0, 0),
  some (.putfield 19, 3, 7, 2, 0, 0), none, none, some (.aload_n 0, 1, 0, 0, 0, 0), some (.new 22, 3, 10, 0, 0, 0), none,
  none, some (.dup, 1, 0, 0, 0, 0), some (.invokespecial 24, 3, 68, 0, 1, 0), none, none, some (.putfield 25, 3, 7, 3, 0, 0),
  none, none, some (.aload_n 0, 1, 0, 0, 0, 0), some (.iconst 0, 1, 0, 0, 0, 0), some (.putfield 29, 3, 7, 4, 0, 0), none,
  none, some (.return_, 1, 0, 0, 0, 0)
  ])
def mi_X7_read : am_MI := (yX7_read, cX7_read, 4, (some FieldType.int), [
  some (.aload_n 0, 1, 0, 0, 0, 0), some (.aload_n 1, 1, 1, 0, 0, 0), some (.putfield 9, 3, 7, 0, 0, 0), none, none, some (.aload_n 0, 1, 0, 0, 0, 0),
  some (.iload_n 2, 1, 2, 0, 0, 0), some (.putfield 15, 3, 7, 1, 0, 0), none, none, some (.aload_n 0, 1, 0, 0, 0, 0), some (.iconst 0, 1, 0, 0, 0, 0),
  some (.putfield 19, 3, 7, 2, 0, 0), none, none, some (.aload_n 0, 1, 0, 0, 0, 0), some (.aload_n 3, 1, 3, 0, 0, 0), some (.putfield 25, 3, 7, 3, 0, 0),
  none, none, some (.aload_n 0, 1, 0, 0, 0, 0), some (.iconst 0, 1, 0, 0, 0, 0), some (.putfield 29, 3, 7, 4, 0, 0), none,
  none, some (.aload_n 3, 1, 3, 0, 0, 0), some (.iconst 0, 1, 0, 0, 0, 0), some (.putfield 32, 3, 10, 0, 0, 0), none, none,
  some (.aload_n 3, 1, 3, 0, 0, 0), some (.iconst 0, 1, 0, 0, 0, 0), some (.putfield 35, 3, 10, 1, 0, 0), none, none, some (.aload_n 3, 1, 3, 0, 0, 0),
  some (.iconst 0, 1, 0, 0, 0, 0), some (.putfield 38, 3, 10, 2, 0, 0), none, none, some (.aload_n 0, 1, 0, 0, 0, 0), some (.invokevirtual 41, 3, 52, 0, 0, 7),
  none, none, some (.ifCond .eq 22, 3, 66, 0, 0, 0), none, none, some (.aload_n 0, 1, 0, 0, 0, 0),
  some (.iconst 3, 1, 0, 0, 0, 3), some (.invokevirtual 45, 3, 54, 1, 0, 7), none, none, some (.ifCond .eq 14, 3, 66, 0, 0, 0), none,
  none, some (.aload_n 0, 1, 0, 0, 0, 0), some (.getfield 19, 3, 7, 2, 0, 0), none, none, some (.aload_n 0, 1, 0, 0, 0, 0),
  some (.getfield 15, 3, 7, 1, 0, 0), none, none, some (.if_icmp .ge 8, 3, 71, 0, 0, 0), none, none,
  some (.aload_n 0, 1, 0, 0, 0, 0), some (.getfield 19, 3, 7, 2, 0, 0), none, none, some (.ireturn, 1, 0, 0, 0, 0), some (.aload_n 0, 1, 0, 0, 0, 0),
  some (.getfield 29, 3, 7, 4, 0, 0), none, none, some (.aload_n 3, 1, 3, 0, 0, 0), some (.getfield 38, 3, 10, 2, 0, 0), none,
  none, some (.iconst (-1), 1, 0, 0, 0, -1), some (.ixor, 1, 0, 0, 0, 0), some (.iand, 1, 0, 0, 0, 0), some (.ifCond .eq 9, 3, 91, 0, 0, 0), none,
  none, some (.sipush 200, 3, 0, 0, 0, 200), none, none, some (.goto 4, 3, 92, 0, 0, 0), none,
  none, some (.iconst (-1), 1, 0, 0, 0, -1), some (.ireturn, 1, 0, 0, 0, 0)
  ])
def mi_X7_readParts : am_MI := (yX7_readParts, cX7_readParts, 3, (some FieldType.boolean), [
  some (.iconst 0, 1, 0, 0, 0, 0), some (.istore_n 1, 1, 1, 0, 0, 0), some (.iload_n 1, 1, 1, 0, 0, 0), some (.bipush 7, 2, 0, 0, 0, 7), none, some (.if_icmp .ge 82, 3, 87, 0, 0, 0),
  none, none, some (.aload_n 0, 1, 0, 0, 0, 0), some (.invokevirtual 49, 3, 53, 0, 0, 7), none, none,
  some (.ifCond .ne 5, 3, 17, 0, 0, 0), none, none, some (.iconst 0, 1, 0, 0, 0, 0), some (.ireturn, 1, 0, 0, 0, 0), some (.aload_n 0, 1, 0, 0, 0, 0),
  some (.getfield 25, 3, 7, 3, 0, 0), none, none, some (.getfield 32, 3, 10, 0, 0, 0), none, none,
  some (.ifCond .le 14, 3, 38, 0, 0, 0), none, none, some (.aload_n 0, 1, 0, 0, 0, 0), some (.bipush 62, 2, 0, 0, 0, 62), none,
  some (.invokevirtual 52, 3, 58, 1, 0, 7), none, none, some (.ifCond .eq 5, 3, 38, 0, 0, 0), none, none,
  some (.iconst 1, 1, 0, 0, 0, 1), some (.ireturn, 1, 0, 0, 0, 0), some (.aload_n 0, 1, 0, 0, 0, 0), some (.getfield 25, 3, 7, 3, 0, 0), none, none,
  some (.getfield 32, 3, 10, 0, 0, 0), none, none, some (.iconst 3, 1, 0, 0, 0, 3), some (.if_icmp .lt 14, 3, 60, 0, 0, 0), none,
  none, some (.aload_n 0, 1, 0, 0, 0, 0), some (.getfield 25, 3, 7, 3, 0, 0), none, none, some (.getfield 35, 3, 10, 1, 0, 0),
  none, none, some (.iconst 4, 1, 0, 0, 0, 4), some (.if_icmp .ge 7, 3, 64, 0, 0, 0), none, none,
  some (.iconst 1, 1, 0, 0, 0, 1), some (.goto 4, 3, 65, 0, 0, 0), none, none, some (.iconst 0, 1, 0, 0, 0, 0), some (.istore_n 2, 1, 2, 0, 0, 0),
  some (.iload_n 2, 1, 2, 0, 0, 0), some (.ifCond .eq 12, 3, 79, 0, 0, 0), none, none, some (.aload_n 0, 1, 0, 0, 0, 0), some (.bipush 38, 2, 0, 0, 0, 38),
  none, some (.invokevirtual 52, 3, 58, 1, 0, 7), none, none, some (.ifCond .ne 5, 3, 81, 0, 0, 0), none,
  none, some (.iconst 0, 1, 0, 0, 0, 0), some (.ireturn, 1, 0, 0, 0, 0), some (.iinc 1 1, 3, 1, 0, 0, 1), none, none,
  some (.goto (-82), 3, 2, 0, 0, 0), none, none, some (.iconst 0, 1, 0, 0, 0, 0), some (.ireturn, 1, 0, 0, 0, 0)
  ])
def mi_X7_readPart : am_MI := (yX7_readPart, cX7_readPart, 1, (some FieldType.boolean), [
  some (.aload_n 0, 1, 0, 0, 0, 0), some (.getfield 25, 3, 7, 3, 0, 0), none, none, some (.getfield 32, 3, 10, 0, 0, 0), none,
  none, some (.iconst 3, 1, 0, 0, 0, 3), some (.if_icmp .ge 39, 3, 47, 0, 0, 0), none, none, some (.aload_n 0, 1, 0, 0, 0, 0),
  some (.ldc 56, 2, 0, 0, 1, 0), none, some (.invokevirtual 58, 3, 57, 1, 0, 7), none, none, some (.ifCond .lt 30, 3, 47, 0, 0, 0),
  none, none, some (.aload_n 0, 1, 0, 0, 0, 0), some (.getfield 25, 3, 7, 3, 0, 0), none, none,
  some (.dup, 1, 0, 0, 0, 0), some (.getfield 32, 3, 10, 0, 0, 0), none, none, some (.iconst 1, 1, 0, 0, 0, 1), some (.iadd, 1, 0, 0, 0, 0),
  some (.putfield 32, 3, 10, 0, 0, 0), none, none, some (.aload_n 0, 1, 0, 0, 0, 0), some (.aload_n 0, 1, 0, 0, 0, 0), some (.getfield 25, 3, 7, 3, 0, 0),
  none, none, some (.getfield 32, 3, 10, 0, 0, 0), none, none, some (.iconst 1, 1, 0, 0, 0, 1),
  some (.isub, 1, 0, 0, 0, 0), some (.invokevirtual 45, 3, 54, 1, 0, 7), none, none, some (.ireturn, 1, 0, 0, 0, 0), some (.aload_n 0, 1, 0, 0, 0, 0),
  some (.getfield 25, 3, 7, 3, 0, 0), none, none, some (.getfield 35, 3, 10, 1, 0, 0), none, none,
  some (.iconst 4, 1, 0, 0, 0, 4), some (.if_icmp .ge 40, 3, 95, 0, 0, 0), none, none, some (.aload_n 0, 1, 0, 0, 0, 0), some (.ldc 62, 2, 1, 0, 1, 0),
  none, some (.invokevirtual 58, 3, 57, 1, 0, 7), none, none, some (.iconst 5, 1, 0, 0, 0, 5), some (.if_icmp .lt 30, 3, 95, 0, 0, 0),
  none, none, some (.aload_n 0, 1, 0, 0, 0, 0), some (.getfield 25, 3, 7, 3, 0, 0), none, none,
  some (.dup, 1, 0, 0, 0, 0), some (.getfield 35, 3, 10, 1, 0, 0), none, none, some (.iconst 1, 1, 0, 0, 0, 1), some (.iadd, 1, 0, 0, 0, 0),
  some (.putfield 35, 3, 10, 1, 0, 0), none, none, some (.aload_n 0, 1, 0, 0, 0, 0), some (.aload_n 0, 1, 0, 0, 0, 0), some (.getfield 25, 3, 7, 3, 0, 0),
  none, none, some (.getfield 35, 3, 10, 1, 0, 0), none, none, some (.iconst 1, 1, 0, 0, 0, 1),
  some (.isub, 1, 0, 0, 0, 0), some (.invokevirtual 64, 3, 55, 1, 0, 7), none, none, some (.ireturn, 1, 0, 0, 0, 0), some (.iconst 0, 1, 0, 0, 0, 0),
  some (.ireturn, 1, 0, 0, 0, 0)
  ])
def mi_X7_readTerm : am_MI := (yX7_readTerm, cX7_readTerm, 5, (some FieldType.boolean), [
  some (.aload_n 0, 1, 0, 0, 0, 0), some (.ldc 56, 2, 0, 0, 1, 0), none, some (.invokevirtual 58, 3, 57, 1, 0, 7), none, none,
  some (.istore_n 2, 1, 2, 0, 0, 0), some (.iload_n 2, 1, 2, 0, 0, 0), some (.ifCond .ge 5, 3, 13, 0, 0, 0), none, none, some (.iconst 0, 1, 0, 0, 0, 0),
  some (.ireturn, 1, 0, 0, 0, 0), some (.aload_n 0, 1, 0, 0, 0, 0), some (.dup, 1, 0, 0, 0, 0), some (.getfield 19, 3, 7, 2, 0, 0), none, none,
  some (.iconst 1, 1, 0, 0, 0, 1), some (.iadd, 1, 0, 0, 0, 0), some (.putfield 19, 3, 7, 2, 0, 0), none, none, some (.aload_n 0, 1, 0, 0, 0, 0),
  some (.getfield 25, 3, 7, 3, 0, 0), none, none, some (.getfield 67, 3, 10, 3, 0, 0), none, none,
  some (.iconst 4, 1, 0, 0, 0, 4), some (.iload_n 1, 1, 1, 0, 0, 0), some (.imul, 1, 0, 0, 0, 0), some (.iload_n 2, 1, 2, 0, 0, 0), some (.iastore, 1, 0, 0, 0, 0), some (.iconst 1, 1, 0, 0, 0, 1),
  some (.istore_n 3, 1, 3, 0, 0, 0), some (.iload_n 3, 1, 3, 0, 0, 0), some (.iconst 3, 1, 0, 0, 0, 3), some (.if_icmp .gt 68, 3, 107, 0, 0, 0), none, none,
  some (.aload_n 0, 1, 0, 0, 0, 0), some (.iload_n 3, 1, 3, 0, 0, 0), some (.iconst 1, 1, 0, 0, 0, 1), some (.if_icmp .ne 8, 3, 53, 0, 0, 0), none, none,
  some (.bipush 40, 2, 0, 0, 0, 40), none, some (.goto 5, 3, 55, 0, 0, 0), none, none, some (.bipush 44, 2, 0, 0, 0, 44),
  none, some (.invokevirtual 52, 3, 58, 1, 0, 7), none, none, some (.ifCond .ne 5, 3, 63, 0, 0, 0), none,
  none, some (.iconst 0, 1, 0, 0, 0, 0), some (.ireturn, 1, 0, 0, 0, 0), some (.aload_n 0, 1, 0, 0, 0, 0), some (.iload_n 1, 1, 1, 0, 0, 0), some (.iconst 3, 1, 0, 0, 0, 3),
  some (.if_icmp .ne 7, 3, 73, 0, 0, 0), none, none, some (.iconst 1, 1, 0, 0, 0, 1), some (.goto 4, 3, 74, 0, 0, 0), none,
  none, some (.iconst 0, 1, 0, 0, 0, 0), some (.invokevirtual 71, 3, 56, 1, 0, 7), none, none, some (.istore 4, 2, 4, 0, 0, 0),
  none, some (.iload 4, 2, 4, 0, 0, 0), none, some (.ifCond .ge 5, 3, 86, 0, 0, 0), none, none,
  some (.iconst 0, 1, 0, 0, 0, 0), some (.ireturn, 1, 0, 0, 0, 0), some (.aload_n 0, 1, 0, 0, 0, 0), some (.getfield 25, 3, 7, 3, 0, 0), none, none,
  some (.getfield 67, 3, 10, 3, 0, 0), none, none, some (.iconst 4, 1, 0, 0, 0, 4), some (.iload_n 1, 1, 1, 0, 0, 0), some (.imul, 1, 0, 0, 0, 0),
  some (.iload_n 3, 1, 3, 0, 0, 0), some (.iadd, 1, 0, 0, 0, 0), some (.iload 4, 2, 4, 0, 0, 0), none, some (.iastore, 1, 0, 0, 0, 0), some (.iinc 3 1, 3, 3, 0, 0, 1),
  none, none, some (.goto (-67), 3, 37, 0, 0, 0), none, none, some (.aload_n 0, 1, 0, 0, 0, 0),
  some (.bipush 41, 2, 0, 0, 0, 41), none, some (.invokevirtual 52, 3, 58, 1, 0, 7), none, none, some (.ireturn, 1, 0, 0, 0, 0)
  ])
def mi_X7_readTest : am_MI := (yX7_readTest, cX7_readTest, 5, (some FieldType.boolean), [
  some (.aload_n 0, 1, 0, 0, 0, 0), some (.iconst 1, 1, 0, 0, 0, 1), some (.invokevirtual 71, 3, 56, 1, 0, 7), none, none, some (.istore_n 2, 1, 2, 0, 0, 0),
  some (.aload_n 0, 1, 0, 0, 0, 0), some (.ldc 75, 2, 2, 0, 1, 0), none, some (.invokevirtual 58, 3, 57, 1, 0, 7), none, none,
  some (.istore_n 3, 1, 3, 0, 0, 0), some (.iload_n 2, 1, 2, 0, 0, 0), some (.ifCond .lt 7, 3, 21, 0, 0, 0), none, none, some (.iload_n 3, 1, 3, 0, 0, 0),
  some (.ifCond .ge 5, 3, 23, 0, 0, 0), none, none, some (.iconst 0, 1, 0, 0, 0, 0), some (.ireturn, 1, 0, 0, 0, 0), some (.aload_n 0, 1, 0, 0, 0, 0),
  some (.dup, 1, 0, 0, 0, 0), some (.getfield 19, 3, 7, 2, 0, 0), none, none, some (.iconst 1, 1, 0, 0, 0, 1), some (.iadd, 1, 0, 0, 0, 0),
  some (.putfield 19, 3, 7, 2, 0, 0), none, none, some (.aload_n 0, 1, 0, 0, 0, 0), some (.iconst 1, 1, 0, 0, 0, 1), some (.invokevirtual 71, 3, 56, 1, 0, 7),
  none, none, some (.istore 4, 2, 4, 0, 0, 0), none, some (.iload 4, 2, 4, 0, 0, 0), none,
  some (.ifCond .ge 5, 3, 47, 0, 0, 0), none, none, some (.iconst 0, 1, 0, 0, 0, 0), some (.ireturn, 1, 0, 0, 0, 0), some (.aload_n 0, 1, 0, 0, 0, 0),
  some (.getfield 25, 3, 7, 3, 0, 0), none, none, some (.getfield 77, 3, 10, 4, 0, 0), none, none,
  some (.iconst 3, 1, 0, 0, 0, 3), some (.iload_n 1, 1, 1, 0, 0, 0), some (.imul, 1, 0, 0, 0, 0), some (.iload_n 2, 1, 2, 0, 0, 0), some (.iastore, 1, 0, 0, 0, 0), some (.aload_n 0, 1, 0, 0, 0, 0),
  some (.getfield 25, 3, 7, 3, 0, 0), none, none, some (.getfield 77, 3, 10, 4, 0, 0), none, none,
  some (.iconst 3, 1, 0, 0, 0, 3), some (.iload_n 1, 1, 1, 0, 0, 0), some (.imul, 1, 0, 0, 0, 0), some (.iconst 1, 1, 0, 0, 0, 1), some (.iadd, 1, 0, 0, 0, 0), some (.iload_n 3, 1, 3, 0, 0, 0),
  some (.iastore, 1, 0, 0, 0, 0), some (.aload_n 0, 1, 0, 0, 0, 0), some (.getfield 25, 3, 7, 3, 0, 0), none, none, some (.getfield 77, 3, 10, 4, 0, 0),
  none, none, some (.iconst 3, 1, 0, 0, 0, 3), some (.iload_n 1, 1, 1, 0, 0, 0), some (.imul, 1, 0, 0, 0, 0), some (.iconst 2, 1, 0, 0, 0, 2),
  some (.iadd, 1, 0, 0, 0, 0), some (.iload 4, 2, 4, 0, 0, 0), none, some (.iastore, 1, 0, 0, 0, 0), some (.iconst 1, 1, 0, 0, 0, 1), some (.ireturn, 1, 0, 0, 0, 0)
  ])
def mi_X7_readArg : am_MI := (yX7_readArg, cX7_readArg, 3, (some FieldType.int), [
  some (.aload_n 0, 1, 0, 0, 0, 0), some (.ldc 62, 2, 1, 0, 1, 0), none, some (.invokevirtual 58, 3, 57, 1, 0, 7), none, none,
  some (.istore_n 2, 1, 2, 0, 0, 0), some (.iload_n 2, 1, 2, 0, 0, 0), some (.ifCond .ge 5, 3, 13, 0, 0, 0), none, none, some (.iconst (-1), 1, 0, 0, 0, -1),
  some (.ireturn, 1, 0, 0, 0, 0), some (.aload_n 0, 1, 0, 0, 0, 0), some (.dup, 1, 0, 0, 0, 0), some (.getfield 19, 3, 7, 2, 0, 0), none, none,
  some (.iconst 1, 1, 0, 0, 0, 1), some (.iadd, 1, 0, 0, 0, 0), some (.putfield 19, 3, 7, 2, 0, 0), none, none, some (.iload_n 2, 1, 2, 0, 0, 0),
  some (.iconst 5, 1, 0, 0, 0, 5), some (.if_icmp .lt 22, 3, 47, 0, 0, 0), none, none, some (.iload_n 1, 1, 1, 0, 0, 0), some (.ifCond .eq 18, 3, 47, 0, 0, 0),
  none, none, some (.aload_n 0, 1, 0, 0, 0, 0), some (.dup, 1, 0, 0, 0, 0), some (.getfield 29, 3, 7, 4, 0, 0), none,
  none, some (.iconst 1, 1, 0, 0, 0, 1), some (.iload_n 2, 1, 2, 0, 0, 0), some (.ishl, 1, 0, 0, 0, 0), some (.ior, 1, 0, 0, 0, 0), some (.putfield 29, 3, 7, 4, 0, 0),
  none, none, some (.goto 23, 3, 67, 0, 0, 0), none, none, some (.iload_n 2, 1, 2, 0, 0, 0),
  some (.iconst 5, 1, 0, 0, 0, 5), some (.if_icmp .lt 18, 3, 67, 0, 0, 0), none, none, some (.aload_n 0, 1, 0, 0, 0, 0), some (.getfield 25, 3, 7, 3, 0, 0),
  none, none, some (.dup, 1, 0, 0, 0, 0), some (.getfield 38, 3, 10, 2, 0, 0), none, none,
  some (.iconst 1, 1, 0, 0, 0, 1), some (.iload_n 2, 1, 2, 0, 0, 0), some (.ishl, 1, 0, 0, 0, 0), some (.ior, 1, 0, 0, 0, 0), some (.putfield 38, 3, 10, 2, 0, 0), none,
  none, some (.iload_n 2, 1, 2, 0, 0, 0), some (.ireturn, 1, 0, 0, 0, 0)
  ])
def mi_X7_placeIn : am_MI := (yX7_placeIn, cX7_placeIn, 3, (some FieldType.int), [
  some (.aload_n 0, 1, 0, 0, 0, 0), some (.getfield 19, 3, 7, 2, 0, 0), none, none, some (.aload_n 0, 1, 0, 0, 0, 0), some (.getfield 15, 3, 7, 1, 0, 0),
  none, none, some (.if_icmp .ge 15, 3, 23, 0, 0, 0), none, none, some (.aload_n 0, 1, 0, 0, 0, 0),
  some (.getfield 19, 3, 7, 2, 0, 0), none, none, some (.aload_n 0, 1, 0, 0, 0, 0), some (.getfield 9, 3, 7, 0, 0, 0), none,
  none, some (.arraylength, 1, 1, 0, 0, 0), some (.if_icmp .lt 5, 3, 25, 0, 0, 0), none, none, some (.iconst (-1), 1, 0, 0, 0, -1),
  some (.ireturn, 1, 0, 0, 0, 0), some (.iconst 0, 1, 0, 0, 0, 0), some (.istore_n 2, 1, 2, 0, 0, 0), some (.iload_n 2, 1, 2, 0, 0, 0), some (.aload_n 1, 1, 1, 0, 0, 0), some (.invokevirtual 80, 3, 213, 0, 2, 0),
  none, none, some (.if_icmp .ge 28, 3, 60, 0, 0, 0), none, none, some (.aload_n 1, 1, 1, 0, 0, 0),
  some (.iload_n 2, 1, 2, 0, 0, 0), some (.invokevirtual 86, 3, 214, 1, 2, 0), none, none, some (.aload_n 0, 1, 0, 0, 0, 0), some (.getfield 9, 3, 7, 0, 0, 0),
  none, none, some (.aload_n 0, 1, 0, 0, 0, 0), some (.getfield 19, 3, 7, 2, 0, 0), none, none,
  some (.baload, 1, 1, 0, 0, 0), some (.if_icmp .ne 5, 3, 54, 0, 0, 0), none, none, some (.iload_n 2, 1, 2, 0, 0, 0), some (.ireturn, 1, 0, 0, 0, 0),
  some (.iinc 2 1, 3, 2, 0, 0, 1), none, none, some (.goto (-30), 3, 27, 0, 0, 0), none, none,
  some (.iconst (-1), 1, 0, 0, 0, -1), some (.ireturn, 1, 0, 0, 0, 0)
  ])
def mi_X7_skip : am_MI := (yX7_skip, cX7_skip, 2, (some FieldType.boolean), [
  some (.aload_n 0, 1, 0, 0, 0, 0), some (.getfield 19, 3, 7, 2, 0, 0), none, none, some (.aload_n 0, 1, 0, 0, 0, 0), some (.getfield 15, 3, 7, 1, 0, 0),
  none, none, some (.if_icmp .ge 28, 3, 36, 0, 0, 0), none, none, some (.aload_n 0, 1, 0, 0, 0, 0),
  some (.getfield 19, 3, 7, 2, 0, 0), none, none, some (.aload_n 0, 1, 0, 0, 0, 0), some (.getfield 9, 3, 7, 0, 0, 0), none,
  none, some (.arraylength, 1, 1, 0, 0, 0), some (.if_icmp .ge 16, 3, 36, 0, 0, 0), none, none, some (.aload_n 0, 1, 0, 0, 0, 0),
  some (.getfield 9, 3, 7, 0, 0, 0), none, none, some (.aload_n 0, 1, 0, 0, 0, 0), some (.getfield 19, 3, 7, 2, 0, 0), none,
  none, some (.baload, 1, 1, 0, 0, 0), some (.iload_n 1, 1, 1, 0, 0, 0), some (.if_icmp .eq 5, 3, 38, 0, 0, 0), none, none,
  some (.iconst 0, 1, 0, 0, 0, 0), some (.ireturn, 1, 0, 0, 0, 0), some (.aload_n 0, 1, 0, 0, 0, 0), some (.dup, 1, 0, 0, 0, 0), some (.getfield 19, 3, 7, 2, 0, 0), none,
  none, some (.iconst 1, 1, 0, 0, 0, 1), some (.iadd, 1, 0, 0, 0, 0), some (.putfield 19, 3, 7, 2, 0, 0), none, none,
  some (.iconst 1, 1, 0, 0, 0, 1), some (.ireturn, 1, 0, 0, 0, 0)
  ])
def mi_X8_init : am_MI := (yX8_init, cX8_init, 1, none, [
  some (.aload_n 0, 1, 0, 0, 0, 0), some (.invokespecial 1, 3, 28, 0, 1, 0), none, none, some (.return_, 1, 0, 0, 0, 0)
  ])
def mi_X8_actShows : am_MI := (yX8_actShows, cX8_actShows, 4, (some FieldType.int), [
  some (.aload_n 0, 1, 0, 0, 0, 0), some (.iload_n 1, 1, 1, 0, 0, 0), some (.iload_n 2, 1, 2, 0, 0, 0), some (.iload_n 3, 1, 3, 0, 0, 0), some (.invokespecial 7, 3, 30, 3, 3, 0), none,
  none, some (.iconst 5, 1, 0, 0, 0, 5), some (.ixor, 1, 0, 0, 0, 0), some (.ireturn, 1, 0, 0, 0, 0)
  ])
def mi_X9_init : am_MI := (yX9_init, cX9_init, 3, none, [
  some (.aload_n 0, 1, 0, 0, 0, 0), some (.invokespecial 3, 3, 0, 0, 2, 0), none, none, some (.aload_n 0, 1, 0, 0, 0, 0), some (.iconst 0, 1, 0, 0, 0, 0),
  some (.putfield 9, 3, 9, 2, 0, 0), none, none, some (.aload_n 0, 1, 0, 0, 0, 0), some (.iconst 0, 1, 0, 0, 0, 0), some (.putfield 15, 3, 9, 3, 0, 0),
  none, none, some (.aload_n 0, 1, 0, 0, 0, 0), some (.iconst 0, 1, 0, 0, 0, 0), some (.putfield 18, 3, 9, 4, 0, 0), none,
  none, some (.aload_n 0, 1, 0, 0, 0, 0), some (.iconst 0, 1, 0, 0, 0, 0), some (.putfield 21, 3, 9, 5, 0, 0), none, none,
  some (.aload_n 0, 1, 0, 0, 0, 0), some (.aload_n 1, 1, 1, 0, 0, 0), some (.putfield 24, 3, 9, 0, 0, 0), none, none, some (.aload_n 0, 1, 0, 0, 0, 0),
  some (.aload_n 2, 1, 2, 0, 0, 0), some (.putfield 28, 3, 9, 1, 0, 0), none, none, some (.return_, 1, 0, 0, 0, 0)
  ])
def mi_X9_faultOf : am_MI := (yX9_faultOf, cX9_faultOf, 7, (some FieldType.int), [
  some (.iconst 0, 1, 0, 0, 0, 0), some (.istore_n 2, 1, 2, 0, 0, 0), some (.iconst 1, 1, 0, 0, 0, 1), some (.istore_n 3, 1, 3, 0, 0, 0), some (.iconst 0, 1, 0, 0, 0, 0), some (.istore 4, 2, 4, 0, 0, 0),
  none, some (.iconst 0, 1, 0, 0, 0, 0), some (.istore 5, 2, 5, 0, 0, 0), none, some (.iload 5, 2, 5, 0, 0, 0), none,
  some (.iload_n 1, 1, 1, 0, 0, 0), some (.if_icmp .ge 143, 3, 156, 0, 0, 0), none, none, some (.iload 5, 2, 5, 0, 0, 0), none,
  some (.aload_n 0, 1, 0, 0, 0, 0), some (.arraylength, 1, 1, 0, 0, 0), some (.if_icmp .ge 136, 3, 156, 0, 0, 0), none, none, some (.aload_n 0, 1, 0, 0, 0, 0),
  some (.iload 5, 2, 5, 0, 0, 0), none, some (.baload, 1, 1, 0, 0, 0), some (.istore 6, 2, 6, 0, 0, 0), none, some (.iload_n 3, 1, 3, 0, 0, 0),
  some (.ifCond .eq 22, 3, 52, 0, 0, 0), none, none, some (.iload 6, 2, 6, 0, 0, 0), none, some (.bipush 40, 2, 0, 0, 0, 40),
  none, some (.if_icmp .ne 15, 3, 52, 0, 0, 0), none, none, some (.iload_n 2, 1, 2, 0, 0, 0), some (.bipush 6, 2, 0, 0, 0, 6),
  none, some (.if_icmp .ge 9, 3, 52, 0, 0, 0), none, none, some (.iinc 2 1, 3, 2, 0, 0, 1), none,
  none, some (.goto 101, 3, 150, 0, 0, 0), none, none, some (.iload_n 3, 1, 3, 0, 0, 0), some (.ifCond .eq 25, 3, 78, 0, 0, 0),
  none, none, some (.iload 6, 2, 6, 0, 0, 0), none, some (.bipush 48, 2, 0, 0, 0, 48), none,
  some (.if_icmp .lt 18, 3, 78, 0, 0, 0), none, none, some (.iload 6, 2, 6, 0, 0, 0), none, some (.bipush 56, 2, 0, 0, 0, 56),
  none, some (.if_icmp .ge 11, 3, 78, 0, 0, 0), none, none, some (.iconst 0, 1, 0, 0, 0, 0), some (.istore_n 3, 1, 3, 0, 0, 0),
  some (.iconst 0, 1, 0, 0, 0, 0), some (.istore 4, 2, 4, 0, 0, 0), none, some (.goto 75, 3, 150, 0, 0, 0), none, none,
  some (.iload_n 3, 1, 3, 0, 0, 0), some (.ifCond .ne 21, 3, 100, 0, 0, 0), none, none, some (.iload 6, 2, 6, 0, 0, 0), none,
  some (.bipush 42, 2, 0, 0, 0, 42), none, some (.if_icmp .ne 14, 3, 100, 0, 0, 0), none, none, some (.iload 4, 2, 4, 0, 0, 0),
  none, some (.ifCond .ne 9, 3, 100, 0, 0, 0), none, none, some (.iconst 1, 1, 0, 0, 0, 1), some (.istore 4, 2, 4, 0, 0, 0),
  none, some (.goto 53, 3, 150, 0, 0, 0), none, none, some (.iload_n 3, 1, 3, 0, 0, 0), some (.ifCond .ne 23, 3, 124, 0, 0, 0),
  none, none, some (.iload 6, 2, 6, 0, 0, 0), none, some (.bipush 41, 2, 0, 0, 0, 41), none,
  some (.if_icmp .ne 16, 3, 124, 0, 0, 0), none, none, some (.iload_n 2, 1, 2, 0, 0, 0), some (.ifCond .le 12, 3, 124, 0, 0, 0), none,
  none, some (.iinc 2 (-1), 3, 2, 0, 0, -1), none, none, some (.iconst 0, 1, 0, 0, 0, 0), some (.istore 4, 2, 4, 0, 0, 0),
  none, some (.goto 29, 3, 150, 0, 0, 0), none, none, some (.iload_n 3, 1, 3, 0, 0, 0), some (.ifCond .ne 22, 3, 147, 0, 0, 0),
  none, none, some (.iload 6, 2, 6, 0, 0, 0), none, some (.bipush 59, 2, 0, 0, 0, 59), none,
  some (.if_icmp .eq 10, 3, 142, 0, 0, 0), none, none, some (.iload 6, 2, 6, 0, 0, 0), none, some (.bipush 124, 2, 0, 0, 0, 124),
  none, some (.if_icmp .ne 8, 3, 147, 0, 0, 0), none, none, some (.iconst 1, 1, 0, 0, 0, 1), some (.istore_n 3, 1, 3, 0, 0, 0),
  some (.goto 6, 3, 150, 0, 0, 0), none, none, some (.iload 5, 2, 5, 0, 0, 0), none, some (.ireturn, 1, 0, 0, 0, 0),
  some (.iinc 5 1, 3, 5, 0, 0, 1), none, none, some (.goto (-143), 3, 10, 0, 0, 0), none, none,
  some (.iload_n 3, 1, 3, 0, 0, 0), some (.ifCond .ne 7, 3, 164, 0, 0, 0), none, none, some (.iload_n 2, 1, 2, 0, 0, 0), some (.ifCond .le 7, 3, 168, 0, 0, 0),
  none, none, some (.iload_n 1, 1, 1, 0, 0, 0), some (.goto 4, 3, 169, 0, 0, 0), none, none,
  some (.iconst (-1), 1, 0, 0, 0, -1), some (.ireturn, 1, 0, 0, 0, 0)
  ])
def mi_X9_play : am_MI := (yX9_play, cX9_play, 3, none, [
  some (.aload_n 0, 1, 0, 0, 0, 0), some (.getfield 28, 3, 9, 1, 0, 0), none, none, some (.aload_n 0, 1, 0, 0, 0, 0), some (.getfield 24, 3, 9, 0, 0, 0),
  none, none, some (.getfield 32, 3, 0, 7, 0, 0), none, none, some (.iconst 0, 1, 0, 0, 0, 0),
  some (.invokevirtual 37, 3, 39, 2, 1, 6), none, none, some (.aload_n 0, 1, 0, 0, 0, 0), some (.getfield 28, 3, 9, 1, 0, 0), none,
  none, some (.iconst 0, 1, 0, 0, 0, 0), some (.invokevirtual 43, 3, 44, 1, 1, 6), none, none, some (.aload_n 0, 1, 0, 0, 0, 0),
  some (.iconst 0, 1, 0, 0, 0, 0), some (.putfield 9, 3, 9, 2, 0, 0), none, none, some (.aload_n 0, 1, 0, 0, 0, 0), some (.iload_n 2, 1, 2, 0, 0, 0),
  some (.putfield 15, 3, 9, 3, 0, 0), none, none, some (.aload_n 0, 1, 0, 0, 0, 0), some (.iload_n 1, 1, 1, 0, 0, 0), some (.bipush 120, 2, 0, 0, 0, 120),
  none, some (.imul, 1, 0, 0, 0, 0), some (.putfield 18, 3, 9, 4, 0, 0), none, none, some (.aload_n 0, 1, 0, 0, 0, 0),
  some (.aload_n 0, 1, 0, 0, 0, 0), some (.getfield 24, 3, 9, 0, 0, 0), none, none, some (.getfield 47, 3, 0, 14, 0, 0), none,
  none, some (.iload_n 1, 1, 1, 0, 0, 0), some (.iaload, 1, 0, 0, 0, 0), some (.putfield 21, 3, 9, 5, 0, 0), none, none,
  some (.aload_n 0, 1, 0, 0, 0, 0), some (.iconst 0, 1, 0, 0, 0, 0), some (.iconst 0, 1, 0, 0, 0, 0), some (.invokevirtual 51, 3, 65, 2, 0, 9), none, none,
  some (.return_, 1, 0, 0, 0, 0)
  ])
def mi_X9_signAt : am_MI := (yX9_signAt, cX9_signAt, 2, (some FieldType.int), [
  some (.iload_n 1, 1, 1, 0, 0, 0), some (.ifCond .lt 28, 3, 29, 0, 0, 0), none, none, some (.iload_n 1, 1, 1, 0, 0, 0), some (.aload_n 0, 1, 0, 0, 0, 0),
  some (.getfield 21, 3, 9, 5, 0, 0), none, none, some (.if_icmp .ge 20, 3, 29, 0, 0, 0), none, none,
  some (.aload_n 0, 1, 0, 0, 0, 0), some (.getfield 24, 3, 9, 0, 0, 0), none, none, some (.getfield 55, 3, 0, 15, 0, 0), none,
  none, some (.aload_n 0, 1, 0, 0, 0, 0), some (.getfield 18, 3, 9, 4, 0, 0), none, none, some (.iload_n 1, 1, 1, 0, 0, 0),
  some (.iadd, 1, 0, 0, 0, 0), some (.baload, 1, 1, 0, 0, 0), some (.goto 4, 3, 30, 0, 0, 0), none, none, some (.iconst 0, 1, 0, 0, 0, 0),
  some (.ireturn, 1, 0, 0, 0, 0)
  ])
def mi_X9_playPieces : am_MI := (yX9_playPieces, cX9_playPieces, 7, none, [
  some (.iload_n 1, 1, 1, 0, 0, 0), some (.istore_n 3, 1, 3, 0, 0, 0), some (.iconst 0, 1, 0, 0, 0, 0), some (.istore 4, 2, 4, 0, 0, 0), none, some (.iconst 0, 1, 0, 0, 0, 0),
  some (.istore 5, 2, 5, 0, 0, 0), none, some (.iload 5, 2, 5, 0, 0, 0), none, some (.bipush 120, 2, 0, 0, 0, 120), none,
  some (.if_icmp .ge 73, 3, 85, 0, 0, 0), none, none, some (.iload_n 3, 1, 3, 0, 0, 0), some (.aload_n 0, 1, 0, 0, 0, 0), some (.getfield 21, 3, 9, 5, 0, 0),
  none, none, some (.if_icmp .ge 65, 3, 85, 0, 0, 0), none, none, some (.aload_n 0, 1, 0, 0, 0, 0),
  some (.iload_n 3, 1, 3, 0, 0, 0), some (.invokevirtual 59, 3, 67, 1, 0, 9), none, none, some (.istore 6, 2, 6, 0, 0, 0), none,
  some (.iload 4, 2, 4, 0, 0, 0), none, some (.ifCond .ne 13, 3, 45, 0, 0, 0), none, none, some (.aload_n 0, 1, 0, 0, 0, 0),
  some (.iload_n 3, 1, 3, 0, 0, 0), some (.iload 6, 2, 6, 0, 0, 0), none, some (.iload_n 2, 1, 2, 0, 0, 0), some (.invokevirtual 63, 3, 66, 3, 0, 9), none,
  none, some (.istore 4, 2, 4, 0, 0, 0), none, some (.aload_n 0, 1, 0, 0, 0, 0), some (.iload 6, 2, 6, 0, 0, 0), none,
  some (.invokevirtual 67, 3, 64, 1, 0, 9), none, none, some (.bipush 59, 2, 0, 0, 0, 59), none, some (.if_icmp .ne 9, 3, 62, 0, 0, 0),
  none, none, some (.iconst 0, 1, 0, 0, 0, 0), some (.istore 4, 2, 4, 0, 0, 0), none, some (.goto 15, 3, 74, 0, 0, 0),
  none, none, some (.aload_n 0, 1, 0, 0, 0, 0), some (.iload 6, 2, 6, 0, 0, 0), none, some (.invokevirtual 67, 3, 64, 1, 0, 9),
  none, none, some (.bipush 124, 2, 0, 0, 0, 124), none, some (.if_icmp .eq 4, 3, 74, 0, 0, 0), none,
  none, some (.return_, 1, 0, 0, 0, 0), some (.iload 6, 2, 6, 0, 0, 0), none, some (.iconst 1, 1, 0, 0, 0, 1), some (.iadd, 1, 0, 0, 0, 0),
  some (.istore_n 3, 1, 3, 0, 0, 0), some (.iinc 5 1, 3, 5, 0, 0, 1), none, none, some (.goto (-74), 3, 8, 0, 0, 0), none,
  none, some (.return_, 1, 0, 0, 0, 0)
  ])
def mi_X9_playTry : am_MI := (yX9_playTry, cX9_playTry, 9, (some FieldType.boolean), [
  some (.aload_n 0, 1, 0, 0, 0, 0), some (.getfield 28, 3, 9, 1, 0, 0), none, none, some (.getfield 70, 3, 6, 3, 0, 0), none,
  none, some (.istore 4, 2, 4, 0, 0, 0), none, some (.aload_n 0, 1, 0, 0, 0, 0), some (.iload_n 1, 1, 1, 0, 0, 0), some (.invokevirtual 67, 3, 64, 1, 0, 9),
  none, none, some (.bipush 48, 2, 0, 0, 0, 48), none, some (.isub, 1, 0, 0, 0, 0), some (.istore 5, 2, 5, 0, 0, 0),
  none, some (.iconst 1, 1, 0, 0, 0, 1), some (.istore 6, 2, 6, 0, 0, 0), none, some (.iconst 0, 1, 0, 0, 0, 0), some (.istore 7, 2, 7, 0, 0, 0),
  none, some (.iload 7, 2, 7, 0, 0, 0), none, some (.sipush 750, 3, 0, 0, 0, 750), none, none,
  some (.if_icmp .gt 142, 3, 172, 0, 0, 0), none, none, some (.iload 6, 2, 6, 0, 0, 0), none, some (.ifCond .eq 137, 3, 172, 0, 0, 0),
  none, none, some (.aload_n 0, 1, 0, 0, 0, 0), some (.getfield 28, 3, 9, 1, 0, 0), none, none,
  some (.getfield 70, 3, 6, 3, 0, 0), none, none, some (.istore 8, 2, 8, 0, 0, 0), none, some (.aload_n 0, 1, 0, 0, 0, 0),
  some (.iload_n 1, 1, 1, 0, 0, 0), some (.invokevirtual 67, 3, 64, 1, 0, 9), none, none, some (.bipush 40, 2, 0, 0, 0, 40), none,
  some (.if_icmp .ne 22, 3, 76, 0, 0, 0), none, none, some (.iload_n 3, 1, 3, 0, 0, 0), some (.bipush 6, 2, 0, 0, 0, 6), none,
  some (.if_icmp .ge 16, 3, 76, 0, 0, 0), none, none, some (.aload_n 0, 1, 0, 0, 0, 0), some (.iload_n 1, 1, 1, 0, 0, 0), some (.iconst 1, 1, 0, 0, 0, 1),
  some (.iadd, 1, 0, 0, 0, 0), some (.iload_n 3, 1, 3, 0, 0, 0), some (.iconst 1, 1, 0, 0, 0, 1), some (.iadd, 1, 0, 0, 0, 0), some (.invokevirtual 51, 3, 65, 2, 0, 9), none,
  none, some (.goto 62, 3, 135, 0, 0, 0), none, none, some (.aload_n 0, 1, 0, 0, 0, 0), some (.getfield 9, 3, 9, 2, 0, 0),
  none, none, some (.aload_n 0, 1, 0, 0, 0, 0), some (.getfield 15, 3, 9, 3, 0, 0), none, none,
  some (.if_icmp .ge 51, 3, 135, 0, 0, 0), none, none, some (.aload_n 0, 1, 0, 0, 0, 0), some (.getfield 24, 3, 9, 0, 0, 0), none,
  none, some (.iconst 1, 1, 0, 0, 0, 1), some (.iload 5, 2, 5, 0, 0, 0), none, some (.invokevirtual 71, 3, 2, 2, 1, 0), none,
  none, some (.ifCond .eq 38, 3, 135, 0, 0, 0), none, none, some (.aload_n 0, 1, 0, 0, 0, 0), some (.dup, 1, 0, 0, 0, 0),
  some (.getfield 9, 3, 9, 2, 0, 0), none, none, some (.iconst 1, 1, 0, 0, 0, 1), some (.iadd, 1, 0, 0, 0, 0), some (.putfield 9, 3, 9, 2, 0, 0),
  none, none, some (.aload_n 0, 1, 0, 0, 0, 0), some (.getfield 28, 3, 9, 1, 0, 0), none, none,
  some (.aload_n 0, 1, 0, 0, 0, 0), some (.getfield 24, 3, 9, 0, 0, 0), none, none, some (.iload 5, 2, 5, 0, 0, 0), none,
  some (.aload_n 0, 1, 0, 0, 0, 0), some (.getfield 24, 3, 9, 0, 0, 0), none, none, some (.getfield 75, 3, 0, 0, 0, 0), none,
  none, some (.iconst 0, 1, 0, 0, 0, 0), some (.iaload, 1, 0, 0, 0, 0), some (.invokevirtual 78, 3, 6, 2, 1, 0), none, none,
  some (.invokevirtual 82, 3, 43, 1, 1, 6), none, none, some (.aload_n 0, 1, 0, 0, 0, 0), some (.iload_n 2, 1, 2, 0, 0, 0), some (.iconst 1, 1, 0, 0, 0, 1),
  some (.isub, 1, 0, 0, 0, 0), some (.invokevirtual 67, 3, 64, 1, 0, 9), none, none, some (.bipush 42, 2, 0, 0, 0, 42), none,
  some (.if_icmp .ne 19, 3, 163, 0, 0, 0), none, none, some (.aload_n 0, 1, 0, 0, 0, 0), some (.getfield 28, 3, 9, 1, 0, 0), none,
  none, some (.getfield 70, 3, 6, 3, 0, 0), none, none, some (.iload 8, 2, 8, 0, 0, 0), none,
  some (.if_icmp .le 7, 3, 163, 0, 0, 0), none, none, some (.iconst 1, 1, 0, 0, 0, 1), some (.goto 4, 3, 164, 0, 0, 0), none,
  none, some (.iconst 0, 1, 0, 0, 0, 0), some (.istore 6, 2, 6, 0, 0, 0), none, some (.iinc 7 1, 3, 7, 0, 0, 1), none,
  none, some (.goto (-144), 3, 25, 0, 0, 0), none, none, some (.aload_n 0, 1, 0, 0, 0, 0), some (.getfield 28, 3, 9, 1, 0, 0),
  none, none, some (.getfield 70, 3, 6, 3, 0, 0), none, none, some (.iload 4, 2, 4, 0, 0, 0),
  none, some (.if_icmp .le 7, 3, 188, 0, 0, 0), none, none, some (.iconst 1, 1, 0, 0, 0, 1), some (.goto 4, 3, 189, 0, 0, 0),
  none, none, some (.iconst 0, 1, 0, 0, 0, 0), some (.ireturn, 1, 0, 0, 0, 0)
  ])
def mi_X9_endOfTry : am_MI := (yX9_endOfTry, cX9_endOfTry, 4, (some FieldType.int), [
  some (.iconst 0, 1, 0, 0, 0, 0), some (.istore_n 2, 1, 2, 0, 0, 0), some (.iload_n 1, 1, 1, 0, 0, 0), some (.istore_n 3, 1, 3, 0, 0, 0), some (.iload_n 3, 1, 3, 0, 0, 0), some (.aload_n 0, 1, 0, 0, 0, 0),
  some (.getfield 21, 3, 9, 5, 0, 0), none, none, some (.if_icmp .ge 45, 3, 54, 0, 0, 0), none, none,
  some (.iload_n 2, 1, 2, 0, 0, 0), some (.aload_n 0, 1, 0, 0, 0, 0), some (.iload_n 3, 1, 3, 0, 0, 0), some (.invokevirtual 67, 3, 64, 1, 0, 9), none, none,
  some (.bipush 40, 2, 0, 0, 0, 40), none, some (.if_icmp .ne 7, 3, 27, 0, 0, 0), none, none, some (.iconst 1, 1, 0, 0, 0, 1),
  some (.goto 18, 3, 42, 0, 0, 0), none, none, some (.aload_n 0, 1, 0, 0, 0, 0), some (.iload_n 3, 1, 3, 0, 0, 0), some (.invokevirtual 67, 3, 64, 1, 0, 9),
  none, none, some (.bipush 41, 2, 0, 0, 0, 41), none, some (.if_icmp .ne 7, 3, 41, 0, 0, 0), none,
  none, some (.iconst (-1), 1, 0, 0, 0, -1), some (.goto 4, 3, 42, 0, 0, 0), none, none, some (.iconst 0, 1, 0, 0, 0, 0),
  some (.iadd, 1, 0, 0, 0, 0), some (.istore_n 2, 1, 2, 0, 0, 0), some (.iinc 3 1, 3, 3, 0, 0, 1), none, none, some (.iload_n 2, 1, 2, 0, 0, 0),
  some (.ifCond .gt (-44), 3, 4, 0, 0, 0), none, none, some (.goto 3, 3, 54, 0, 0, 0), none, none,
  some (.aload_n 0, 1, 0, 0, 0, 0), some (.iload_n 3, 1, 3, 0, 0, 0), some (.invokevirtual 67, 3, 64, 1, 0, 9), none, none, some (.bipush 42, 2, 0, 0, 0, 42),
  none, some (.if_icmp .ne 9, 3, 70, 0, 0, 0), none, none, some (.iload_n 3, 1, 3, 0, 0, 0), some (.iconst 1, 1, 0, 0, 0, 1),
  some (.iadd, 1, 0, 0, 0, 0), some (.goto 4, 3, 71, 0, 0, 0), none, none, some (.iload_n 3, 1, 3, 0, 0, 0), some (.ireturn, 1, 0, 0, 0, 0)
  ])
def mi_X10_init : am_MI := (yX10_init, cX10_init, 1, none, [
  some (.aload_n 0, 1, 0, 0, 0, 0), some (.invokespecial 3, 3, 0, 0, 2, 0), none, none, some (.aload_n 0, 1, 0, 0, 0, 0), some (.iconst 0, 1, 0, 0, 0, 0),
  some (.putfield 9, 3, 10, 0, 0, 0), none, none, some (.aload_n 0, 1, 0, 0, 0, 0), some (.iconst 0, 1, 0, 0, 0, 0), some (.putfield 15, 3, 10, 1, 0, 0),
  none, none, some (.aload_n 0, 1, 0, 0, 0, 0), some (.iconst 0, 1, 0, 0, 0, 0), some (.putfield 18, 3, 10, 2, 0, 0), none,
  none, some (.aload_n 0, 1, 0, 0, 0, 0), some (.bipush 16, 2, 0, 0, 0, 16), none, some (.newarray .int, 2, 0, 0, 0, 0), none,
  some (.putfield 21, 3, 10, 3, 0, 0), none, none, some (.aload_n 0, 1, 0, 0, 0, 0), some (.bipush 12, 2, 0, 0, 0, 12), none,
  some (.newarray .int, 2, 0, 0, 0, 0), none, some (.putfield 25, 3, 10, 4, 0, 0), none, none, some (.return_, 1, 0, 0, 0, 0)
  ])
def mi_X10_newValues : am_MI := (yX10_newValues, cX10_newValues, 2, (some (FieldType.array FieldType.int)), [
  some (.bipush 9, 2, 0, 0, 0, 9), none, some (.newarray .int, 2, 0, 0, 0, 0), none, some (.astore_n 0, 1, 0, 0, 0, 0), some (.iconst 0, 1, 0, 0, 0, 0),
  some (.istore_n 1, 1, 1, 0, 0, 0), some (.iload_n 1, 1, 1, 0, 0, 0), some (.iconst 5, 1, 0, 0, 0, 5), some (.if_icmp .ge 13, 3, 22, 0, 0, 0), none, none,
  some (.aload_n 0, 1, 0, 0, 0, 0), some (.iload_n 1, 1, 1, 0, 0, 0), some (.iload_n 1, 1, 1, 0, 0, 0), some (.iastore, 1, 0, 0, 0, 0), some (.iinc 1 1, 3, 1, 0, 0, 1), none,
  none, some (.goto (-12), 3, 7, 0, 0, 0), none, none, some (.aload_n 0, 1, 0, 0, 0, 0), some (.areturn, 1, 0, 0, 0, 0)
  ])
def mi_X10_putLetters : am_MI := (yX10_putLetters, cX10_putLetters, 2, none, [
  some (.aload_n 1, 1, 1, 0, 0, 0), some (.iconst 5, 1, 0, 0, 0, 5), some (.iload_n 0, 1, 0, 0, 0, 0), some (.bipush 125, 2, 0, 0, 0, 125), none, some (.idiv, 1, 0, 0, 0, 0),
  some (.iconst 5, 1, 0, 0, 0, 5), some (.irem, 1, 0, 0, 0, 0), some (.iastore, 1, 0, 0, 0, 0), some (.aload_n 1, 1, 1, 0, 0, 0), some (.bipush 6, 2, 0, 0, 0, 6), none,
  some (.iload_n 0, 1, 0, 0, 0, 0), some (.bipush 25, 2, 0, 0, 0, 25), none, some (.idiv, 1, 0, 0, 0, 0), some (.iconst 5, 1, 0, 0, 0, 5), some (.irem, 1, 0, 0, 0, 0),
  some (.iastore, 1, 0, 0, 0, 0), some (.aload_n 1, 1, 1, 0, 0, 0), some (.bipush 7, 2, 0, 0, 0, 7), none, some (.iload_n 0, 1, 0, 0, 0, 0), some (.iconst 5, 1, 0, 0, 0, 5),
  some (.idiv, 1, 0, 0, 0, 0), some (.iconst 5, 1, 0, 0, 0, 5), some (.irem, 1, 0, 0, 0, 0), some (.iastore, 1, 0, 0, 0, 0), some (.aload_n 1, 1, 1, 0, 0, 0), some (.bipush 8, 2, 0, 0, 0, 8),
  none, some (.iload_n 0, 1, 0, 0, 0, 0), some (.iconst 5, 1, 0, 0, 0, 5), some (.irem, 1, 0, 0, 0, 0), some (.iastore, 1, 0, 0, 0, 0), some (.return_, 1, 0, 0, 0, 0)
  ])
def mi_X10_hasInTerms : am_MI := (yX10_hasInTerms, cX10_hasInTerms, 2, (some FieldType.boolean), [
  some (.aload_n 0, 1, 0, 0, 0, 0), some (.getfield 18, 3, 10, 2, 0, 0), none, none, some (.iload_n 1, 1, 1, 0, 0, 0), some (.ishr, 1, 0, 0, 0, 0),
  some (.iconst 1, 1, 0, 0, 0, 1), some (.iand, 1, 0, 0, 0, 0), some (.ifCond .eq 7, 3, 15, 0, 0, 0), none, none, some (.iconst 1, 1, 0, 0, 0, 1),
  some (.goto 4, 3, 16, 0, 0, 0), none, none, some (.iconst 0, 1, 0, 0, 0, 0), some (.ireturn, 1, 0, 0, 0, 0)
  ])
def mi_X10_factOf : am_MI := (yX10_factOf, cX10_factOf, 4, (some FieldType.int), [
  some (.iconst 4, 1, 0, 0, 0, 4), some (.iload_n 1, 1, 1, 0, 0, 0), some (.imul, 1, 0, 0, 0, 0), some (.istore_n 3, 1, 3, 0, 0, 0), some (.bipush 125, 2, 0, 0, 0, 125), none,
  some (.aload_n 0, 1, 0, 0, 0, 0), some (.getfield 21, 3, 10, 3, 0, 0), none, none, some (.iload_n 3, 1, 3, 0, 0, 0), some (.iaload, 1, 0, 0, 0, 0),
  some (.imul, 1, 0, 0, 0, 0), some (.bipush 25, 2, 0, 0, 0, 25), none, some (.aload_n 2, 1, 2, 0, 0, 0), some (.aload_n 0, 1, 0, 0, 0, 0), some (.getfield 21, 3, 10, 3, 0, 0),
  none, none, some (.iload_n 3, 1, 3, 0, 0, 0), some (.iconst 1, 1, 0, 0, 0, 1), some (.iadd, 1, 0, 0, 0, 0), some (.iaload, 1, 0, 0, 0, 0),
  some (.iaload, 1, 0, 0, 0, 0), some (.imul, 1, 0, 0, 0, 0), some (.iadd, 1, 0, 0, 0, 0), some (.iconst 5, 1, 0, 0, 0, 5), some (.aload_n 2, 1, 2, 0, 0, 0), some (.aload_n 0, 1, 0, 0, 0, 0),
  some (.getfield 21, 3, 10, 3, 0, 0), none, none, some (.iload_n 3, 1, 3, 0, 0, 0), some (.iconst 2, 1, 0, 0, 0, 2), some (.iadd, 1, 0, 0, 0, 0),
  some (.iaload, 1, 0, 0, 0, 0), some (.iaload, 1, 0, 0, 0, 0), some (.imul, 1, 0, 0, 0, 0), some (.iadd, 1, 0, 0, 0, 0), some (.aload_n 2, 1, 2, 0, 0, 0), some (.aload_n 0, 1, 0, 0, 0, 0),
  some (.getfield 21, 3, 10, 3, 0, 0), none, none, some (.iload_n 3, 1, 3, 0, 0, 0), some (.iconst 3, 1, 0, 0, 0, 3), some (.iadd, 1, 0, 0, 0, 0),
  some (.iaload, 1, 0, 0, 0, 0), some (.iaload, 1, 0, 0, 0, 0), some (.iadd, 1, 0, 0, 0, 0), some (.ireturn, 1, 0, 0, 0, 0)
  ])
def mi_X10_testsHold : am_MI := (yX10_testsHold, cX10_testsHold, 7, (some FieldType.boolean), [
  some (.iconst 0, 1, 0, 0, 0, 0), some (.istore_n 2, 1, 2, 0, 0, 0), some (.iload_n 2, 1, 2, 0, 0, 0), some (.aload_n 0, 1, 0, 0, 0, 0), some (.getfield 15, 3, 10, 1, 0, 0), none,
  none, some (.if_icmp .ge 104, 3, 111, 0, 0, 0), none, none, some (.aload_n 1, 1, 1, 0, 0, 0), some (.aload_n 0, 1, 0, 0, 0, 0),
  some (.getfield 25, 3, 10, 4, 0, 0), none, none, some (.iconst 3, 1, 0, 0, 0, 3), some (.iload_n 2, 1, 2, 0, 0, 0), some (.imul, 1, 0, 0, 0, 0),
  some (.iaload, 1, 0, 0, 0, 0), some (.iaload, 1, 0, 0, 0, 0), some (.istore_n 3, 1, 3, 0, 0, 0), some (.aload_n 1, 1, 1, 0, 0, 0), some (.aload_n 0, 1, 0, 0, 0, 0), some (.getfield 25, 3, 10, 4, 0, 0),
  none, none, some (.iconst 3, 1, 0, 0, 0, 3), some (.iload_n 2, 1, 2, 0, 0, 0), some (.imul, 1, 0, 0, 0, 0), some (.iconst 2, 1, 0, 0, 0, 2),
  some (.iadd, 1, 0, 0, 0, 0), some (.iaload, 1, 0, 0, 0, 0), some (.iaload, 1, 0, 0, 0, 0), some (.istore 4, 2, 4, 0, 0, 0), none, some (.aload_n 0, 1, 0, 0, 0, 0),
  some (.getfield 25, 3, 10, 4, 0, 0), none, none, some (.iconst 3, 1, 0, 0, 0, 3), some (.iload_n 2, 1, 2, 0, 0, 0), some (.imul, 1, 0, 0, 0, 0),
  some (.iconst 1, 1, 0, 0, 0, 1), some (.iadd, 1, 0, 0, 0, 0), some (.iaload, 1, 0, 0, 0, 0), some (.istore 5, 2, 5, 0, 0, 0), none, some (.iload 5, 2, 5, 0, 0, 0),
  none, some (.ifCond .ne 17, 3, 66, 0, 0, 0), none, none, some (.iload_n 3, 1, 3, 0, 0, 0), some (.iload 4, 2, 4, 0, 0, 0),
  none, some (.if_icmp .ge 7, 3, 62, 0, 0, 0), none, none, some (.iconst 1, 1, 0, 0, 0, 1), some (.goto 37, 3, 96, 0, 0, 0),
  none, none, some (.iconst 0, 1, 0, 0, 0, 0), some (.goto 33, 3, 96, 0, 0, 0), none, none,
  some (.iload_n 3, 1, 3, 0, 0, 0), some (.iload 4, 2, 4, 0, 0, 0), none, some (.if_icmp .ne 7, 3, 76, 0, 0, 0), none, none,
  some (.iconst 1, 1, 0, 0, 0, 1), some (.goto 4, 3, 77, 0, 0, 0), none, none, some (.iconst 0, 1, 0, 0, 0, 0), some (.iload 5, 2, 5, 0, 0, 0),
  none, some (.iconst 1, 1, 0, 0, 0, 1), some (.if_icmp .ne 7, 3, 87, 0, 0, 0), none, none, some (.iconst 1, 1, 0, 0, 0, 1),
  some (.goto 4, 3, 88, 0, 0, 0), none, none, some (.iconst 0, 1, 0, 0, 0, 0), some (.if_icmp .ne 7, 3, 95, 0, 0, 0), none,
  none, some (.iconst 1, 1, 0, 0, 0, 1), some (.goto 4, 3, 96, 0, 0, 0), none, none, some (.iconst 0, 1, 0, 0, 0, 0),
  some (.istore 6, 2, 6, 0, 0, 0), none, some (.iload 6, 2, 6, 0, 0, 0), none, some (.ifCond .ne 5, 3, 105, 0, 0, 0), none,
  none, some (.iconst 0, 1, 0, 0, 0, 0), some (.ireturn, 1, 0, 0, 0, 0), some (.iinc 2 1, 3, 2, 0, 0, 1), none, none,
  some (.goto (-106), 3, 2, 0, 0, 0), none, none, some (.iconst 1, 1, 0, 0, 0, 1), some (.ireturn, 1, 0, 0, 0, 0)
  ])
def mi_X10_become : am_MI := (yX10_become, cX10_become, 2, none, [
  some (.aload_n 0, 1, 0, 0, 0, 0), some (.aload_n 1, 1, 1, 0, 0, 0), some (.getfield 9, 3, 10, 0, 0, 0), none, none, some (.putfield 9, 3, 10, 0, 0, 0),
  none, none, some (.aload_n 0, 1, 0, 0, 0, 0), some (.aload_n 1, 1, 1, 0, 0, 0), some (.getfield 15, 3, 10, 1, 0, 0), none,
  none, some (.putfield 15, 3, 10, 1, 0, 0), none, none, some (.aload_n 0, 1, 0, 0, 0, 0), some (.aload_n 1, 1, 1, 0, 0, 0),
  some (.getfield 18, 3, 10, 2, 0, 0), none, none, some (.putfield 18, 3, 10, 2, 0, 0), none, none,
  some (.aload_n 1, 1, 1, 0, 0, 0), some (.getfield 21, 3, 10, 3, 0, 0), none, none, some (.iconst 0, 1, 0, 0, 0, 0), some (.aload_n 0, 1, 0, 0, 0, 0),
  some (.getfield 21, 3, 10, 3, 0, 0), none, none, some (.iconst 0, 1, 0, 0, 0, 0), some (.aload_n 0, 1, 0, 0, 0, 0), some (.getfield 21, 3, 10, 3, 0, 0),
  none, none, some (.arraylength, 1, 0, 0, 0, 0), some (.invokestatic 28, 3, 0, 0, 2, 0), none, none,
  some (.aload_n 1, 1, 1, 0, 0, 0), some (.getfield 25, 3, 10, 4, 0, 0), none, none, some (.iconst 0, 1, 0, 0, 0, 0), some (.aload_n 0, 1, 0, 0, 0, 0),
  some (.getfield 25, 3, 10, 4, 0, 0), none, none, some (.iconst 0, 1, 0, 0, 0, 0), some (.aload_n 0, 1, 0, 0, 0, 0), some (.getfield 25, 3, 10, 4, 0, 0),
  none, none, some (.arraylength, 1, 0, 0, 0, 0), some (.invokestatic 28, 3, 0, 0, 2, 0), none, none,
  some (.return_, 1, 0, 0, 0, 0)
  ])
def mi_X11_init : am_MI := (yX11_init, cX11_init, 1, none, [
  some (.aload_n 0, 1, 0, 0, 0, 0), some (.invokespecial 1, 3, 0, 0, 2, 0), none, none, some (.aload_n 0, 1, 0, 0, 0, 0), some (.new 7, 3, 0, 0, 0, 0),
  none, none, some (.dup, 1, 0, 0, 0, 0), some (.invokespecial 9, 3, 0, 0, 1, 0), none, none,
  some (.putfield 10, 3, 11, 0, 0, 0), none, none, some (.aload_n 0, 1, 0, 0, 0, 0), some (.new 16, 3, 2, 0, 0, 0), none,
  none, some (.dup, 1, 0, 0, 0, 0), some (.aload_n 0, 1, 0, 0, 0, 0), some (.getfield 10, 3, 11, 0, 0, 0), none, none,
  some (.invokespecial 18, 3, 19, 1, 1, 0), none, none, some (.putfield 21, 3, 11, 1, 0, 0), none, none,
  some (.aload_n 0, 1, 0, 0, 0, 0), some (.new 25, 3, 6, 0, 0, 0), none, none, some (.dup, 1, 0, 0, 0, 0), some (.aload_n 0, 1, 0, 0, 0, 0),
  some (.getfield 10, 3, 11, 0, 0, 0), none, none, some (.invokespecial 27, 3, 37, 1, 1, 0), none, none,
  some (.putfield 28, 3, 11, 2, 0, 0), none, none, some (.aload_n 0, 1, 0, 0, 0, 0), some (.new 32, 3, 9, 0, 0, 0), none,
  none, some (.dup, 1, 0, 0, 0, 0), some (.aload_n 0, 1, 0, 0, 0, 0), some (.getfield 10, 3, 11, 0, 0, 0), none, none,
  some (.aload_n 0, 1, 0, 0, 0, 0), some (.getfield 28, 3, 11, 2, 0, 0), none, none, some (.invokespecial 34, 3, 61, 2, 1, 0), none,
  none, some (.putfield 37, 3, 11, 3, 0, 0), none, none, some (.aload_n 0, 1, 0, 0, 0, 0), some (.new 41, 3, 7, 0, 0, 0),
  none, none, some (.dup, 1, 0, 0, 0, 0), some (.invokespecial 43, 3, 50, 0, 1, 0), none, none,
  some (.putfield 44, 3, 11, 4, 0, 0), none, none, some (.aload_n 0, 1, 0, 0, 0, 0), some (.iconst 5, 1, 0, 0, 0, 5), some (.anewarray 48, 3, 4, 0, 0, 0),
  none, none, some (.dup, 1, 0, 0, 0, 0), some (.iconst 0, 1, 0, 0, 0, 0), some (.new 48, 3, 3, 0, 0, 0), none,
  none, some (.dup, 1, 0, 0, 0, 0), some (.invokespecial 50, 3, 28, 0, 1, 0), none, none, some (.aastore, 1, 4, 0, 0, 0),
  some (.dup, 1, 0, 0, 0, 0), some (.iconst 1, 1, 0, 0, 0, 1), some (.new 51, 3, 5, 0, 0, 0), none, none, some (.dup, 1, 0, 0, 0, 0),
  some (.invokespecial 53, 3, 35, 0, 1, 0), none, none, some (.aastore, 1, 4, 0, 0, 0), some (.dup, 1, 0, 0, 0, 0), some (.iconst 2, 1, 0, 0, 0, 2),
  some (.new 54, 3, 8, 0, 0, 0), none, none, some (.dup, 1, 0, 0, 0, 0), some (.invokespecial 56, 3, 59, 0, 1, 0), none,
  none, some (.aastore, 1, 4, 0, 0, 0), some (.dup, 1, 0, 0, 0, 0), some (.iconst 3, 1, 0, 0, 0, 3), some (.new 57, 3, 1, 0, 0, 0), none,
  none, some (.dup, 1, 0, 0, 0, 0), some (.invokespecial 59, 3, 17, 0, 1, 0), none, none, some (.aastore, 1, 4, 0, 0, 0),
  some (.dup, 1, 0, 0, 0, 0), some (.iconst 4, 1, 0, 0, 0, 4), some (.new 60, 3, 4, 0, 0, 0), none, none, some (.dup, 1, 0, 0, 0, 0),
  some (.invokespecial 62, 3, 32, 0, 1, 0), none, none, some (.aastore, 1, 4, 0, 0, 0), some (.putfield 63, 3, 11, 5, 0, 0), none,
  none, some (.aload_n 0, 1, 0, 0, 0, 0), some (.aconst_null, 1, 0, 0, 0, 0), some (.putfield 67, 3, 11, 6, 0, 0), none, none,
  some (.return_, 1, 0, 0, 0, 0)
  ])
def mi_X11_day : am_MI := (yX11_day, cX11_day, 3, (some FieldType.int), [
  some (.aload_n 0, 1, 0, 0, 0, 0), some (.getfield 10, 3, 11, 0, 0, 0), none, none, some (.getfield 70, 3, 0, 0, 0, 0), none,
  none, some (.iconst 0, 1, 0, 0, 0, 0), some (.iaload, 1, 0, 0, 0, 0), some (.istore_n 2, 1, 2, 0, 0, 0), some (.iload_n 1, 1, 1, 0, 0, 0), some (.iconst 1, 1, 0, 0, 0, 1),
  some (.if_icmp .lt 18, 3, 30, 0, 0, 0), none, none, some (.iload_n 1, 1, 1, 0, 0, 0), some (.bipush 99, 2, 0, 0, 0, 99), none,
  some (.if_icmp .gt 12, 3, 30, 0, 0, 0), none, none, some (.iload_n 2, 1, 2, 0, 0, 0), some (.iload_n 1, 1, 1, 0, 0, 0), some (.iadd, 1, 0, 0, 0, 0),
  some (.sipush 1000, 3, 0, 0, 0, 1000), none, none, some (.if_icmp .lt 6, 3, 33, 0, 0, 0), none, none,
  some (.bipush (-2), 2, 0, 0, 0, -2), none, some (.ireturn, 1, 0, 0, 0, 0), some (.aload_n 0, 1, 0, 0, 0, 0), some (.getfield 10, 3, 11, 0, 0, 0), none,
  none, some (.getfield 70, 3, 0, 0, 0, 0), none, none, some (.iconst 0, 1, 0, 0, 0, 0), some (.iload_n 2, 1, 2, 0, 0, 0),
  some (.iload_n 1, 1, 1, 0, 0, 0), some (.iadd, 1, 0, 0, 0, 0), some (.iastore, 1, 0, 0, 0, 0), some (.iload_n 2, 1, 2, 0, 0, 0), some (.iload_n 1, 1, 1, 0, 0, 0), some (.iadd, 1, 0, 0, 0, 0),
  some (.ireturn, 1, 0, 0, 0, 0)
  ])
def mi_X11_feed : am_MI := (yX11_feed, cX11_feed, 6, (some FieldType.int), [
  some (.iload_n 3, 1, 3, 0, 0, 0), some (.iconst 1, 1, 0, 0, 0, 1), some (.if_icmp .lt 9, 3, 11, 0, 0, 0), none, none, some (.iload_n 3, 1, 3, 0, 0, 0),
  some (.bipush 8, 2, 0, 0, 0, 8), none, some (.if_icmp .le 6, 3, 14, 0, 0, 0), none, none, some (.bipush (-2), 2, 0, 0, 0, -2),
  none, some (.ireturn, 1, 0, 0, 0, 0), some (.aload_n 0, 1, 0, 0, 0, 0), some (.getfield 10, 3, 11, 0, 0, 0), none, none,
  some (.getfield 70, 3, 0, 0, 0, 0), none, none, some (.bipush 7, 2, 0, 0, 0, 7), none, some (.iaload, 1, 0, 0, 0, 0),
  some (.istore 4, 2, 4, 0, 0, 0), none, some (.iload 4, 2, 4, 0, 0, 0), none, some (.iload_n 3, 1, 3, 0, 0, 0), some (.iadd, 1, 0, 0, 0, 0),
  some (.bipush 120, 2, 0, 0, 0, 120), none, some (.if_icmp .le 6, 3, 38, 0, 0, 0), none, none, some (.bipush (-4), 2, 0, 0, 0, -4),
  none, some (.ireturn, 1, 0, 0, 0, 0), some (.iconst 0, 1, 0, 0, 0, 0), some (.istore 5, 2, 5, 0, 0, 0), none, some (.iload 5, 2, 5, 0, 0, 0),
  none, some (.iload_n 3, 1, 3, 0, 0, 0), some (.if_icmp .ge 35, 3, 79, 0, 0, 0), none, none, some (.aload_n 0, 1, 0, 0, 0, 0),
  some (.getfield 10, 3, 11, 0, 0, 0), none, none, some (.getfield 74, 3, 0, 1, 0, 0), none, none,
  some (.iload 4, 2, 4, 0, 0, 0), none, some (.iload 5, 2, 5, 0, 0, 0), none, some (.iadd, 1, 0, 0, 0, 0), some (.lload_n 1, 1, 1, 0, 0, 0),
  some (.bipush 8, 2, 0, 0, 0, 8), none, some (.iload_n 3, 1, 3, 0, 0, 0), some (.iconst 1, 1, 0, 0, 0, 1), some (.isub, 1, 0, 0, 0, 0), some (.iload 5, 2, 5, 0, 0, 0),
  none, some (.isub, 1, 0, 0, 0, 0), some (.imul, 1, 0, 0, 0, 0), some (.lushr, 1, 0, 0, 0, 0), some (.l2i, 1, 0, 0, 0, 0), some (.i2b, 1, 0, 0, 0, 0),
  some (.bastore, 1, 1, 0, 0, 0), some (.iinc 5 1, 3, 5, 0, 0, 1), none, none, some (.goto (-35), 3, 41, 0, 0, 0), none,
  none, some (.aload_n 0, 1, 0, 0, 0, 0), some (.getfield 10, 3, 11, 0, 0, 0), none, none, some (.getfield 70, 3, 0, 0, 0, 0),
  none, none, some (.bipush 7, 2, 0, 0, 0, 7), none, some (.iload 4, 2, 4, 0, 0, 0), none,
  some (.iload_n 3, 1, 3, 0, 0, 0), some (.iadd, 1, 0, 0, 0, 0), some (.iastore, 1, 0, 0, 0, 0), some (.iload 4, 2, 4, 0, 0, 0), none, some (.iload_n 3, 1, 3, 0, 0, 0),
  some (.iadd, 1, 0, 0, 0, 0), some (.ireturn, 1, 0, 0, 0, 0)
  ])
def mi_X11_rule : am_MI := (yX11_rule, cX11_rule, 3, (some FieldType.int), [
  some (.aload_n 0, 1, 0, 0, 0, 0), some (.getfield 10, 3, 11, 0, 0, 0), none, none, some (.getfield 70, 3, 0, 0, 0, 0), none,
  none, some (.iconst 1, 1, 0, 0, 0, 1), some (.iaload, 1, 0, 0, 0, 0), some (.istore_n 1, 1, 1, 0, 0, 0), some (.iload_n 1, 1, 1, 0, 0, 0), some (.bipush 8, 2, 0, 0, 0, 8),
  none, some (.if_icmp .lt 6, 3, 19, 0, 0, 0), none, none, some (.bipush (-4), 2, 0, 0, 0, -4), none,
  some (.ireturn, 1, 0, 0, 0, 0), some (.aload_n 0, 1, 0, 0, 0, 0), some (.aload_n 0, 1, 0, 0, 0, 0), some (.getfield 10, 3, 11, 0, 0, 0), none, none,
  some (.getfield 78, 3, 0, 2, 0, 0), none, none, some (.iload_n 1, 1, 1, 0, 0, 0), some (.aaload, 1, 3, 0, 0, 0), some (.invokevirtual 82, 3, 114, 1, 0, 11),
  none, none, some (.istore_n 2, 1, 2, 0, 0, 0), some (.iload_n 2, 1, 2, 0, 0, 0), some (.ifCond .lt 8, 3, 42, 0, 0, 0), none,
  none, some (.bipush (-10), 2, 0, 0, 0, -10), none, some (.iload_n 2, 1, 2, 0, 0, 0), some (.isub, 1, 0, 0, 0, 0), some (.ireturn, 1, 0, 0, 0, 0),
  some (.aload_n 0, 1, 0, 0, 0, 0), some (.getfield 10, 3, 11, 0, 0, 0), none, none, some (.getfield 70, 3, 0, 0, 0, 0), none,
  none, some (.iconst 1, 1, 0, 0, 0, 1), some (.iload_n 1, 1, 1, 0, 0, 0), some (.iconst 1, 1, 0, 0, 0, 1), some (.iadd, 1, 0, 0, 0, 0), some (.iastore, 1, 0, 0, 0, 0),
  some (.iload_n 1, 1, 1, 0, 0, 0), some (.ireturn, 1, 0, 0, 0, 0)
  ])
def mi_X11_change : am_MI := (yX11_change, cX11_change, 5, (some FieldType.int), [
  some (.aload_n 0, 1, 0, 0, 0, 0), some (.getfield 10, 3, 11, 0, 0, 0), none, none, some (.iconst 1, 1, 0, 0, 0, 1), some (.iload_n 1, 1, 1, 0, 0, 0),
  some (.invokevirtual 86, 3, 2, 2, 1, 0), none, none, some (.ifCond .ne 5, 3, 14, 0, 0, 0), none, none,
  some (.iconst (-1), 1, 0, 0, 0, -1), some (.ireturn, 1, 0, 0, 0, 0), some (.iload_n 2, 1, 2, 0, 0, 0), some (.aload_n 0, 1, 0, 0, 0, 0), some (.getfield 10, 3, 11, 0, 0, 0), none,
  none, some (.getfield 70, 3, 0, 0, 0, 0), none, none, some (.iconst 0, 1, 0, 0, 0, 0), some (.iaload, 1, 0, 0, 0, 0),
  some (.if_icmp .lt 10, 3, 34, 0, 0, 0), none, none, some (.iload_n 2, 1, 2, 0, 0, 0), some (.sipush 1000, 3, 0, 0, 0, 1000), none,
  none, some (.if_icmp .lt 6, 3, 37, 0, 0, 0), none, none, some (.bipush (-2), 2, 0, 0, 0, -2), none,
  some (.ireturn, 1, 0, 0, 0, 0), some (.aload_n 0, 1, 0, 0, 0, 0), some (.getfield 10, 3, 11, 0, 0, 0), none, none, some (.getfield 70, 3, 0, 0, 0, 0),
  none, none, some (.iconst 2, 1, 0, 0, 0, 2), some (.iaload, 1, 0, 0, 0, 0), some (.istore_n 3, 1, 3, 0, 0, 0), some (.iload_n 3, 1, 3, 0, 0, 0),
  some (.bipush 12, 2, 0, 0, 0, 12), none, some (.if_icmp .lt 6, 3, 56, 0, 0, 0), none, none, some (.bipush (-4), 2, 0, 0, 0, -4),
  none, some (.ireturn, 1, 0, 0, 0, 0), some (.aload_n 0, 1, 0, 0, 0, 0), some (.aload_n 0, 1, 0, 0, 0, 0), some (.getfield 10, 3, 11, 0, 0, 0), none,
  none, some (.getfield 78, 3, 0, 2, 0, 0), none, none, some (.bipush 8, 2, 0, 0, 0, 8), none,
  some (.iload_n 3, 1, 3, 0, 0, 0), some (.iadd, 1, 0, 0, 0, 0), some (.aaload, 1, 3, 0, 0, 0), some (.invokevirtual 82, 3, 114, 1, 0, 11), none, none,
  some (.istore 4, 2, 4, 0, 0, 0), none, some (.iload 4, 2, 4, 0, 0, 0), none, some (.ifCond .lt 9, 3, 85, 0, 0, 0), none,
  none, some (.bipush (-10), 2, 0, 0, 0, -10), none, some (.iload 4, 2, 4, 0, 0, 0), none, some (.isub, 1, 0, 0, 0, 0),
  some (.ireturn, 1, 0, 0, 0, 0), some (.aload_n 0, 1, 0, 0, 0, 0), some (.getfield 10, 3, 11, 0, 0, 0), none, none, some (.getfield 90, 3, 0, 3, 0, 0),
  none, none, some (.iload_n 3, 1, 3, 0, 0, 0), some (.iload_n 1, 1, 1, 0, 0, 0), some (.iastore, 1, 0, 0, 0, 0), some (.aload_n 0, 1, 0, 0, 0, 0),
  some (.getfield 10, 3, 11, 0, 0, 0), none, none, some (.getfield 93, 3, 0, 4, 0, 0), none, none,
  some (.iload_n 3, 1, 3, 0, 0, 0), some (.iload_n 2, 1, 2, 0, 0, 0), some (.iastore, 1, 0, 0, 0, 0), some (.aload_n 0, 1, 0, 0, 0, 0), some (.getfield 10, 3, 11, 0, 0, 0), none,
  none, some (.getfield 70, 3, 0, 0, 0, 0), none, none, some (.iconst 2, 1, 0, 0, 0, 2), some (.iload_n 3, 1, 3, 0, 0, 0),
  some (.iconst 1, 1, 0, 0, 0, 1), some (.iadd, 1, 0, 0, 0, 0), some (.iastore, 1, 0, 0, 0, 0), some (.iload_n 3, 1, 3, 0, 0, 0), some (.iconst 1, 1, 0, 0, 0, 1), some (.iadd, 1, 0, 0, 0, 0),
  some (.ireturn, 1, 0, 0, 0, 0)
  ])
def mi_X11_told : am_MI := (yX11_told, cX11_told, 5, (some FieldType.int), [
  some (.aload_n 0, 1, 0, 0, 0, 0), some (.getfield 10, 3, 11, 0, 0, 0), none, none, some (.iconst 1, 1, 0, 0, 0, 1), some (.iload_n 1, 1, 1, 0, 0, 0),
  some (.invokevirtual 86, 3, 2, 2, 1, 0), none, none, some (.ifCond .eq 12, 3, 21, 0, 0, 0), none, none,
  some (.iload_n 3, 1, 3, 0, 0, 0), some (.ifCond .lt 8, 3, 21, 0, 0, 0), none, none, some (.iload_n 3, 1, 3, 0, 0, 0), some (.iconst 2, 1, 0, 0, 0, 2),
  some (.if_icmp .le 5, 3, 23, 0, 0, 0), none, none, some (.iconst (-1), 1, 0, 0, 0, -1), some (.ireturn, 1, 0, 0, 0, 0), some (.iload_n 2, 1, 2, 0, 0, 0),
  some (.invokestatic 96, 3, 110, 1, 0, 0), none, none, some (.ifCond .ne 6, 3, 33, 0, 0, 0), none, none,
  some (.bipush (-2), 2, 0, 0, 0, -2), none, some (.ireturn, 1, 0, 0, 0, 0), some (.iload_n 3, 1, 3, 0, 0, 0), some (.iconst 2, 1, 0, 0, 0, 2), some (.if_icmp .ne 27, 3, 62, 0, 0, 0),
  none, none, some (.aload_n 0, 1, 0, 0, 0, 0), some (.getfield 10, 3, 11, 0, 0, 0), none, none,
  some (.iload_n 1, 1, 1, 0, 0, 0), some (.iload_n 2, 1, 2, 0, 0, 0), some (.invokevirtual 100, 3, 5, 2, 1, 0), none, none, some (.istore 4, 2, 4, 0, 0, 0),
  none, some (.iload 4, 2, 4, 0, 0, 0), none, some (.ifCond .ge 8, 3, 59, 0, 0, 0), none, none,
  some (.bipush (-5), 2, 0, 0, 0, -5), none, some (.goto 5, 3, 61, 0, 0, 0), none, none, some (.iload 4, 2, 4, 0, 0, 0),
  none, some (.ireturn, 1, 0, 0, 0, 0), some (.aload_n 0, 1, 0, 0, 0, 0), some (.getfield 10, 3, 11, 0, 0, 0), none, none,
  some (.iload_n 1, 1, 1, 0, 0, 0), some (.iload_n 2, 1, 2, 0, 0, 0), some (.invokevirtual 104, 3, 6, 2, 1, 0), none, none, some (.astore 4, 2, 4, 0, 0, 0),
  none, some (.iload_n 3, 1, 3, 0, 0, 0), some (.ifCond .ne 11, 3, 85, 0, 0, 0), none, none, some (.aload 4, 2, 4, 0, 0, 0),
  none, some (.getfield 108, 3, 10, 0, 0, 0), none, none, some (.goto 8, 3, 90, 0, 0, 0), none,
  none, some (.aload 4, 2, 4, 0, 0, 0), none, some (.getfield 114, 3, 10, 1, 0, 0), none, none,
  some (.ireturn, 1, 0, 0, 0, 0)
  ])
def mi_X11_paper : am_MI := (yX11_paper, cX11_paper, 4, (some FieldType.int), [
  some (.iload_n 2, 1, 2, 0, 0, 0), some (.invokestatic 117, 3, 112, 1, 0, 0), none, none, some (.ifCond .ne 5, 3, 9, 0, 0, 0), none,
  none, some (.iconst (-1), 1, 0, 0, 0, -1), some (.ireturn, 1, 0, 0, 0, 0), some (.iload_n 1, 1, 1, 0, 0, 0), some (.invokestatic 120, 3, 111, 1, 0, 0), none,
  none, some (.ifCond .ne 6, 3, 19, 0, 0, 0), none, none, some (.bipush (-2), 2, 0, 0, 0, -2), none,
  some (.ireturn, 1, 0, 0, 0, 0), some (.aload_n 0, 1, 0, 0, 0, 0), some (.getfield 10, 3, 11, 0, 0, 0), none, none, some (.getfield 70, 3, 0, 0, 0, 0),
  none, none, some (.iconst 3, 1, 0, 0, 0, 3), some (.iaload, 1, 0, 0, 0, 0), some (.istore_n 3, 1, 3, 0, 0, 0), some (.iload_n 3, 1, 3, 0, 0, 0),
  some (.bipush 20, 2, 0, 0, 0, 20), none, some (.if_icmp .lt 6, 3, 38, 0, 0, 0), none, none, some (.bipush (-4), 2, 0, 0, 0, -4),
  none, some (.ireturn, 1, 0, 0, 0, 0), some (.aload_n 0, 1, 0, 0, 0, 0), some (.getfield 10, 3, 11, 0, 0, 0), none, none,
  some (.getfield 123, 3, 0, 5, 0, 0), none, none, some (.iload_n 3, 1, 3, 0, 0, 0), some (.iload_n 1, 1, 1, 0, 0, 0), some (.iastore, 1, 0, 0, 0, 0),
  some (.aload_n 0, 1, 0, 0, 0, 0), some (.getfield 10, 3, 11, 0, 0, 0), none, none, some (.getfield 126, 3, 0, 6, 0, 0), none,
  none, some (.iload_n 3, 1, 3, 0, 0, 0), some (.iload_n 2, 1, 2, 0, 0, 0), some (.iastore, 1, 0, 0, 0, 0), some (.aload_n 0, 1, 0, 0, 0, 0), some (.getfield 10, 3, 11, 0, 0, 0),
  none, none, some (.dup, 1, 0, 0, 0, 0), some (.getfield 129, 3, 0, 7, 0, 0), none, none,
  some (.iconst 1, 1, 0, 0, 0, 1), some (.iload_n 3, 1, 3, 0, 0, 0), some (.ishl, 1, 0, 0, 0, 0), some (.ior, 1, 0, 0, 0, 0), some (.putfield 129, 3, 0, 7, 0, 0), none,
  none, some (.aload_n 0, 1, 0, 0, 0, 0), some (.getfield 10, 3, 11, 0, 0, 0), none, none, some (.getfield 70, 3, 0, 0, 0, 0),
  none, none, some (.iconst 3, 1, 0, 0, 0, 3), some (.iload_n 3, 1, 3, 0, 0, 0), some (.iconst 1, 1, 0, 0, 0, 1), some (.iadd, 1, 0, 0, 0, 0),
  some (.iastore, 1, 0, 0, 0, 0), some (.iload_n 3, 1, 3, 0, 0, 0), some (.ireturn, 1, 0, 0, 0, 0)
  ])
def mi_X11_shown : am_MI := (yX11_shown, cX11_shown, 5, (some FieldType.int), [
  some (.aload_n 0, 1, 0, 0, 0, 0), some (.getfield 10, 3, 11, 0, 0, 0), none, none, some (.iconst 3, 1, 0, 0, 0, 3), some (.iload_n 1, 1, 1, 0, 0, 0),
  some (.invokevirtual 86, 3, 2, 2, 1, 0), none, none, some (.ifCond .ne 5, 3, 14, 0, 0, 0), none, none,
  some (.iconst (-1), 1, 0, 0, 0, -1), some (.ireturn, 1, 0, 0, 0, 0), some (.aload_n 0, 1, 0, 0, 0, 0), some (.getfield 10, 3, 11, 0, 0, 0), none, none,
  some (.iload_n 1, 1, 1, 0, 0, 0), some (.invokevirtual 132, 3, 4, 1, 1, 0), none, none, some (.ifCond .eq 7, 3, 29, 0, 0, 0), none,
  none, some (.iconst 0, 1, 0, 0, 0, 0), some (.goto 4, 3, 30, 0, 0, 0), none, none, some (.iconst 1, 1, 0, 0, 0, 1),
  some (.istore_n 3, 1, 3, 0, 0, 0), some (.iconst 1, 1, 0, 0, 0, 1), some (.iload_n 1, 1, 1, 0, 0, 0), some (.ishl, 1, 0, 0, 0, 0), some (.istore 4, 2, 4, 0, 0, 0), none,
  some (.aload_n 0, 1, 0, 0, 0, 0), some (.getfield 10, 3, 11, 0, 0, 0), none, none, some (.iload_n 2, 1, 2, 0, 0, 0), some (.ifCond .eq 18, 3, 59, 0, 0, 0),
  none, none, some (.aload_n 0, 1, 0, 0, 0, 0), some (.getfield 10, 3, 11, 0, 0, 0), none, none,
  some (.getfield 129, 3, 0, 7, 0, 0), none, none, some (.iload 4, 2, 4, 0, 0, 0), none, some (.iconst (-1), 1, 0, 0, 0, -1),
  some (.ixor, 1, 0, 0, 0, 0), some (.iand, 1, 0, 0, 0, 0), some (.goto 13, 3, 69, 0, 0, 0), none, none, some (.aload_n 0, 1, 0, 0, 0, 0),
  some (.getfield 10, 3, 11, 0, 0, 0), none, none, some (.getfield 129, 3, 0, 7, 0, 0), none, none,
  some (.iload 4, 2, 4, 0, 0, 0), none, some (.ior, 1, 0, 0, 0, 0), some (.putfield 129, 3, 0, 7, 0, 0), none, none,
  some (.iload_n 3, 1, 3, 0, 0, 0), some (.ireturn, 1, 0, 0, 0, 0)
  ])
def mi_X11_of : am_MI := (yX11_of, cX11_of, 3, (some FieldType.int), [
  some (.aload_n 0, 1, 0, 0, 0, 0), some (.getfield 10, 3, 11, 0, 0, 0), none, none, some (.iconst 3, 1, 0, 0, 0, 3), some (.iload_n 1, 1, 1, 0, 0, 0),
  some (.invokevirtual 86, 3, 2, 2, 1, 0), none, none, some (.ifCond .eq 12, 3, 21, 0, 0, 0), none, none,
  some (.iload_n 2, 1, 2, 0, 0, 0), some (.ifCond .lt 8, 3, 21, 0, 0, 0), none, none, some (.iload_n 2, 1, 2, 0, 0, 0), some (.iconst 2, 1, 0, 0, 0, 2),
  some (.if_icmp .le 5, 3, 23, 0, 0, 0), none, none, some (.iconst (-1), 1, 0, 0, 0, -1), some (.ireturn, 1, 0, 0, 0, 0), some (.iload_n 2, 1, 2, 0, 0, 0),
  some (.ifCond .ne 13, 3, 37, 0, 0, 0), none, none, some (.aload_n 0, 1, 0, 0, 0, 0), some (.getfield 10, 3, 11, 0, 0, 0), none,
  none, some (.getfield 123, 3, 0, 5, 0, 0), none, none, some (.iload_n 1, 1, 1, 0, 0, 0), some (.iaload, 1, 0, 0, 0, 0),
  some (.ireturn, 1, 0, 0, 0, 0), some (.iload_n 2, 1, 2, 0, 0, 0), some (.iconst 1, 1, 0, 0, 0, 1), some (.if_icmp .ne 13, 3, 52, 0, 0, 0), none, none,
  some (.aload_n 0, 1, 0, 0, 0, 0), some (.getfield 10, 3, 11, 0, 0, 0), none, none, some (.getfield 126, 3, 0, 6, 0, 0), none,
  none, some (.iload_n 1, 1, 1, 0, 0, 0), some (.iaload, 1, 0, 0, 0, 0), some (.ireturn, 1, 0, 0, 0, 0), some (.aload_n 0, 1, 0, 0, 0, 0), some (.getfield 10, 3, 11, 0, 0, 0),
  none, none, some (.iload_n 1, 1, 1, 0, 0, 0), some (.invokevirtual 132, 3, 4, 1, 1, 0), none, none,
  some (.ifCond .eq 7, 3, 67, 0, 0, 0), none, none, some (.iconst 0, 1, 0, 0, 0, 0), some (.goto 4, 3, 68, 0, 0, 0), none,
  none, some (.iconst 1, 1, 0, 0, 0, 1), some (.ireturn, 1, 0, 0, 0, 0)
  ])
def mi_X11_follows : am_MI := (yX11_follows, cX11_follows, 4, (some FieldType.int), [
  some (.iload_n 3, 1, 3, 0, 0, 0), some (.ifCond .lt 8, 3, 9, 0, 0, 0), none, none, some (.iload_n 3, 1, 3, 0, 0, 0), some (.iconst 2, 1, 0, 0, 0, 2),
  some (.if_icmp .le 5, 3, 11, 0, 0, 0), none, none, some (.iconst (-1), 1, 0, 0, 0, -1), some (.ireturn, 1, 0, 0, 0, 0), some (.iload_n 1, 1, 1, 0, 0, 0),
  some (.invokestatic 120, 3, 111, 1, 0, 0), none, none, some (.ifCond .eq 10, 3, 25, 0, 0, 0), none, none,
  some (.iload_n 2, 1, 2, 0, 0, 0), some (.invokestatic 96, 3, 110, 1, 0, 0), none, none, some (.ifCond .ne 6, 3, 28, 0, 0, 0), none,
  none, some (.bipush (-2), 2, 0, 0, 0, -2), none, some (.ireturn, 1, 0, 0, 0, 0), some (.aload_n 0, 1, 0, 0, 0, 0), some (.getfield 28, 3, 11, 2, 0, 0),
  none, none, some (.iload_n 2, 1, 2, 0, 0, 0), some (.aload_n 0, 1, 0, 0, 0, 0), some (.getfield 10, 3, 11, 0, 0, 0), none,
  none, some (.getfield 129, 3, 0, 7, 0, 0), none, none, some (.iload_n 3, 1, 3, 0, 0, 0), some (.iconst 2, 1, 0, 0, 0, 2),
  some (.if_icmp .ne 7, 3, 49, 0, 0, 0), none, none, some (.iconst 1, 1, 0, 0, 0, 1), some (.goto 4, 3, 50, 0, 0, 0), none,
  none, some (.iconst 0, 1, 0, 0, 0, 0), some (.invokevirtual 135, 3, 40, 3, 1, 6), none, none, some (.iload_n 3, 1, 3, 0, 0, 0),
  some (.ifCond .ne 20, 3, 74, 0, 0, 0), none, none, some (.aload_n 0, 1, 0, 0, 0, 0), some (.getfield 28, 3, 11, 2, 0, 0), none,
  none, some (.iload_n 1, 1, 1, 0, 0, 0), some (.invokevirtual 139, 3, 38, 1, 1, 6), none, none, some (.ifCond .eq 7, 3, 72, 0, 0, 0),
  none, none, some (.iconst 1, 1, 0, 0, 0, 1), some (.goto 4, 3, 73, 0, 0, 0), none, none,
  some (.iconst 0, 1, 0, 0, 0, 0), some (.ireturn, 1, 0, 0, 0, 0), some (.aload_n 0, 1, 0, 0, 0, 0), some (.getfield 28, 3, 11, 2, 0, 0), none, none,
  some (.iload_n 1, 1, 1, 0, 0, 0), some (.invokevirtual 139, 3, 38, 1, 1, 6), none, none, some (.ifCond .eq 15, 3, 97, 0, 0, 0), none,
  none, some (.aload_n 0, 1, 0, 0, 0, 0), some (.getfield 28, 3, 11, 2, 0, 0), none, none, some (.getfield 141, 3, 6, 1, 0, 0),
  none, none, some (.iload_n 1, 1, 1, 0, 0, 0), some (.iaload, 1, 0, 0, 0, 0), some (.goto 5, 3, 99, 0, 0, 0), none,
  none, some (.bipush (-5), 2, 0, 0, 0, -5), none, some (.ireturn, 1, 0, 0, 0, 0)
  ])
def mi_X11_many : am_MI := (yX11_many, cX11_many, 2, (some FieldType.int), [
  some (.iload_n 1, 1, 1, 0, 0, 0), some (.invokestatic 96, 3, 110, 1, 0, 0), none, none, some (.ifCond .ne 6, 3, 10, 0, 0, 0), none,
  none, some (.bipush (-2), 2, 0, 0, 0, -2), none, some (.ireturn, 1, 0, 0, 0, 0), some (.aload_n 0, 1, 0, 0, 0, 0), some (.getfield 28, 3, 11, 2, 0, 0),
  none, none, some (.iload_n 1, 1, 1, 0, 0, 0), some (.aload_n 0, 1, 0, 0, 0, 0), some (.getfield 10, 3, 11, 0, 0, 0), none,
  none, some (.getfield 129, 3, 0, 7, 0, 0), none, none, some (.iconst 0, 1, 0, 0, 0, 0), some (.invokevirtual 135, 3, 40, 3, 1, 6),
  none, none, some (.aload_n 0, 1, 0, 0, 0, 0), some (.getfield 28, 3, 11, 2, 0, 0), none, none,
  some (.getfield 144, 3, 6, 3, 0, 0), none, none, some (.ireturn, 1, 0, 0, 0, 0)
  ])
def mi_X11_proof : am_MI := (yX11_proof, cX11_proof, 3, (some FieldType.int), [
  some (.iload_n 1, 1, 1, 0, 0, 0), some (.invokestatic 147, 3, 113, 1, 0, 0), none, none, some (.ifCond .ne 5, 3, 9, 0, 0, 0), none,
  none, some (.iconst (-1), 1, 0, 0, 0, -1), some (.ireturn, 1, 0, 0, 0, 0), some (.aload_n 0, 1, 0, 0, 0, 0), some (.getfield 10, 3, 11, 0, 0, 0), none,
  none, some (.getfield 70, 3, 0, 0, 0, 0), none, none, some (.iconst 4, 1, 0, 0, 0, 4), some (.iaload, 1, 0, 0, 0, 0),
  some (.istore_n 2, 1, 2, 0, 0, 0), some (.iload_n 2, 1, 2, 0, 0, 0), some (.bipush 12, 2, 0, 0, 0, 12), none, some (.if_icmp .lt 6, 3, 28, 0, 0, 0), none,
  none, some (.bipush (-4), 2, 0, 0, 0, -4), none, some (.ireturn, 1, 0, 0, 0, 0), some (.aload_n 0, 1, 0, 0, 0, 0), some (.getfield 10, 3, 11, 0, 0, 0),
  none, none, some (.getfield 150, 3, 0, 8, 0, 0), none, none, some (.iload_n 2, 1, 2, 0, 0, 0),
  some (.iload_n 1, 1, 1, 0, 0, 0), some (.iastore, 1, 0, 0, 0, 0), some (.aload_n 0, 1, 0, 0, 0, 0), some (.getfield 10, 3, 11, 0, 0, 0), none, none,
  some (.getfield 153, 3, 0, 9, 0, 0), none, none, some (.iload_n 2, 1, 2, 0, 0, 0), some (.iconst 0, 1, 0, 0, 0, 0), some (.iastore, 1, 0, 0, 0, 0),
  some (.aload_n 0, 1, 0, 0, 0, 0), some (.getfield 10, 3, 11, 0, 0, 0), none, none, some (.getfield 70, 3, 0, 0, 0, 0), none,
  none, some (.iconst 4, 1, 0, 0, 0, 4), some (.iload_n 2, 1, 2, 0, 0, 0), some (.iconst 1, 1, 0, 0, 0, 1), some (.iadd, 1, 0, 0, 0, 0), some (.iastore, 1, 0, 0, 0, 0),
  some (.iload_n 2, 1, 2, 0, 0, 0), some (.ireturn, 1, 0, 0, 0, 0)
  ])
def mi_X11_step : am_MI := (yX11_step, cX11_step, 10, (some FieldType.int), [
  some (.aload_n 0, 1, 0, 0, 0, 0), some (.getfield 10, 3, 11, 0, 0, 0), none, none, some (.iconst 4, 1, 0, 0, 0, 4), some (.iload_n 1, 1, 1, 0, 0, 0),
  some (.invokevirtual 86, 3, 2, 2, 1, 0), none, none, some (.ifCond .eq 15, 3, 24, 0, 0, 0), none, none,
  some (.aload_n 0, 1, 0, 0, 0, 0), some (.getfield 10, 3, 11, 0, 0, 0), none, none, some (.iconst 1, 1, 0, 0, 0, 1), some (.iload_n 2, 1, 2, 0, 0, 0),
  some (.invokevirtual 86, 3, 2, 2, 1, 0), none, none, some (.ifCond .ne 5, 3, 26, 0, 0, 0), none, none,
  some (.iconst (-1), 1, 0, 0, 0, -1), some (.ireturn, 1, 0, 0, 0, 0), some (.iload_n 3, 1, 3, 0, 0, 0), some (.ifCond .lt 22, 3, 49, 0, 0, 0), none, none,
  some (.iload_n 3, 1, 3, 0, 0, 0), some (.sipush 625, 3, 0, 0, 0, 625), none, none, some (.if_icmp .ge 15, 3, 49, 0, 0, 0), none,
  none, some (.iload 4, 2, 4, 0, 0, 0), none, some (.iconst 1, 1, 0, 0, 0, 1), some (.if_icmp .lt 9, 3, 49, 0, 0, 0), none,
  none, some (.iload 4, 2, 4, 0, 0, 0), none, some (.iconst 3, 1, 0, 0, 0, 3), some (.if_icmp .le 6, 3, 52, 0, 0, 0), none,
  none, some (.bipush (-2), 2, 0, 0, 0, -2), none, some (.ireturn, 1, 0, 0, 0, 0), some (.aload_n 0, 1, 0, 0, 0, 0), some (.getfield 10, 3, 11, 0, 0, 0),
  none, none, some (.iload_n 1, 1, 1, 0, 0, 0), some (.invokevirtual 156, 3, 11, 1, 1, 0), none, none,
  some (.ifCond .ne 14, 3, 74, 0, 0, 0), none, none, some (.aload_n 0, 1, 0, 0, 0, 0), some (.getfield 10, 3, 11, 0, 0, 0), none,
  none, some (.iload_n 1, 1, 1, 0, 0, 0), some (.invokevirtual 159, 3, 13, 1, 1, 0), none, none, some (.ifCond .eq 6, 3, 77, 0, 0, 0),
  none, none, some (.bipush (-3), 2, 0, 0, 0, -3), none, some (.ireturn, 1, 0, 0, 0, 0), some (.aload_n 0, 1, 0, 0, 0, 0),
  some (.getfield 10, 3, 11, 0, 0, 0), none, none, some (.getfield 153, 3, 0, 9, 0, 0), none, none,
  some (.iload_n 1, 1, 1, 0, 0, 0), some (.iaload, 1, 0, 0, 0, 0), some (.istore 8, 2, 8, 0, 0, 0), none, some (.iload 8, 2, 8, 0, 0, 0), none,
  some (.bipush 12, 2, 0, 0, 0, 12), none, some (.if_icmp .lt 6, 3, 98, 0, 0, 0), none, none, some (.bipush (-4), 2, 0, 0, 0, -4),
  none, some (.ireturn, 1, 0, 0, 0, 0), some (.aload_n 0, 1, 0, 0, 0, 0), some (.getfield 10, 3, 11, 0, 0, 0), none, none,
  some (.iload_n 1, 1, 1, 0, 0, 0), some (.iload 8, 2, 8, 0, 0, 0), none, some (.invokevirtual 162, 3, 7, 2, 1, 0), none, none,
  some (.istore 9, 2, 9, 0, 0, 0), none, some (.aload_n 0, 1, 0, 0, 0, 0), some (.getfield 10, 3, 11, 0, 0, 0), none, none,
  some (.getfield 165, 3, 0, 10, 0, 0), none, none, some (.iload 9, 2, 9, 0, 0, 0), none, some (.iconst 0, 1, 0, 0, 0, 0),
  some (.iadd, 1, 0, 0, 0, 0), some (.iload_n 2, 1, 2, 0, 0, 0), some (.iastore, 1, 0, 0, 0, 0), some (.aload_n 0, 1, 0, 0, 0, 0), some (.getfield 10, 3, 11, 0, 0, 0), none,
  none, some (.getfield 165, 3, 0, 10, 0, 0), none, none, some (.iload 9, 2, 9, 0, 0, 0), none,
  some (.iconst 1, 1, 0, 0, 0, 1), some (.iadd, 1, 0, 0, 0, 0), some (.iload_n 3, 1, 3, 0, 0, 0), some (.iastore, 1, 0, 0, 0, 0), some (.aload_n 0, 1, 0, 0, 0, 0), some (.getfield 10, 3, 11, 0, 0, 0),
  none, none, some (.getfield 165, 3, 0, 10, 0, 0), none, none, some (.iload 9, 2, 9, 0, 0, 0),
  none, some (.iconst 2, 1, 0, 0, 0, 2), some (.iadd, 1, 0, 0, 0, 0), some (.iload 4, 2, 4, 0, 0, 0), none, some (.iastore, 1, 0, 0, 0, 0),
  some (.aload_n 0, 1, 0, 0, 0, 0), some (.getfield 10, 3, 11, 0, 0, 0), none, none, some (.getfield 165, 3, 0, 10, 0, 0), none,
  none, some (.iload 9, 2, 9, 0, 0, 0), none, some (.iconst 3, 1, 0, 0, 0, 3), some (.iadd, 1, 0, 0, 0, 0), some (.iload 5, 2, 5, 0, 0, 0),
  none, some (.iastore, 1, 0, 0, 0, 0), some (.aload_n 0, 1, 0, 0, 0, 0), some (.getfield 10, 3, 11, 0, 0, 0), none, none,
  some (.getfield 165, 3, 0, 10, 0, 0), none, none, some (.iload 9, 2, 9, 0, 0, 0), none, some (.iconst 3, 1, 0, 0, 0, 3),
  some (.iadd, 1, 0, 0, 0, 0), some (.iconst 1, 1, 0, 0, 0, 1), some (.iadd, 1, 0, 0, 0, 0), some (.iload 6, 2, 6, 0, 0, 0), none, some (.iastore, 1, 0, 0, 0, 0),
  some (.aload_n 0, 1, 0, 0, 0, 0), some (.getfield 10, 3, 11, 0, 0, 0), none, none, some (.getfield 165, 3, 0, 10, 0, 0), none,
  none, some (.iload 9, 2, 9, 0, 0, 0), none, some (.iconst 3, 1, 0, 0, 0, 3), some (.iadd, 1, 0, 0, 0, 0), some (.iconst 2, 1, 0, 0, 0, 2),
  some (.iadd, 1, 0, 0, 0, 0), some (.iload 7, 2, 7, 0, 0, 0), none, some (.iastore, 1, 0, 0, 0, 0), some (.aload_n 0, 1, 0, 0, 0, 0), some (.getfield 10, 3, 11, 0, 0, 0),
  none, none, some (.getfield 153, 3, 0, 9, 0, 0), none, none, some (.iload_n 1, 1, 1, 0, 0, 0),
  some (.iload 8, 2, 8, 0, 0, 0), none, some (.iconst 1, 1, 0, 0, 0, 1), some (.iadd, 1, 0, 0, 0, 0), some (.iastore, 1, 0, 0, 0, 0), some (.iload 8, 2, 8, 0, 0, 0),
  none, some (.ireturn, 1, 0, 0, 0, 0)
  ])
def mi_X11_lacks : am_MI := (yX11_lacks, cX11_lacks, 4, (some FieldType.int), [
  some (.aload_n 0, 1, 0, 0, 0, 0), some (.getfield 10, 3, 11, 0, 0, 0), none, none, some (.iload_n 1, 1, 1, 0, 0, 0), some (.iload_n 2, 1, 2, 0, 0, 0),
  some (.invokevirtual 168, 3, 3, 2, 1, 0), none, none, some (.ifCond .ne 5, 3, 14, 0, 0, 0), none, none,
  some (.iconst (-1), 1, 0, 0, 0, -1), some (.ireturn, 1, 0, 0, 0, 0), some (.iload_n 3, 1, 3, 0, 0, 0), some (.invokestatic 96, 3, 110, 1, 0, 0), none, none,
  some (.ifCond .ne 6, 3, 24, 0, 0, 0), none, none, some (.bipush (-2), 2, 0, 0, 0, -2), none, some (.ireturn, 1, 0, 0, 0, 0),
  some (.aload_n 0, 1, 0, 0, 0, 0), some (.getfield 21, 3, 11, 1, 0, 0), none, none, some (.iload_n 1, 1, 1, 0, 0, 0), some (.iload_n 3, 1, 3, 0, 0, 0),
  some (.aload_n 0, 1, 0, 0, 0, 0), some (.getfield 10, 3, 11, 0, 0, 0), none, none, some (.getfield 129, 3, 0, 7, 0, 0), none,
  none, some (.invokevirtual 171, 3, 20, 3, 1, 2), none, none, some (.aload_n 0, 1, 0, 0, 0, 0), some (.getfield 21, 3, 11, 1, 0, 0),
  none, none, some (.getfield 175, 3, 2, 1, 0, 0), none, none, some (.iload_n 1, 1, 1, 0, 0, 0),
  some (.bipush 12, 2, 0, 0, 0, 12), none, some (.imul, 1, 0, 0, 0, 0), some (.iload_n 2, 1, 2, 0, 0, 0), some (.iadd, 1, 0, 0, 0, 0), some (.iaload, 1, 0, 0, 0, 0),
  some (.ireturn, 1, 0, 0, 0, 0)
  ])
def mi_X11_says : am_MI := (yX11_says, cX11_says, 5, (some FieldType.int), [
  some (.aload_n 0, 1, 0, 0, 0, 0), some (.getfield 10, 3, 11, 0, 0, 0), none, none, some (.iconst 4, 1, 0, 0, 0, 4), some (.iload_n 1, 1, 1, 0, 0, 0),
  some (.invokevirtual 86, 3, 2, 2, 1, 0), none, none, some (.ifCond .eq 20, 3, 29, 0, 0, 0), none, none,
  some (.iload_n 2, 1, 2, 0, 0, 0), some (.iconst (-1), 1, 0, 0, 0, -1), some (.if_icmp .eq 17, 3, 31, 0, 0, 0), none, none, some (.aload_n 0, 1, 0, 0, 0, 0),
  some (.getfield 10, 3, 11, 0, 0, 0), none, none, some (.iload_n 1, 1, 1, 0, 0, 0), some (.iload_n 2, 1, 2, 0, 0, 0), some (.invokevirtual 168, 3, 3, 2, 1, 0),
  none, none, some (.ifCond .ne 5, 3, 31, 0, 0, 0), none, none, some (.iconst (-1), 1, 0, 0, 0, -1),
  some (.ireturn, 1, 0, 0, 0, 0), some (.iload_n 3, 1, 3, 0, 0, 0), some (.invokestatic 96, 3, 110, 1, 0, 0), none, none, some (.ifCond .ne 6, 3, 41, 0, 0, 0),
  none, none, some (.bipush (-2), 2, 0, 0, 0, -2), none, some (.ireturn, 1, 0, 0, 0, 0), some (.iload_n 2, 1, 2, 0, 0, 0),
  some (.iconst (-1), 1, 0, 0, 0, -1), some (.if_icmp .ne 17, 3, 60, 0, 0, 0), none, none, some (.aload_n 0, 1, 0, 0, 0, 0), some (.getfield 10, 3, 11, 0, 0, 0),
  none, none, some (.getfield 153, 3, 0, 9, 0, 0), none, none, some (.iload_n 1, 1, 1, 0, 0, 0),
  some (.iaload, 1, 0, 0, 0, 0), some (.iconst 1, 1, 0, 0, 0, 1), some (.isub, 1, 0, 0, 0, 0), some (.goto 4, 3, 61, 0, 0, 0), none, none,
  some (.iload_n 2, 1, 2, 0, 0, 0), some (.istore 4, 2, 4, 0, 0, 0), none, some (.iload 4, 2, 4, 0, 0, 0), none, some (.ifCond .ge 8, 3, 73, 0, 0, 0),
  none, none, some (.bipush (-5), 2, 0, 0, 0, -5), none, some (.goto 14, 3, 84, 0, 0, 0), none,
  none, some (.aload_n 0, 1, 0, 0, 0, 0), some (.getfield 21, 3, 11, 1, 0, 0), none, none, some (.iload_n 1, 1, 1, 0, 0, 0),
  some (.iload 4, 2, 4, 0, 0, 0), none, some (.iload_n 3, 1, 3, 0, 0, 0), some (.invokevirtual 178, 3, 23, 3, 1, 2), none, none,
  some (.ireturn, 1, 0, 0, 0, 0)
  ])
def mi_X11_check : am_MI := (yX11_check, cX11_check, 3, (some FieldType.int), [
  some (.aload_n 0, 1, 0, 0, 0, 0), some (.getfield 10, 3, 11, 0, 0, 0), none, none, some (.iconst 4, 1, 0, 0, 0, 4), some (.iload_n 1, 1, 1, 0, 0, 0),
  some (.invokevirtual 86, 3, 2, 2, 1, 0), none, none, some (.ifCond .ne 5, 3, 14, 0, 0, 0), none, none,
  some (.iconst (-1), 1, 0, 0, 0, -1), some (.ireturn, 1, 0, 0, 0, 0), some (.iload_n 2, 1, 2, 0, 0, 0), some (.invokestatic 96, 3, 110, 1, 0, 0), none, none,
  some (.ifCond .ne 6, 3, 24, 0, 0, 0), none, none, some (.bipush (-2), 2, 0, 0, 0, -2), none, some (.ireturn, 1, 0, 0, 0, 0),
  some (.aload_n 0, 1, 0, 0, 0, 0), some (.getfield 21, 3, 11, 1, 0, 0), none, none, some (.iload_n 1, 1, 1, 0, 0, 0), some (.iload_n 2, 1, 2, 0, 0, 0),
  some (.aload_n 0, 1, 0, 0, 0, 0), some (.getfield 10, 3, 11, 0, 0, 0), none, none, some (.getfield 129, 3, 0, 7, 0, 0), none,
  none, some (.invokevirtual 171, 3, 20, 3, 1, 2), none, none, some (.aload_n 0, 1, 0, 0, 0, 0), some (.getfield 21, 3, 11, 1, 0, 0),
  none, none, some (.getfield 182, 3, 2, 3, 0, 0), none, none, some (.iload_n 1, 1, 1, 0, 0, 0),
  some (.baload, 1, 2, 0, 0, 0), some (.ifCond .eq 7, 3, 56, 0, 0, 0), none, none, some (.iconst 1, 1, 0, 0, 0, 1), some (.goto 4, 3, 57, 0, 0, 0),
  none, none, some (.iconst 0, 1, 0, 0, 0, 0), some (.ireturn, 1, 0, 0, 0, 0)
  ])
def mi_X11_leans : am_MI := (yX11_leans, cX11_leans, 2, (some FieldType.int), [
  some (.aload_n 0, 1, 0, 0, 0, 0), some (.getfield 10, 3, 11, 0, 0, 0), none, none, some (.iconst 4, 1, 0, 0, 0, 4), some (.iload_n 1, 1, 1, 0, 0, 0),
  some (.invokevirtual 86, 3, 2, 2, 1, 0), none, none, some (.ifCond .eq 14, 3, 23, 0, 0, 0), none, none,
  some (.aload_n 0, 1, 0, 0, 0, 0), some (.getfield 21, 3, 11, 1, 0, 0), none, none, some (.iload_n 1, 1, 1, 0, 0, 0), some (.invokevirtual 186, 3, 26, 1, 1, 2),
  none, none, some (.goto 4, 3, 24, 0, 0, 0), none, none, some (.iconst (-1), 1, 0, 0, 0, -1),
  some (.ireturn, 1, 0, 0, 0, 0)
  ])
def mi_X11_hole : am_MI := (yX11_hole, cX11_hole, 4, (some FieldType.int), [
  some (.aload_n 0, 1, 0, 0, 0, 0), some (.getfield 10, 3, 11, 0, 0, 0), none, none, some (.iconst 4, 1, 0, 0, 0, 4), some (.iload_n 1, 1, 1, 0, 0, 0),
  some (.invokevirtual 86, 3, 2, 2, 1, 0), none, none, some (.ifCond .eq 8, 3, 17, 0, 0, 0), none, none,
  some (.iload_n 2, 1, 2, 0, 0, 0), some (.iconst (-1), 1, 0, 0, 0, -1), some (.if_icmp .ge 5, 3, 19, 0, 0, 0), none, none, some (.iconst (-1), 1, 0, 0, 0, -1),
  some (.ireturn, 1, 0, 0, 0, 0), some (.iload_n 2, 1, 2, 0, 0, 0), some (.iconst (-1), 1, 0, 0, 0, -1), some (.if_icmp .ne 12, 3, 33, 0, 0, 0), none, none,
  some (.aload_n 0, 1, 0, 0, 0, 0), some (.getfield 10, 3, 11, 0, 0, 0), none, none, some (.iload_n 1, 1, 1, 0, 0, 0), some (.invokevirtual 190, 3, 14, 1, 1, 0),
  none, none, some (.ireturn, 1, 0, 0, 0, 0), some (.aload_n 0, 1, 0, 0, 0, 0), some (.getfield 10, 3, 11, 0, 0, 0), none,
  none, some (.iload_n 1, 1, 1, 0, 0, 0), some (.iload_n 2, 1, 2, 0, 0, 0), some (.invokevirtual 193, 3, 16, 2, 1, 0), none, none,
  some (.istore_n 3, 1, 3, 0, 0, 0), some (.iload_n 3, 1, 3, 0, 0, 0), some (.ifCond .ge 7, 3, 51, 0, 0, 0), none, none, some (.iconst (-1), 1, 0, 0, 0, -1),
  some (.goto 4, 3, 52, 0, 0, 0), none, none, some (.iload_n 3, 1, 3, 0, 0, 0), some (.ireturn, 1, 0, 0, 0, 0)
  ])
def mi_X11_fill : am_MI := (yX11_fill, cX11_fill, 7, (some FieldType.int), [
  some (.aload_n 0, 1, 0, 0, 0, 0), some (.getfield 10, 3, 11, 0, 0, 0), none, none, some (.iconst 4, 1, 0, 0, 0, 4), some (.iload_n 1, 1, 1, 0, 0, 0),
  some (.invokevirtual 86, 3, 2, 2, 1, 0), none, none, some (.ifCond .ne 5, 3, 14, 0, 0, 0), none, none,
  some (.iconst (-1), 1, 0, 0, 0, -1), some (.ireturn, 1, 0, 0, 0, 0), some (.aload_n 0, 1, 0, 0, 0, 0), some (.getfield 10, 3, 11, 0, 0, 0), none, none,
  some (.iload_n 1, 1, 1, 0, 0, 0), some (.iconst 0, 1, 0, 0, 0, 0), some (.invokevirtual 193, 3, 16, 2, 1, 0), none, none, some (.istore_n 3, 1, 3, 0, 0, 0),
  some (.iload_n 3, 1, 3, 0, 0, 0), some (.ifCond .ge 6, 3, 31, 0, 0, 0), none, none, some (.bipush (-3), 2, 0, 0, 0, -3), none,
  some (.ireturn, 1, 0, 0, 0, 0), some (.iload_n 3, 1, 3, 0, 0, 0), some (.bipush 10, 2, 0, 0, 0, 10), none, some (.idiv, 1, 0, 0, 0, 0), some (.istore 4, 2, 4, 0, 0, 0),
  none, some (.iload_n 3, 1, 3, 0, 0, 0), some (.bipush 10, 2, 0, 0, 0, 10), none, some (.irem, 1, 0, 0, 0, 0), some (.istore 5, 2, 5, 0, 0, 0),
  none, some (.aload_n 0, 1, 0, 0, 0, 0), some (.getfield 21, 3, 11, 1, 0, 0), none, none, some (.iload_n 1, 1, 1, 0, 0, 0),
  some (.iload 4, 2, 4, 0, 0, 0), none, some (.iload_n 2, 1, 2, 0, 0, 0), some (.invokevirtual 196, 3, 25, 3, 1, 2), none, none,
  some (.istore 6, 2, 6, 0, 0, 0), none, some (.iload 6, 2, 6, 0, 0, 0), none, some (.ifCond .lt 20, 3, 78, 0, 0, 0), none,
  none, some (.iload 6, 2, 6, 0, 0, 0), none, some (.aload_n 0, 1, 0, 0, 0, 0), some (.getfield 21, 3, 11, 1, 0, 0), none,
  none, some (.iload_n 1, 1, 1, 0, 0, 0), some (.iload 4, 2, 4, 0, 0, 0), none, some (.iload 5, 2, 5, 0, 0, 0), none,
  some (.invokevirtual 199, 3, 24, 3, 1, 2), none, none, some (.if_icmp .eq 6, 3, 81, 0, 0, 0), none, none,
  some (.bipush (-3), 2, 0, 0, 0, -3), none, some (.ireturn, 1, 0, 0, 0, 0), some (.aload_n 0, 1, 0, 0, 0, 0), some (.getfield 10, 3, 11, 0, 0, 0), none,
  none, some (.getfield 165, 3, 0, 10, 0, 0), none, none, some (.aload_n 0, 1, 0, 0, 0, 0), some (.getfield 10, 3, 11, 0, 0, 0),
  none, none, some (.iload_n 1, 1, 1, 0, 0, 0), some (.iload 4, 2, 4, 0, 0, 0), none, some (.invokevirtual 162, 3, 7, 2, 1, 0),
  none, none, some (.iconst 3, 1, 0, 0, 0, 3), some (.iadd, 1, 0, 0, 0, 0), some (.iload 5, 2, 5, 0, 0, 0), none,
  some (.iadd, 1, 0, 0, 0, 0), some (.iload_n 2, 1, 2, 0, 0, 0), some (.iastore, 1, 0, 0, 0, 0), some (.aload_n 0, 1, 0, 0, 0, 0), some (.getfield 10, 3, 11, 0, 0, 0), none,
  none, some (.iload_n 1, 1, 1, 0, 0, 0), some (.invokevirtual 190, 3, 14, 1, 1, 0), none, none, some (.ireturn, 1, 0, 0, 0, 0)
  ])
def mi_X11_act : am_MI := (yX11_act, cX11_act, 6, (some FieldType.int), [
  some (.aload_n 0, 1, 0, 0, 0, 0), some (.getfield 10, 3, 11, 0, 0, 0), none, none, some (.iconst 4, 1, 0, 0, 0, 4), some (.iload_n 1, 1, 1, 0, 0, 0),
  some (.invokevirtual 86, 3, 2, 2, 1, 0), none, none, some (.ifCond .eq 12, 3, 21, 0, 0, 0), none, none,
  some (.iload_n 2, 1, 2, 0, 0, 0), some (.ifCond .lt 8, 3, 21, 0, 0, 0), none, none, some (.iload_n 2, 1, 2, 0, 0, 0), some (.iconst 2, 1, 0, 0, 0, 2),
  some (.if_icmp .le 5, 3, 23, 0, 0, 0), none, none, some (.iconst 0, 1, 0, 0, 0, 0), some (.ireturn, 1, 0, 0, 0, 0), some (.aload_n 0, 1, 0, 0, 0, 0),
  some (.getfield 63, 3, 11, 5, 0, 0), none, none, some (.aload_n 0, 1, 0, 0, 0, 0), some (.getfield 10, 3, 11, 0, 0, 0), none,
  none, some (.getfield 150, 3, 0, 8, 0, 0), none, none, some (.iload_n 1, 1, 1, 0, 0, 0), some (.iaload, 1, 0, 0, 0, 0),
  some (.aaload, 1, 4, 0, 0, 0), some (.astore 4, 2, 4, 0, 0, 0), none, some (.aload_n 0, 1, 0, 0, 0, 0), some (.getfield 10, 3, 11, 0, 0, 0), none,
  none, some (.getfield 153, 3, 0, 9, 0, 0), none, none, some (.iload_n 1, 1, 1, 0, 0, 0), some (.iaload, 1, 0, 0, 0, 0),
  some (.istore 5, 2, 5, 0, 0, 0), none, some (.iload_n 2, 1, 2, 0, 0, 0), some (.ifCond .ne 13, 3, 64, 0, 0, 0), none, none,
  some (.aload 4, 2, 4, 0, 0, 0), none, some (.iload_n 3, 1, 3, 0, 0, 0), some (.iload_n 1, 1, 1, 0, 0, 0), some (.iload 5, 2, 5, 0, 0, 0), none,
  some (.invokevirtual 202, 3, 216, 3, 3, 0), none, none, some (.ireturn, 1, 0, 0, 0, 0), some (.iload_n 2, 1, 2, 0, 0, 0), some (.iconst 1, 1, 0, 0, 0, 1),
  some (.if_icmp .ne 15, 3, 81, 0, 0, 0), none, none, some (.aload 4, 2, 4, 0, 0, 0), none, some (.iload_n 3, 1, 3, 0, 0, 0),
  some (.iload_n 1, 1, 1, 0, 0, 0), some (.iload 5, 2, 5, 0, 0, 0), none, some (.invokevirtual 205, 3, 225, 3, 3, 0), none, none,
  some (.goto 12, 3, 90, 0, 0, 0), none, none, some (.aload 4, 2, 4, 0, 0, 0), none, some (.iload_n 3, 1, 3, 0, 0, 0),
  some (.iload_n 1, 1, 1, 0, 0, 0), some (.iload 5, 2, 5, 0, 0, 0), none, some (.invokevirtual 208, 3, 234, 3, 3, 0), none, none,
  some (.ireturn, 1, 0, 0, 0, 0)
  ])
def mi_X11_as : am_MI := (yX11_as, cX11_as, 5, (some FieldType.int), [
  some (.aload_n 0, 1, 0, 0, 0, 0), some (.getfield 10, 3, 11, 0, 0, 0), none, none, some (.iconst 4, 1, 0, 0, 0, 4), some (.iload_n 1, 1, 1, 0, 0, 0),
  some (.invokevirtual 86, 3, 2, 2, 1, 0), none, none, some (.ifCond .eq 10, 3, 19, 0, 0, 0), none, none,
  some (.iload_n 2, 1, 2, 0, 0, 0), some (.invokestatic 147, 3, 113, 1, 0, 0), none, none, some (.ifCond .ne 5, 3, 21, 0, 0, 0), none,
  none, some (.iconst (-1), 1, 0, 0, 0, -1), some (.ireturn, 1, 0, 0, 0, 0), some (.aload_n 0, 1, 0, 0, 0, 0), some (.getfield 10, 3, 11, 0, 0, 0), none,
  none, some (.getfield 150, 3, 0, 8, 0, 0), none, none, some (.iload_n 1, 1, 1, 0, 0, 0), some (.iaload, 1, 0, 0, 0, 0),
  some (.istore_n 3, 1, 3, 0, 0, 0), some (.iconst 0, 1, 0, 0, 0, 0), some (.istore 4, 2, 4, 0, 0, 0), none, some (.iload 4, 2, 4, 0, 0, 0), none,
  some (.iconst 5, 1, 0, 0, 0, 5), some (.if_icmp .ge 28, 3, 65, 0, 0, 0), none, none, some (.iload_n 3, 1, 3, 0, 0, 0), some (.iload_n 2, 1, 2, 0, 0, 0),
  some (.if_icmp .eq 23, 3, 65, 0, 0, 0), none, none, some (.iload_n 3, 1, 3, 0, 0, 0), some (.ifCond .ge 7, 3, 53, 0, 0, 0), none,
  none, some (.iload_n 3, 1, 3, 0, 0, 0), some (.goto 8, 3, 58, 0, 0, 0), none, none, some (.getstatic 211, 3, 0, 0, 0, 0),
  none, none, some (.iload_n 3, 1, 3, 0, 0, 0), some (.iaload, 1, 0, 0, 1, 0), some (.istore_n 3, 1, 3, 0, 0, 0), some (.iinc 4 1, 3, 4, 0, 0, 1),
  none, none, some (.goto (-28), 3, 34, 0, 0, 0), none, none, some (.iload_n 3, 1, 3, 0, 0, 0),
  some (.iload_n 2, 1, 2, 0, 0, 0), some (.if_icmp .ne 15, 3, 82, 0, 0, 0), none, none, some (.aload_n 0, 1, 0, 0, 0, 0), some (.getfield 10, 3, 11, 0, 0, 0),
  none, none, some (.getfield 153, 3, 0, 9, 0, 0), none, none, some (.iload_n 1, 1, 1, 0, 0, 0),
  some (.iaload, 1, 0, 0, 0, 0), some (.goto 5, 3, 84, 0, 0, 0), none, none, some (.bipush (-6), 2, 0, 0, 0, -6), none,
  some (.ireturn, 1, 0, 0, 0, 0)
  ])
def mi_X11_title : am_MI := (yX11_title, cX11_title, 5, (some FieldType.int), [
  some (.aload_n 0, 1, 0, 0, 0, 0), some (.getfield 10, 3, 11, 0, 0, 0), none, none, some (.iconst 4, 1, 0, 0, 0, 4), some (.iload_n 1, 1, 1, 0, 0, 0),
  some (.invokevirtual 86, 3, 2, 2, 1, 0), none, none, some (.ifCond .ne 5, 3, 14, 0, 0, 0), none, none,
  some (.iconst (-1), 1, 0, 0, 0, -1), some (.ireturn, 1, 0, 0, 0, 0), some (.aload_n 0, 1, 0, 0, 0, 0), some (.getfield 10, 3, 11, 0, 0, 0), none, none,
  some (.getfield 70, 3, 0, 0, 0, 0), none, none, some (.iconst 0, 1, 0, 0, 0, 0), some (.iaload, 1, 0, 0, 0, 0), some (.istore_n 2, 1, 2, 0, 0, 0),
  some (.aload_n 0, 1, 0, 0, 0, 0), some (.getfield 21, 3, 11, 1, 0, 0), none, none, some (.iload_n 1, 1, 1, 0, 0, 0), some (.iload_n 2, 1, 2, 0, 0, 0),
  some (.aload_n 0, 1, 0, 0, 0, 0), some (.getfield 10, 3, 11, 0, 0, 0), none, none, some (.getfield 129, 3, 0, 7, 0, 0), none,
  none, some (.invokevirtual 171, 3, 20, 3, 1, 2), none, none, some (.aload_n 0, 1, 0, 0, 0, 0), some (.getfield 21, 3, 11, 1, 0, 0),
  none, none, some (.getfield 182, 3, 2, 3, 0, 0), none, none, some (.iload_n 1, 1, 1, 0, 0, 0),
  some (.baload, 1, 2, 0, 0, 0), some (.ifCond .ne 6, 3, 55, 0, 0, 0), none, none, some (.bipush (-3), 2, 0, 0, 0, -3), none,
  some (.ireturn, 1, 0, 0, 0, 0), some (.aload_n 0, 1, 0, 0, 0, 0), some (.getfield 21, 3, 11, 1, 0, 0), none, none, some (.iload_n 1, 1, 1, 0, 0, 0),
  some (.aload_n 0, 1, 0, 0, 0, 0), some (.getfield 10, 3, 11, 0, 0, 0), none, none, some (.getfield 153, 3, 0, 9, 0, 0), none,
  none, some (.iload_n 1, 1, 1, 0, 0, 0), some (.iaload, 1, 0, 0, 0, 0), some (.iconst 1, 1, 0, 0, 0, 1), some (.isub, 1, 0, 0, 0, 0), some (.iload_n 2, 1, 2, 0, 0, 0),
  some (.invokevirtual 178, 3, 23, 3, 1, 2), none, none, some (.istore_n 3, 1, 3, 0, 0, 0), some (.aload_n 0, 1, 0, 0, 0, 0), some (.getfield 10, 3, 11, 0, 0, 0),
  none, none, some (.iload_n 3, 1, 3, 0, 0, 0), some (.invokevirtual 214, 3, 12, 1, 1, 0), none, none,
  some (.ifCond .eq 6, 3, 90, 0, 0, 0), none, none, some (.bipush (-3), 2, 0, 0, 0, -3), none, some (.ireturn, 1, 0, 0, 0, 0),
  some (.aload_n 0, 1, 0, 0, 0, 0), some (.getfield 10, 3, 11, 0, 0, 0), none, none, some (.getfield 70, 3, 0, 0, 0, 0), none,
  none, some (.iconst 5, 1, 0, 0, 0, 5), some (.iaload, 1, 0, 0, 0, 0), some (.istore 4, 2, 4, 0, 0, 0), none, some (.iload 4, 2, 4, 0, 0, 0),
  none, some (.bipush 10, 2, 0, 0, 0, 10), none, some (.if_icmp .lt 6, 3, 111, 0, 0, 0), none, none,
  some (.bipush (-4), 2, 0, 0, 0, -4), none, some (.ireturn, 1, 0, 0, 0, 0), some (.aload_n 0, 1, 0, 0, 0, 0), some (.getfield 10, 3, 11, 0, 0, 0), none,
  none, some (.getfield 217, 3, 0, 11, 0, 0), none, none, some (.iload 4, 2, 4, 0, 0, 0), none,
  some (.iload_n 1, 1, 1, 0, 0, 0), some (.iastore, 1, 0, 0, 0, 0), some (.aload_n 0, 1, 0, 0, 0, 0), some (.getfield 10, 3, 11, 0, 0, 0), none, none,
  some (.getfield 220, 3, 0, 12, 0, 0), none, none, some (.iload 4, 2, 4, 0, 0, 0), none, some (.iload_n 3, 1, 3, 0, 0, 0),
  some (.iastore, 1, 0, 0, 0, 0), some (.aload_n 0, 1, 0, 0, 0, 0), some (.getfield 10, 3, 11, 0, 0, 0), none, none, some (.getfield 223, 3, 0, 13, 0, 0),
  none, none, some (.iload 4, 2, 4, 0, 0, 0), none, some (.iload_n 2, 1, 2, 0, 0, 0), some (.iastore, 1, 0, 0, 0, 0),
  some (.aload_n 0, 1, 0, 0, 0, 0), some (.getfield 10, 3, 11, 0, 0, 0), none, none, some (.getfield 70, 3, 0, 0, 0, 0), none,
  none, some (.iconst 5, 1, 0, 0, 0, 5), some (.iload 4, 2, 4, 0, 0, 0), none, some (.iconst 1, 1, 0, 0, 0, 1), some (.iadd, 1, 0, 0, 0, 0),
  some (.iastore, 1, 0, 0, 0, 0), some (.iload 4, 2, 4, 0, 0, 0), none, some (.ireturn, 1, 0, 0, 0, 0)
  ])
def mi_X11_stand : am_MI := (yX11_stand, cX11_stand, 3, (some FieldType.int), [
  some (.aload_n 0, 1, 0, 0, 0, 0), some (.getfield 10, 3, 11, 0, 0, 0), none, none, some (.iconst 5, 1, 0, 0, 0, 5), some (.iload_n 1, 1, 1, 0, 0, 0),
  some (.invokevirtual 86, 3, 2, 2, 1, 0), none, none, some (.ifCond .ne 5, 3, 14, 0, 0, 0), none, none,
  some (.iconst (-1), 1, 0, 0, 0, -1), some (.ireturn, 1, 0, 0, 0, 0), some (.iload_n 2, 1, 2, 0, 0, 0), some (.invokestatic 96, 3, 110, 1, 0, 0), none, none,
  some (.ifCond .eq 16, 3, 34, 0, 0, 0), none, none, some (.iload_n 2, 1, 2, 0, 0, 0), some (.aload_n 0, 1, 0, 0, 0, 0), some (.getfield 10, 3, 11, 0, 0, 0),
  none, none, some (.getfield 223, 3, 0, 13, 0, 0), none, none, some (.iload_n 1, 1, 1, 0, 0, 0),
  some (.iaload, 1, 0, 0, 0, 0), some (.if_icmp .ge 6, 3, 37, 0, 0, 0), none, none, some (.bipush (-2), 2, 0, 0, 0, -2), none,
  some (.ireturn, 1, 0, 0, 0, 0), some (.aload_n 0, 1, 0, 0, 0, 0), some (.iload_n 1, 1, 1, 0, 0, 0), some (.aload_n 0, 1, 0, 0, 0, 0), some (.getfield 10, 3, 11, 0, 0, 0), none,
  none, some (.getfield 129, 3, 0, 7, 0, 0), none, none, some (.invokevirtual 226, 3, 116, 2, 0, 11), none,
  none, some (.ifCond .eq 5, 3, 54, 0, 0, 0), none, none, some (.iconst 1, 1, 0, 0, 0, 1), some (.ireturn, 1, 0, 0, 0, 0),
  some (.aload_n 0, 1, 0, 0, 0, 0), some (.getfield 28, 3, 11, 2, 0, 0), none, none, some (.iload_n 2, 1, 2, 0, 0, 0), some (.aload_n 0, 1, 0, 0, 0, 0),
  some (.getfield 10, 3, 11, 0, 0, 0), none, none, some (.getfield 129, 3, 0, 7, 0, 0), none, none,
  some (.iconst 0, 1, 0, 0, 0, 0), some (.invokevirtual 135, 3, 40, 3, 1, 6), none, none, some (.aload_n 0, 1, 0, 0, 0, 0), some (.getfield 28, 3, 11, 2, 0, 0),
  none, none, some (.aload_n 0, 1, 0, 0, 0, 0), some (.getfield 10, 3, 11, 0, 0, 0), none, none,
  some (.getfield 220, 3, 0, 12, 0, 0), none, none, some (.iload_n 1, 1, 1, 0, 0, 0), some (.iaload, 1, 0, 0, 0, 0), some (.invokevirtual 139, 3, 38, 1, 1, 6),
  none, none, some (.ifCond .eq 7, 3, 93, 0, 0, 0), none, none, some (.iconst 2, 1, 0, 0, 0, 2),
  some (.goto 4, 3, 94, 0, 0, 0), none, none, some (.iconst 0, 1, 0, 0, 0, 0), some (.ireturn, 1, 0, 0, 0, 0)
  ])
def mi_X11_fall : am_MI := (yX11_fall, cX11_fall, 2, (some FieldType.int), [
  some (.aload_n 0, 1, 0, 0, 0, 0), some (.getfield 10, 3, 11, 0, 0, 0), none, none, some (.iconst 3, 1, 0, 0, 0, 3), some (.iload_n 1, 1, 1, 0, 0, 0),
  some (.invokevirtual 86, 3, 2, 2, 1, 0), none, none, some (.ifCond .ne 5, 3, 14, 0, 0, 0), none, none,
  some (.iconst (-1), 1, 0, 0, 0, -1), some (.ireturn, 1, 0, 0, 0, 0), some (.aload_n 0, 1, 0, 0, 0, 0), some (.getfield 10, 3, 11, 0, 0, 0), none, none,
  some (.iload_n 1, 1, 1, 0, 0, 0), some (.invokevirtual 132, 3, 4, 1, 1, 0), none, none, some (.ifCond .ne 6, 3, 28, 0, 0, 0), none,
  none, some (.bipush (-3), 2, 0, 0, 0, -3), none, some (.ireturn, 1, 0, 0, 0, 0), some (.aload_n 0, 1, 0, 0, 0, 0), some (.aload_n 0, 1, 0, 0, 0, 0),
  some (.getfield 10, 3, 11, 0, 0, 0), none, none, some (.getfield 129, 3, 0, 7, 0, 0), none, none,
  some (.invokevirtual 229, 3, 117, 1, 0, 11), none, none, some (.aload_n 0, 1, 0, 0, 0, 0), some (.aload_n 0, 1, 0, 0, 0, 0), some (.getfield 10, 3, 11, 0, 0, 0),
  none, none, some (.getfield 129, 3, 0, 7, 0, 0), none, none, some (.iconst 1, 1, 0, 0, 0, 1),
  some (.iload_n 1, 1, 1, 0, 0, 0), some (.ishl, 1, 0, 0, 0, 0), some (.iconst (-1), 1, 0, 0, 0, -1), some (.ixor, 1, 0, 0, 0, 0), some (.iand, 1, 0, 0, 0, 0), some (.invokevirtual 229, 3, 117, 1, 0, 11),
  none, none, some (.iconst (-1), 1, 0, 0, 0, -1), some (.ixor, 1, 0, 0, 0, 0), some (.iand, 1, 0, 0, 0, 0), some (.ireturn, 1, 0, 0, 0, 0)
  ])
def mi_X11_carry : am_MI := (yX11_carry, cX11_carry, 5, (some FieldType.int), [
  some (.aload_n 0, 1, 0, 0, 0, 0), some (.getfield 10, 3, 11, 0, 0, 0), none, none, some (.iconst 5, 1, 0, 0, 0, 5), some (.iload_n 1, 1, 1, 0, 0, 0),
  some (.invokevirtual 86, 3, 2, 2, 1, 0), none, none, some (.ifCond .ne 5, 3, 14, 0, 0, 0), none, none,
  some (.iconst (-1), 1, 0, 0, 0, -1), some (.ireturn, 1, 0, 0, 0, 0), some (.iload_n 2, 1, 2, 0, 0, 0), some (.invokestatic 96, 3, 110, 1, 0, 0), none, none,
  some (.ifCond .ne 6, 3, 24, 0, 0, 0), none, none, some (.bipush (-2), 2, 0, 0, 0, -2), none, some (.ireturn, 1, 0, 0, 0, 0),
  some (.aload_n 0, 1, 0, 0, 0, 0), some (.getfield 10, 3, 11, 0, 0, 0), none, none, some (.getfield 217, 3, 0, 11, 0, 0), none,
  none, some (.iload_n 1, 1, 1, 0, 0, 0), some (.iaload, 1, 0, 0, 0, 0), some (.istore_n 3, 1, 3, 0, 0, 0), some (.aload_n 0, 1, 0, 0, 0, 0), some (.getfield 21, 3, 11, 1, 0, 0),
  none, none, some (.iload_n 3, 1, 3, 0, 0, 0), some (.iload_n 2, 1, 2, 0, 0, 0), some (.aload_n 0, 1, 0, 0, 0, 0), some (.getfield 10, 3, 11, 0, 0, 0),
  none, none, some (.getfield 129, 3, 0, 7, 0, 0), none, none, some (.invokevirtual 171, 3, 20, 3, 1, 2),
  none, none, some (.iconst 0, 1, 0, 0, 0, 0), some (.istore 4, 2, 4, 0, 0, 0), none, some (.iload 4, 2, 4, 0, 0, 0),
  none, some (.aload_n 0, 1, 0, 0, 0, 0), some (.getfield 10, 3, 11, 0, 0, 0), none, none, some (.getfield 153, 3, 0, 9, 0, 0),
  none, none, some (.iload_n 3, 1, 3, 0, 0, 0), some (.iaload, 1, 0, 0, 0, 0), some (.if_icmp .ge 30, 3, 94, 0, 0, 0), none,
  none, some (.aload_n 0, 1, 0, 0, 0, 0), some (.getfield 21, 3, 11, 1, 0, 0), none, none, some (.getfield 175, 3, 2, 1, 0, 0),
  none, none, some (.iload_n 3, 1, 3, 0, 0, 0), some (.bipush 12, 2, 0, 0, 0, 12), none, some (.imul, 1, 0, 0, 0, 0),
  some (.iload 4, 2, 4, 0, 0, 0), none, some (.iadd, 1, 0, 0, 0, 0), some (.iaload, 1, 0, 0, 0, 0), some (.ifCond .eq 6, 3, 88, 0, 0, 0), none,
  none, some (.iload 4, 2, 4, 0, 0, 0), none, some (.ireturn, 1, 0, 0, 0, 0), some (.iinc 4 1, 3, 4, 0, 0, 1), none,
  none, some (.goto (-38), 3, 53, 0, 0, 0), none, none, some (.bipush (-5), 2, 0, 0, 0, -5), none,
  some (.ireturn, 1, 0, 0, 0, 0)
  ])
def mi_X11_clash : am_MI := (yX11_clash, cX11_clash, 6, (some FieldType.int), [
  some (.aload_n 0, 1, 0, 0, 0, 0), some (.getfield 10, 3, 11, 0, 0, 0), none, none, some (.iconst 5, 1, 0, 0, 0, 5), some (.iload_n 1, 1, 1, 0, 0, 0),
  some (.invokevirtual 86, 3, 2, 2, 1, 0), none, none, some (.ifCond .eq 15, 3, 24, 0, 0, 0), none, none,
  some (.aload_n 0, 1, 0, 0, 0, 0), some (.getfield 10, 3, 11, 0, 0, 0), none, none, some (.iconst 5, 1, 0, 0, 0, 5), some (.iload_n 2, 1, 2, 0, 0, 0),
  some (.invokevirtual 86, 3, 2, 2, 1, 0), none, none, some (.ifCond .ne 5, 3, 26, 0, 0, 0), none, none,
  some (.iconst (-1), 1, 0, 0, 0, -1), some (.ireturn, 1, 0, 0, 0, 0), some (.iload_n 1, 1, 1, 0, 0, 0), some (.iload_n 2, 1, 2, 0, 0, 0), some (.if_icmp .ne 6, 3, 34, 0, 0, 0), none,
  none, some (.bipush (-2), 2, 0, 0, 0, -2), none, some (.ireturn, 1, 0, 0, 0, 0), some (.aload_n 0, 1, 0, 0, 0, 0), some (.getfield 10, 3, 11, 0, 0, 0),
  none, none, some (.getfield 220, 3, 0, 12, 0, 0), none, none, some (.iload_n 1, 1, 1, 0, 0, 0),
  some (.iaload, 1, 0, 0, 0, 0), some (.istore_n 3, 1, 3, 0, 0, 0), some (.aload_n 0, 1, 0, 0, 0, 0), some (.getfield 10, 3, 11, 0, 0, 0), none, none,
  some (.getfield 220, 3, 0, 12, 0, 0), none, none, some (.iload_n 2, 1, 2, 0, 0, 0), some (.iaload, 1, 0, 0, 0, 0), some (.istore 4, 2, 4, 0, 0, 0),
  none, some (.iload_n 3, 1, 3, 0, 0, 0), some (.bipush 125, 2, 0, 0, 0, 125), none, some (.if_icmp .ge 14, 3, 72, 0, 0, 0), none,
  none, some (.iload 4, 2, 4, 0, 0, 0), none, some (.bipush 125, 2, 0, 0, 0, 125), none, some (.if_icmp .ge 7, 3, 72, 0, 0, 0),
  none, none, some (.iconst 1, 1, 0, 0, 0, 1), some (.goto 4, 3, 73, 0, 0, 0), none, none,
  some (.iconst 0, 1, 0, 0, 0, 0), some (.istore 5, 2, 5, 0, 0, 0), none, some (.iload 5, 2, 5, 0, 0, 0), none, some (.ifCond .eq 29, 3, 106, 0, 0, 0),
  none, none, some (.iload_n 3, 1, 3, 0, 0, 0), some (.iconst 5, 1, 0, 0, 0, 5), some (.idiv, 1, 0, 0, 0, 0), some (.iconst 5, 1, 0, 0, 0, 5),
  some (.irem, 1, 0, 0, 0, 0), some (.iload 4, 2, 4, 0, 0, 0), none, some (.iconst 5, 1, 0, 0, 0, 5), some (.idiv, 1, 0, 0, 0, 0), some (.iconst 5, 1, 0, 0, 0, 5),
  some (.irem, 1, 0, 0, 0, 0), some (.if_icmp .ne 15, 3, 106, 0, 0, 0), none, none, some (.iload_n 3, 1, 3, 0, 0, 0), some (.bipush 25, 2, 0, 0, 0, 25),
  none, some (.idiv, 1, 0, 0, 0, 0), some (.iload 4, 2, 4, 0, 0, 0), none, some (.bipush 25, 2, 0, 0, 0, 25), none,
  some (.idiv, 1, 0, 0, 0, 0), some (.if_icmp .ne 6, 3, 109, 0, 0, 0), none, none, some (.bipush (-5), 2, 0, 0, 0, -5), none,
  some (.ireturn, 1, 0, 0, 0, 0), some (.aload_n 0, 1, 0, 0, 0, 0), some (.getfield 21, 3, 11, 1, 0, 0), none, none, some (.aload_n 0, 1, 0, 0, 0, 0),
  some (.getfield 10, 3, 11, 0, 0, 0), none, none, some (.getfield 217, 3, 0, 11, 0, 0), none, none,
  some (.iload_n 1, 1, 1, 0, 0, 0), some (.iaload, 1, 0, 0, 0, 0), some (.invokevirtual 186, 3, 26, 1, 1, 2), none, none, some (.aload_n 0, 1, 0, 0, 0, 0),
  some (.getfield 21, 3, 11, 1, 0, 0), none, none, some (.aload_n 0, 1, 0, 0, 0, 0), some (.getfield 10, 3, 11, 0, 0, 0), none,
  none, some (.getfield 217, 3, 0, 11, 0, 0), none, none, some (.iload_n 2, 1, 2, 0, 0, 0), some (.iaload, 1, 0, 0, 0, 0),
  some (.invokevirtual 186, 3, 26, 1, 1, 2), none, none, some (.ixor, 1, 0, 0, 0, 0), some (.ireturn, 1, 0, 0, 0, 0)
  ])
def mi_X11_every : am_MI := (yX11_every, cX11_every, 5, (some FieldType.int), [
  some (.iload_n 1, 1, 1, 0, 0, 0), some (.invokestatic 120, 3, 111, 1, 0, 0), none, none, some (.ifCond .ne 6, 3, 10, 0, 0, 0), none,
  none, some (.bipush (-2), 2, 0, 0, 0, -2), none, some (.ireturn, 1, 0, 0, 0, 0), some (.aload_n 0, 1, 0, 0, 0, 0), some (.getfield 10, 3, 11, 0, 0, 0),
  none, none, some (.getfield 129, 3, 0, 7, 0, 0), none, none, some (.istore_n 2, 1, 2, 0, 0, 0),
  some (.aload_n 0, 1, 0, 0, 0, 0), some (.iload_n 1, 1, 1, 0, 0, 0), some (.iload_n 2, 1, 2, 0, 0, 0), some (.invokevirtual 232, 3, 115, 2, 0, 11), none, none,
  some (.ifCond .ne 6, 3, 30, 0, 0, 0), none, none, some (.bipush (-5), 2, 0, 0, 0, -5), none, some (.ireturn, 1, 0, 0, 0, 0),
  some (.iconst 0, 1, 0, 0, 0, 0), some (.istore_n 3, 1, 3, 0, 0, 0), some (.iconst 0, 1, 0, 0, 0, 0), some (.istore 4, 2, 4, 0, 0, 0), none, some (.iload 4, 2, 4, 0, 0, 0),
  none, some (.aload_n 0, 1, 0, 0, 0, 0), some (.getfield 10, 3, 11, 0, 0, 0), none, none, some (.getfield 70, 3, 0, 0, 0, 0),
  none, none, some (.iconst 3, 1, 0, 0, 0, 3), some (.iaload, 1, 0, 0, 0, 0), some (.if_icmp .ge 44, 3, 90, 0, 0, 0), none,
  none, some (.aload_n 0, 1, 0, 0, 0, 0), some (.getfield 10, 3, 11, 0, 0, 0), none, none, some (.iload 4, 2, 4, 0, 0, 0),
  none, some (.invokevirtual 132, 3, 4, 1, 1, 0), none, none, some (.ifCond .eq 26, 3, 84, 0, 0, 0), none,
  none, some (.aload_n 0, 1, 0, 0, 0, 0), some (.iload_n 1, 1, 1, 0, 0, 0), some (.iload_n 2, 1, 2, 0, 0, 0), some (.iconst 1, 1, 0, 0, 0, 1), some (.iload 4, 2, 4, 0, 0, 0),
  none, some (.ishl, 1, 0, 0, 0, 0), some (.iconst (-1), 1, 0, 0, 0, -1), some (.ixor, 1, 0, 0, 0, 0), some (.iand, 1, 0, 0, 0, 0), some (.invokevirtual 232, 3, 115, 2, 0, 11),
  none, none, some (.ifCond .ne 10, 3, 84, 0, 0, 0), none, none, some (.iload_n 3, 1, 3, 0, 0, 0),
  some (.iconst 1, 1, 0, 0, 0, 1), some (.iload 4, 2, 4, 0, 0, 0), none, some (.ishl, 1, 0, 0, 0, 0), some (.ior, 1, 0, 0, 0, 0), some (.istore_n 3, 1, 3, 0, 0, 0),
  some (.iinc 4 1, 3, 4, 0, 0, 1), none, none, some (.goto (-52), 3, 35, 0, 0, 0), none, none,
  some (.iload_n 3, 1, 3, 0, 0, 0), some (.ireturn, 1, 0, 0, 0, 0)
  ])
def mi_X11_enough : am_MI := (yX11_enough, cX11_enough, 3, (some FieldType.int), [
  some (.iload_n 1, 1, 1, 0, 0, 0), some (.invokestatic 120, 3, 111, 1, 0, 0), none, none, some (.ifCond .eq 26, 3, 30, 0, 0, 0), none,
  none, some (.iload_n 2, 1, 2, 0, 0, 0), some (.aload_n 0, 1, 0, 0, 0, 0), some (.getfield 10, 3, 11, 0, 0, 0), none, none,
  some (.getfield 129, 3, 0, 7, 0, 0), none, none, some (.iconst (-1), 1, 0, 0, 0, -1), some (.ixor, 1, 0, 0, 0, 0), some (.iand, 1, 0, 0, 0, 0),
  some (.ifCond .ne 12, 3, 30, 0, 0, 0), none, none, some (.iload_n 2, 1, 2, 0, 0, 0), some (.invokestatic 235, 3, 210, 1, 0, 0), none,
  none, some (.bipush 6, 2, 0, 0, 0, 6), none, some (.if_icmp .le 6, 3, 33, 0, 0, 0), none, none,
  some (.bipush (-2), 2, 0, 0, 0, -2), none, some (.ireturn, 1, 0, 0, 0, 0), some (.aload_n 0, 1, 0, 0, 0, 0), some (.iload_n 1, 1, 1, 0, 0, 0), some (.iload_n 2, 1, 2, 0, 0, 0),
  some (.iconst 0, 1, 0, 0, 0, 0), some (.invokevirtual 240, 3, 118, 3, 0, 11), none, none, some (.ireturn, 1, 0, 0, 0, 0)
  ])
def mi_X11_could : am_MI := (yX11_could, cX11_could, 6, (some FieldType.int), [
  some (.iload_n 1, 1, 1, 0, 0, 0), some (.invokestatic 117, 3, 112, 1, 0, 0), none, none, some (.ifCond .ne 5, 3, 9, 0, 0, 0), none,
  none, some (.iconst (-1), 1, 0, 0, 0, -1), some (.ireturn, 1, 0, 0, 0, 0), some (.iload_n 2, 1, 2, 0, 0, 0), some (.invokestatic 120, 3, 111, 1, 0, 0), none,
  none, some (.ifCond .ne 6, 3, 19, 0, 0, 0), none, none, some (.bipush (-2), 2, 0, 0, 0, -2), none,
  some (.ireturn, 1, 0, 0, 0, 0), some (.iconst 0, 1, 0, 0, 0, 0), some (.istore_n 3, 1, 3, 0, 0, 0), some (.iconst 0, 1, 0, 0, 0, 0), some (.istore 4, 2, 4, 0, 0, 0), none,
  some (.iconst 0, 1, 0, 0, 0, 0), some (.istore 5, 2, 5, 0, 0, 0), none, some (.iload 5, 2, 5, 0, 0, 0), none, some (.aload_n 0, 1, 0, 0, 0, 0),
  some (.getfield 10, 3, 11, 0, 0, 0), none, none, some (.getfield 70, 3, 0, 0, 0, 0), none, none,
  some (.iconst 3, 1, 0, 0, 0, 3), some (.iaload, 1, 0, 0, 0, 0), some (.if_icmp .ge 76, 3, 114, 0, 0, 0), none, none, some (.aload_n 0, 1, 0, 0, 0, 0),
  some (.getfield 10, 3, 11, 0, 0, 0), none, none, some (.iload 5, 2, 5, 0, 0, 0), none, some (.invokevirtual 132, 3, 4, 1, 1, 0),
  none, none, some (.ifCond .eq 27, 3, 77, 0, 0, 0), none, none, some (.aload_n 0, 1, 0, 0, 0, 0),
  some (.getfield 10, 3, 11, 0, 0, 0), none, none, some (.getfield 126, 3, 0, 6, 0, 0), none, none,
  some (.iload 5, 2, 5, 0, 0, 0), none, some (.iaload, 1, 0, 0, 0, 0), some (.iload_n 1, 1, 1, 0, 0, 0), some (.if_icmp .ne 13, 3, 77, 0, 0, 0), none,
  none, some (.iload_n 3, 1, 3, 0, 0, 0), some (.iconst 1, 1, 0, 0, 0, 1), some (.iload 5, 2, 5, 0, 0, 0), none, some (.ishl, 1, 0, 0, 0, 0),
  some (.ior, 1, 0, 0, 0, 0), some (.istore_n 3, 1, 3, 0, 0, 0), some (.goto 34, 3, 108, 0, 0, 0), none, none, some (.aload_n 0, 1, 0, 0, 0, 0),
  some (.getfield 10, 3, 11, 0, 0, 0), none, none, some (.iload 5, 2, 5, 0, 0, 0), none, some (.invokevirtual 132, 3, 4, 1, 1, 0),
  none, none, some (.ifCond .eq 22, 3, 108, 0, 0, 0), none, none, some (.iload 4, 2, 4, 0, 0, 0),
  none, some (.invokestatic 235, 3, 210, 1, 0, 0), none, none, some (.bipush 6, 2, 0, 0, 0, 6), none,
  some (.if_icmp .ge 12, 3, 108, 0, 0, 0), none, none, some (.iload 4, 2, 4, 0, 0, 0), none, some (.iconst 1, 1, 0, 0, 0, 1),
  some (.iload 5, 2, 5, 0, 0, 0), none, some (.ishl, 1, 0, 0, 0, 0), some (.ior, 1, 0, 0, 0, 0), some (.istore 4, 2, 4, 0, 0, 0), none,
  some (.iinc 5 1, 3, 5, 0, 0, 1), none, none, some (.goto (-84), 3, 27, 0, 0, 0), none, none,
  some (.aload_n 0, 1, 0, 0, 0, 0), some (.iload_n 2, 1, 2, 0, 0, 0), some (.iload 4, 2, 4, 0, 0, 0), none, some (.iload_n 3, 1, 3, 0, 0, 0), some (.invokevirtual 240, 3, 118, 3, 0, 11),
  none, none, some (.ireturn, 1, 0, 0, 0, 0)
  ])
def mi_X11_tactic : am_MI := (yX11_tactic, cX11_tactic, 4, (some FieldType.int), [
  some (.aload_n 0, 1, 0, 0, 0, 0), some (.getfield 10, 3, 11, 0, 0, 0), none, none, some (.getfield 70, 3, 0, 0, 0, 0), none,
  none, some (.bipush 6, 2, 0, 0, 0, 6), none, some (.iaload, 1, 0, 0, 0, 0), some (.istore_n 1, 1, 1, 0, 0, 0), some (.iload_n 1, 1, 1, 0, 0, 0),
  some (.bipush 6, 2, 0, 0, 0, 6), none, some (.if_icmp .lt 6, 3, 20, 0, 0, 0), none, none, some (.bipush (-4), 2, 0, 0, 0, -4),
  none, some (.ireturn, 1, 0, 0, 0, 0), some (.aload_n 0, 1, 0, 0, 0, 0), some (.getfield 10, 3, 11, 0, 0, 0), none, none,
  some (.getfield 70, 3, 0, 0, 0, 0), none, none, some (.bipush 7, 2, 0, 0, 0, 7), none, some (.iaload, 1, 0, 0, 0, 0),
  some (.istore_n 2, 1, 2, 0, 0, 0), some (.aload_n 0, 1, 0, 0, 0, 0), some (.getfield 10, 3, 11, 0, 0, 0), none, none, some (.getfield 74, 3, 0, 1, 0, 0),
  none, none, some (.iload_n 2, 1, 2, 0, 0, 0), some (.invokestatic 243, 3, 62, 2, 1, 0), none, none,
  some (.istore_n 3, 1, 3, 0, 0, 0), some (.aload_n 0, 1, 0, 0, 0, 0), some (.getfield 10, 3, 11, 0, 0, 0), none, none, some (.getfield 70, 3, 0, 0, 0, 0),
  none, none, some (.bipush 7, 2, 0, 0, 0, 7), none, some (.iconst 0, 1, 0, 0, 0, 0), some (.iastore, 1, 0, 0, 0, 0),
  some (.iload_n 3, 1, 3, 0, 0, 0), some (.ifCond .lt 8, 3, 63, 0, 0, 0), none, none, some (.bipush (-10), 2, 0, 0, 0, -10), none,
  some (.iload_n 3, 1, 3, 0, 0, 0), some (.isub, 1, 0, 0, 0, 0), some (.ireturn, 1, 0, 0, 0, 0), some (.aload_n 0, 1, 0, 0, 0, 0), some (.getfield 10, 3, 11, 0, 0, 0), none,
  none, some (.getfield 74, 3, 0, 1, 0, 0), none, none, some (.iconst 0, 1, 0, 0, 0, 0), some (.aload_n 0, 1, 0, 0, 0, 0),
  some (.getfield 10, 3, 11, 0, 0, 0), none, none, some (.getfield 247, 3, 0, 15, 0, 0), none, none,
  some (.iload_n 1, 1, 1, 0, 0, 0), some (.bipush 120, 2, 0, 0, 0, 120), none, some (.imul, 1, 0, 0, 0, 0), some (.iload_n 2, 1, 2, 0, 0, 0), some (.invokestatic 250, 3, 1, 0, 2, 0),
  none, none, some (.aload_n 0, 1, 0, 0, 0, 0), some (.getfield 10, 3, 11, 0, 0, 0), none, none,
  some (.getfield 256, 3, 0, 14, 0, 0), none, none, some (.iload_n 1, 1, 1, 0, 0, 0), some (.iload_n 2, 1, 2, 0, 0, 0), some (.iastore, 1, 0, 0, 0, 0),
  some (.aload_n 0, 1, 0, 0, 0, 0), some (.getfield 10, 3, 11, 0, 0, 0), none, none, some (.getfield 70, 3, 0, 0, 0, 0), none,
  none, some (.bipush 6, 2, 0, 0, 0, 6), none, some (.iload_n 1, 1, 1, 0, 0, 0), some (.iconst 1, 1, 0, 0, 0, 1), some (.iadd, 1, 0, 0, 0, 0),
  some (.iastore, 1, 0, 0, 0, 0), some (.iload_n 1, 1, 1, 0, 0, 0), some (.ireturn, 1, 0, 0, 0, 0)
  ])
def mi_X11_run : am_MI := (yX11_run, cX11_run, 5, (some FieldType.int), [
  some (.aload_n 0, 1, 0, 0, 0, 0), some (.getfield 10, 3, 11, 0, 0, 0), none, none, some (.bipush 6, 2, 0, 0, 0, 6), none,
  some (.iload_n 1, 1, 1, 0, 0, 0), some (.invokevirtual 86, 3, 2, 2, 1, 0), none, none, some (.ifCond .eq 12, 3, 22, 0, 0, 0), none,
  none, some (.iload_n 3, 1, 3, 0, 0, 0), some (.ifCond .lt 8, 3, 22, 0, 0, 0), none, none, some (.iload_n 3, 1, 3, 0, 0, 0),
  some (.iconst 1, 1, 0, 0, 0, 1), some (.if_icmp .le 5, 3, 24, 0, 0, 0), none, none, some (.iconst (-1), 1, 0, 0, 0, -1), some (.ireturn, 1, 0, 0, 0, 0),
  some (.iload_n 2, 1, 2, 0, 0, 0), some (.iconst 1, 1, 0, 0, 0, 1), some (.if_icmp .lt 10, 3, 36, 0, 0, 0), none, none, some (.iload_n 2, 1, 2, 0, 0, 0),
  some (.sipush 200, 3, 0, 0, 0, 200), none, none, some (.if_icmp .le 6, 3, 39, 0, 0, 0), none, none,
  some (.bipush (-2), 2, 0, 0, 0, -2), none, some (.ireturn, 1, 0, 0, 0, 0), some (.aload_n 0, 1, 0, 0, 0, 0), some (.getfield 37, 3, 11, 3, 0, 0), none,
  none, some (.iload_n 1, 1, 1, 0, 0, 0), some (.iload_n 2, 1, 2, 0, 0, 0), some (.invokevirtual 259, 3, 63, 2, 1, 9), none, none,
  some (.iconst 0, 1, 0, 0, 0, 0), some (.istore 4, 2, 4, 0, 0, 0), none, some (.iload 4, 2, 4, 0, 0, 0), none, some (.sipush 750, 3, 0, 0, 0, 750),
  none, none, some (.if_icmp .ge 28, 3, 84, 0, 0, 0), none, none, some (.aload_n 0, 1, 0, 0, 0, 0),
  some (.getfield 10, 3, 11, 0, 0, 0), none, none, some (.getfield 263, 3, 0, 16, 0, 0), none, none,
  some (.iload 4, 2, 4, 0, 0, 0), none, some (.aload_n 0, 1, 0, 0, 0, 0), some (.getfield 28, 3, 11, 2, 0, 0), none, none,
  some (.iload 4, 2, 4, 0, 0, 0), none, some (.invokevirtual 139, 3, 38, 1, 1, 6), none, none, some (.bastore, 1, 2, 0, 0, 0),
  some (.iinc 4 1, 3, 4, 0, 0, 1), none, none, some (.goto (-30), 3, 51, 0, 0, 0), none, none,
  some (.aload_n 0, 1, 0, 0, 0, 0), some (.getfield 10, 3, 11, 0, 0, 0), none, none, some (.iconst 1, 1, 0, 0, 0, 1), some (.putfield 266, 3, 0, 17, 0, 0),
  none, none, some (.iload_n 3, 1, 3, 0, 0, 0), some (.ifCond .ne 13, 3, 106, 0, 0, 0), none, none,
  some (.aload_n 0, 1, 0, 0, 0, 0), some (.getfield 28, 3, 11, 2, 0, 0), none, none, some (.getfield 144, 3, 6, 3, 0, 0), none,
  none, some (.goto 10, 3, 113, 0, 0, 0), none, none, some (.aload_n 0, 1, 0, 0, 0, 0), some (.getfield 37, 3, 11, 3, 0, 0),
  none, none, some (.getfield 270, 3, 9, 2, 0, 0), none, none, some (.ireturn, 1, 0, 0, 0, 0)
  ])
def mi_X11_found : am_MI := (yX11_found, cX11_found, 2, (some FieldType.int), [
  some (.iload_n 1, 1, 1, 0, 0, 0), some (.invokestatic 120, 3, 111, 1, 0, 0), none, none, some (.ifCond .ne 6, 3, 10, 0, 0, 0), none,
  none, some (.bipush (-2), 2, 0, 0, 0, -2), none, some (.ireturn, 1, 0, 0, 0, 0), some (.aload_n 0, 1, 0, 0, 0, 0), some (.getfield 10, 3, 11, 0, 0, 0),
  none, none, some (.getfield 266, 3, 0, 17, 0, 0), none, none, some (.ifCond .ne 6, 3, 23, 0, 0, 0),
  none, none, some (.bipush (-3), 2, 0, 0, 0, -3), none, some (.ireturn, 1, 0, 0, 0, 0), some (.aload_n 0, 1, 0, 0, 0, 0),
  some (.getfield 10, 3, 11, 0, 0, 0), none, none, some (.getfield 263, 3, 0, 16, 0, 0), none, none,
  some (.iload_n 1, 1, 1, 0, 0, 0), some (.baload, 1, 2, 0, 0, 0), some (.ifCond .eq 7, 3, 39, 0, 0, 0), none, none, some (.iconst 1, 1, 0, 0, 0, 1),
  some (.goto 4, 3, 40, 0, 0, 0), none, none, some (.iconst 0, 1, 0, 0, 0, 0), some (.ireturn, 1, 0, 0, 0, 0)
  ])
def mi_X11_image : am_MI := (yX11_image, cX11_image, 1, (some FieldType.int), [
  some (.aload_n 0, 1, 0, 0, 0, 0), some (.getfield 67, 3, 11, 6, 0, 0), none, none, some (.ifnonnull 14, 3, 18, 0, 0, 0), none,
  none, some (.aload_n 0, 1, 0, 0, 0, 0), some (.new 7, 3, 0, 0, 0, 0), none, none, some (.dup, 1, 0, 0, 0, 0),
  some (.invokespecial 9, 3, 0, 0, 1, 0), none, none, some (.putfield 67, 3, 11, 6, 0, 0), none, none,
  some (.aload_n 0, 1, 0, 0, 0, 0), some (.getfield 67, 3, 11, 6, 0, 0), none, none, some (.aload_n 0, 1, 0, 0, 0, 0), some (.getfield 10, 3, 11, 0, 0, 0),
  none, none, some (.invokevirtual 273, 3, 1, 1, 1, 0), none, none, some (.aload_n 0, 1, 0, 0, 0, 0),
  some (.getfield 10, 3, 11, 0, 0, 0), none, none, some (.getfield 70, 3, 0, 0, 0, 0), none, none,
  some (.iconst 0, 1, 0, 0, 0, 0), some (.iaload, 1, 0, 0, 0, 0), some (.ireturn, 1, 0, 0, 0, 0)
  ])
def mi_X11_undo : am_MI := (yX11_undo, cX11_undo, 1, (some FieldType.int), [
  some (.aload_n 0, 1, 0, 0, 0, 0), some (.getfield 67, 3, 11, 6, 0, 0), none, none, some (.ifnonnull 6, 3, 10, 0, 0, 0), none,
  none, some (.bipush (-3), 2, 0, 0, 0, -3), none, some (.ireturn, 1, 0, 0, 0, 0), some (.aload_n 0, 1, 0, 0, 0, 0), some (.getfield 10, 3, 11, 0, 0, 0),
  none, none, some (.aload_n 0, 1, 0, 0, 0, 0), some (.getfield 67, 3, 11, 6, 0, 0), none, none,
  some (.invokevirtual 273, 3, 1, 1, 1, 0), none, none, some (.aload_n 0, 1, 0, 0, 0, 0), some (.getfield 10, 3, 11, 0, 0, 0), none,
  none, some (.getfield 70, 3, 0, 0, 0, 0), none, none, some (.iconst 0, 1, 0, 0, 0, 0), some (.iaload, 1, 0, 0, 0, 0),
  some (.ireturn, 1, 0, 0, 0, 0)
  ])
def mi_X11_count : am_MI := (yX11_count, cX11_count, 2, (some FieldType.int), [
  some (.iload_n 1, 1, 1, 0, 0, 0), some (.ifCond .lt 9, 3, 10, 0, 0, 0), none, none, some (.iload_n 1, 1, 1, 0, 0, 0), some (.bipush 8, 2, 0, 0, 0, 8),
  none, some (.if_icmp .lt 7, 3, 14, 0, 0, 0), none, none, some (.iconst (-1), 1, 0, 0, 0, -1), some (.goto 12, 3, 23, 0, 0, 0),
  none, none, some (.aload_n 0, 1, 0, 0, 0, 0), some (.getfield 10, 3, 11, 0, 0, 0), none, none,
  some (.getfield 70, 3, 0, 0, 0, 0), none, none, some (.iload_n 1, 1, 1, 0, 0, 0), some (.iaload, 1, 0, 0, 0, 0), some (.ireturn, 1, 0, 0, 0, 0)
  ])
def mi_X11_isDay : am_MI := (yX11_isDay, cX11_isDay, 1, (some FieldType.boolean), [
  some (.iload_n 0, 1, 0, 0, 0, 0), some (.ifCond .lt 14, 3, 15, 0, 0, 0), none, none, some (.iload_n 0, 1, 0, 0, 0, 0), some (.sipush 1000, 3, 0, 0, 0, 1000),
  none, none, some (.if_icmp .ge 7, 3, 15, 0, 0, 0), none, none, some (.iconst 1, 1, 0, 0, 0, 1),
  some (.goto 4, 3, 16, 0, 0, 0), none, none, some (.iconst 0, 1, 0, 0, 0, 0), some (.ireturn, 1, 0, 0, 0, 0)
  ])
def mi_X11_isFact : am_MI := (yX11_isFact, cX11_isFact, 1, (some FieldType.boolean), [
  some (.iload_n 0, 1, 0, 0, 0, 0), some (.ifCond .lt 14, 3, 15, 0, 0, 0), none, none, some (.iload_n 0, 1, 0, 0, 0, 0), some (.sipush 750, 3, 0, 0, 0, 750),
  none, none, some (.if_icmp .ge 7, 3, 15, 0, 0, 0), none, none, some (.iconst 1, 1, 0, 0, 0, 1),
  some (.goto 4, 3, 16, 0, 0, 0), none, none, some (.iconst 0, 1, 0, 0, 0, 0), some (.ireturn, 1, 0, 0, 0, 0)
  ])
def mi_X11_isPerson : am_MI := (yX11_isPerson, cX11_isPerson, 1, (some FieldType.boolean), [
  some (.iload_n 0, 1, 0, 0, 0, 0), some (.ifCond .lt 12, 3, 13, 0, 0, 0), none, none, some (.iload_n 0, 1, 0, 0, 0, 0), some (.iconst 5, 1, 0, 0, 0, 5),
  some (.if_icmp .ge 7, 3, 13, 0, 0, 0), none, none, some (.iconst 1, 1, 0, 0, 0, 1), some (.goto 4, 3, 14, 0, 0, 0), none,
  none, some (.iconst 0, 1, 0, 0, 0, 0), some (.ireturn, 1, 0, 0, 0, 0)
  ])
def mi_X11_isKind : am_MI := (yX11_isKind, cX11_isKind, 1, (some FieldType.boolean), [
  some (.iload_n 0, 1, 0, 0, 0, 0), some (.ifCond .lt 12, 3, 13, 0, 0, 0), none, none, some (.iload_n 0, 1, 0, 0, 0, 0), some (.iconst 5, 1, 0, 0, 0, 5),
  some (.if_icmp .ge 7, 3, 13, 0, 0, 0), none, none, some (.iconst 1, 1, 0, 0, 0, 1), some (.goto 4, 3, 14, 0, 0, 0), none,
  none, some (.iconst 0, 1, 0, 0, 0, 0), some (.ireturn, 1, 0, 0, 0, 0)
  ])
def mi_X11_readTape : am_MI := (yX11_readTape, cX11_readTape, 3, (some FieldType.int), [
  some (.aload_n 0, 1, 0, 0, 0, 0), some (.getfield 44, 3, 11, 4, 0, 0), none, none, some (.aload_n 0, 1, 0, 0, 0, 0), some (.getfield 10, 3, 11, 0, 0, 0),
  none, none, some (.getfield 74, 3, 0, 1, 0, 0), none, none, some (.aload_n 0, 1, 0, 0, 0, 0),
  some (.getfield 10, 3, 11, 0, 0, 0), none, none, some (.getfield 70, 3, 0, 0, 0, 0), none, none,
  some (.bipush 7, 2, 0, 0, 0, 7), none, some (.iaload, 1, 0, 0, 0, 0), some (.aload_n 1, 1, 1, 0, 0, 0), some (.invokevirtual 276, 3, 51, 3, 1, 7), none,
  none, some (.istore_n 2, 1, 2, 0, 0, 0), some (.aload_n 0, 1, 0, 0, 0, 0), some (.getfield 10, 3, 11, 0, 0, 0), none, none,
  some (.getfield 70, 3, 0, 0, 0, 0), none, none, some (.bipush 7, 2, 0, 0, 0, 7), none, some (.iconst 0, 1, 0, 0, 0, 0),
  some (.iastore, 1, 0, 0, 0, 0), some (.iload_n 2, 1, 2, 0, 0, 0), some (.ireturn, 1, 0, 0, 0, 0)
  ])
def mi_X11_followsToday : am_MI := (yX11_followsToday, cX11_followsToday, 3, (some FieldType.boolean), [
  some (.aload_n 0, 1, 0, 0, 0, 0), some (.getfield 28, 3, 11, 2, 0, 0), none, none, some (.aload_n 0, 1, 0, 0, 0, 0), some (.getfield 10, 3, 11, 0, 0, 0),
  none, none, some (.getfield 70, 3, 0, 0, 0, 0), none, none, some (.iconst 0, 1, 0, 0, 0, 0),
  some (.iaload, 1, 0, 0, 0, 0), some (.iload_n 2, 1, 2, 0, 0, 0), some (.iconst 0, 1, 0, 0, 0, 0), some (.invokevirtual 135, 3, 40, 3, 1, 6), none, none,
  some (.aload_n 0, 1, 0, 0, 0, 0), some (.getfield 28, 3, 11, 2, 0, 0), none, none, some (.iload_n 1, 1, 1, 0, 0, 0), some (.invokevirtual 139, 3, 38, 1, 1, 6),
  none, none, some (.ireturn, 1, 0, 0, 0, 0)
  ])
def mi_X11_standsByProof : am_MI := (yX11_standsByProof, cX11_standsByProof, 4, (some FieldType.boolean), [
  some (.aload_n 0, 1, 0, 0, 0, 0), some (.getfield 10, 3, 11, 0, 0, 0), none, none, some (.getfield 217, 3, 0, 11, 0, 0), none,
  none, some (.iload_n 1, 1, 1, 0, 0, 0), some (.iaload, 1, 0, 0, 0, 0), some (.istore_n 3, 1, 3, 0, 0, 0), some (.aload_n 0, 1, 0, 0, 0, 0), some (.getfield 21, 3, 11, 1, 0, 0),
  none, none, some (.iload_n 3, 1, 3, 0, 0, 0), some (.aload_n 0, 1, 0, 0, 0, 0), some (.getfield 10, 3, 11, 0, 0, 0), none,
  none, some (.getfield 223, 3, 0, 13, 0, 0), none, none, some (.iload_n 1, 1, 1, 0, 0, 0), some (.iaload, 1, 0, 0, 0, 0),
  some (.iload_n 2, 1, 2, 0, 0, 0), some (.invokevirtual 171, 3, 20, 3, 1, 2), none, none, some (.aload_n 0, 1, 0, 0, 0, 0), some (.getfield 21, 3, 11, 1, 0, 0),
  none, none, some (.getfield 182, 3, 2, 3, 0, 0), none, none, some (.iload_n 3, 1, 3, 0, 0, 0),
  some (.baload, 1, 2, 0, 0, 0), some (.ireturn, 1, 0, 0, 0, 0)
  ])
def mi_X11_standingToday : am_MI := (yX11_standingToday, cX11_standingToday, 4, (some FieldType.int), [
  some (.aload_n 0, 1, 0, 0, 0, 0), some (.getfield 28, 3, 11, 2, 0, 0), none, none, some (.aload_n 0, 1, 0, 0, 0, 0), some (.getfield 10, 3, 11, 0, 0, 0),
  none, none, some (.getfield 70, 3, 0, 0, 0, 0), none, none, some (.iconst 0, 1, 0, 0, 0, 0),
  some (.iaload, 1, 0, 0, 0, 0), some (.iload_n 1, 1, 1, 0, 0, 0), some (.iconst 0, 1, 0, 0, 0, 0), some (.invokevirtual 135, 3, 40, 3, 1, 6), none, none,
  some (.iconst 0, 1, 0, 0, 0, 0), some (.istore_n 2, 1, 2, 0, 0, 0), some (.iconst 0, 1, 0, 0, 0, 0), some (.istore_n 3, 1, 3, 0, 0, 0), some (.iload_n 3, 1, 3, 0, 0, 0), some (.aload_n 0, 1, 0, 0, 0, 0),
  some (.getfield 10, 3, 11, 0, 0, 0), none, none, some (.getfield 70, 3, 0, 0, 0, 0), none, none,
  some (.iconst 5, 1, 0, 0, 0, 5), some (.iaload, 1, 0, 0, 0, 0), some (.if_icmp .ge 43, 3, 75, 0, 0, 0), none, none, some (.aload_n 0, 1, 0, 0, 0, 0),
  some (.getfield 28, 3, 11, 2, 0, 0), none, none, some (.aload_n 0, 1, 0, 0, 0, 0), some (.getfield 10, 3, 11, 0, 0, 0), none,
  none, some (.getfield 220, 3, 0, 12, 0, 0), none, none, some (.iload_n 3, 1, 3, 0, 0, 0), some (.iaload, 1, 0, 0, 0, 0),
  some (.invokevirtual 139, 3, 38, 1, 1, 6), none, none, some (.ifCond .ne 12, 3, 63, 0, 0, 0), none, none,
  some (.aload_n 0, 1, 0, 0, 0, 0), some (.iload_n 3, 1, 3, 0, 0, 0), some (.iload_n 1, 1, 1, 0, 0, 0), some (.invokevirtual 226, 3, 116, 2, 0, 11), none, none,
  some (.ifCond .eq 9, 3, 69, 0, 0, 0), none, none, some (.iload_n 2, 1, 2, 0, 0, 0), some (.iconst 1, 1, 0, 0, 0, 1), some (.iload_n 3, 1, 3, 0, 0, 0),
  some (.ishl, 1, 0, 0, 0, 0), some (.ior, 1, 0, 0, 0, 0), some (.istore_n 2, 1, 2, 0, 0, 0), some (.iinc 3 1, 3, 3, 0, 0, 1), none, none,
  some (.goto (-50), 3, 22, 0, 0, 0), none, none, some (.iload_n 2, 1, 2, 0, 0, 0), some (.ireturn, 1, 0, 0, 0, 0)
  ])
def mi_X11_fewest : am_MI := (yX11_fewest, cX11_fewest, 7, (some FieldType.int), [
  some (.aload_n 0, 1, 0, 0, 0, 0), some (.iload_n 1, 1, 1, 0, 0, 0), some (.iload_n 2, 1, 2, 0, 0, 0), some (.iload_n 3, 1, 3, 0, 0, 0), some (.ior, 1, 0, 0, 0, 0), some (.invokevirtual 232, 3, 115, 2, 0, 11),
  none, none, some (.ifCond .ne 6, 3, 14, 0, 0, 0), none, none, some (.bipush (-5), 2, 0, 0, 0, -5),
  none, some (.ireturn, 1, 0, 0, 0, 0), some (.iload_n 2, 1, 2, 0, 0, 0), some (.istore 4, 2, 4, 0, 0, 0), none, some (.bipush 64, 2, 0, 0, 0, 64),
  none, some (.istore 5, 2, 5, 0, 0, 0), none, some (.iconst 0, 1, 0, 0, 0, 0), some (.istore 6, 2, 6, 0, 0, 0), none,
  some (.iload 6, 2, 6, 0, 0, 0), none, some (.iload_n 2, 1, 2, 0, 0, 0), some (.if_icmp .eq 51, 3, 78, 0, 0, 0), none, none,
  some (.iload 5, 2, 5, 0, 0, 0), none, some (.ifCond .le 46, 3, 78, 0, 0, 0), none, none, some (.iinc 5 (-1), 3, 5, 0, 0, -1),
  none, none, some (.iload 6, 2, 6, 0, 0, 0), none, some (.invokestatic 235, 3, 210, 1, 0, 0), none,
  none, some (.iload 4, 2, 4, 0, 0, 0), none, some (.invokestatic 235, 3, 210, 1, 0, 0), none, none,
  some (.if_icmp .ge 19, 3, 67, 0, 0, 0), none, none, some (.aload_n 0, 1, 0, 0, 0, 0), some (.iload_n 1, 1, 1, 0, 0, 0), some (.iload 6, 2, 6, 0, 0, 0),
  none, some (.iload_n 3, 1, 3, 0, 0, 0), some (.ior, 1, 0, 0, 0, 0), some (.invokevirtual 232, 3, 115, 2, 0, 11), none, none,
  some (.ifCond .eq 7, 3, 67, 0, 0, 0), none, none, some (.iload 6, 2, 6, 0, 0, 0), none, some (.istore 4, 2, 4, 0, 0, 0),
  none, some (.iload 6, 2, 6, 0, 0, 0), none, some (.iload_n 2, 1, 2, 0, 0, 0), some (.isub, 1, 0, 0, 0, 0), some (.iload_n 2, 1, 2, 0, 0, 0),
  some (.iand, 1, 0, 0, 0, 0), some (.istore 6, 2, 6, 0, 0, 0), none, some (.goto (-51), 3, 24, 0, 0, 0), none, none,
  some (.iload 4, 2, 4, 0, 0, 0), none, some (.ireturn, 1, 0, 0, 0, 0)
  ])
def mi_X12_init : am_MI := (yX12_init, cX12_init, 1, none, [
  some (.aload_n 0, 1, 0, 0, 0, 0), some (.invokespecial 1, 3, 0, 0, 2, 0), none, none, some (.aload_n 0, 1, 0, 0, 0, 0), some (.sipush 3228, 3, 0, 0, 0, 3228),
  none, none, some (.newarray .int, 2, 0, 0, 0, 0), none, some (.putfield 7, 3, 12, 0, 0, 0), none,
  none, some (.aload_n 0, 1, 0, 0, 0, 0), some (.sipush 3228, 3, 0, 0, 0, 3228), none, none, some (.newarray .int, 2, 0, 0, 0, 0),
  none, some (.putfield 13, 3, 12, 1, 0, 0), none, none, some (.aload_n 0, 1, 0, 0, 0, 0), some (.sipush 750, 3, 0, 0, 0, 750),
  none, none, some (.newarray .int, 2, 0, 0, 0, 0), none, some (.putfield 16, 3, 12, 5, 0, 0), none,
  none, some (.aload_n 0, 1, 0, 0, 0, 0), some (.sipush 750, 3, 0, 0, 0, 750), none, none, some (.newarray .int, 2, 0, 0, 0, 0),
  none, some (.putfield 19, 3, 12, 6, 0, 0), none, none, some (.aload_n 0, 1, 0, 0, 0, 0), some (.iconst 4, 1, 0, 0, 0, 4),
  some (.newarray .int, 2, 0, 0, 0, 0), none, some (.putfield 22, 3, 12, 7, 0, 0), none, none, some (.aload_n 0, 1, 0, 0, 0, 0),
  some (.bipush 20, 2, 0, 0, 0, 20), none, some (.newarray .int, 2, 0, 0, 0, 0), none, some (.putfield 25, 3, 12, 8, 0, 0), none,
  none, some (.aload_n 0, 1, 0, 0, 0, 0), some (.bipush 6, 2, 0, 0, 0, 6), none, some (.newarray .int, 2, 0, 0, 0, 0), none,
  some (.putfield 28, 3, 12, 9, 0, 0), none, none, some (.aload_n 0, 1, 0, 0, 0, 0), some (.sipush 750, 3, 0, 0, 0, 750), none,
  none, some (.newarray .int, 2, 0, 0, 0, 0), none, some (.putfield 31, 3, 12, 14, 0, 0), none, none,
  some (.return_, 1, 0, 0, 0, 0)
  ])
def mi_X12_in : am_MI := (yX12_in, cX12_in, 3, (some FieldType.boolean), [
  some (.iload_n 0, 1, 0, 0, 0, 0), some (.iload_n 1, 1, 1, 0, 0, 0), some (.if_icmp .lt 12, 3, 14, 0, 0, 0), none, none, some (.iload_n 0, 1, 0, 0, 0, 0),
  some (.iload_n 2, 1, 2, 0, 0, 0), some (.if_icmp .gt 7, 3, 14, 0, 0, 0), none, none, some (.iconst 1, 1, 0, 0, 0, 1), some (.goto 4, 3, 15, 0, 0, 0),
  none, none, some (.iconst 0, 1, 0, 0, 0, 0), some (.ireturn, 1, 0, 0, 0, 0)
  ])
def mi_X12_isDay : am_MI := (yX12_isDay, cX12_isDay, 1, (some FieldType.boolean), [
  some (.iload_n 0, 1, 0, 0, 0, 0), some (.iconst 0, 1, 0, 0, 0, 0), some (.sipush 999, 3, 0, 0, 0, 999), none, none, some (.invokestatic 34, 3, 120, 3, 0, 0),
  none, none, some (.ireturn, 1, 0, 0, 0, 0)
  ])
def mi_X12_isFact : am_MI := (yX12_isFact, cX12_isFact, 1, (some FieldType.boolean), [
  some (.iload_n 0, 1, 0, 0, 0, 0), some (.iconst 0, 1, 0, 0, 0, 0), some (.sipush 749, 3, 0, 0, 0, 749), none, none, some (.invokestatic 34, 3, 120, 3, 0, 0),
  none, none, some (.ireturn, 1, 0, 0, 0, 0)
  ])
def mi_X12_day : am_MI := (yX12_day, cX12_day, 2, (some FieldType.int), [
  some (.iload_n 1, 1, 1, 0, 0, 0), some (.iconst 1, 1, 0, 0, 0, 1), some (.bipush 99, 2, 0, 0, 0, 99), none, some (.invokestatic 34, 3, 120, 3, 0, 0), none,
  none, some (.ifCond .eq 17, 3, 24, 0, 0, 0), none, none, some (.aload_n 0, 1, 0, 0, 0, 0), some (.getfield 7, 3, 12, 0, 0, 0),
  none, none, some (.iconst 0, 1, 0, 0, 0, 0), some (.iaload, 1, 0, 0, 0, 0), some (.iload_n 1, 1, 1, 0, 0, 0), some (.iadd, 1, 0, 0, 0, 0),
  some (.sipush 999, 3, 0, 0, 0, 999), none, none, some (.if_icmp .le 6, 3, 27, 0, 0, 0), none, none,
  some (.bipush (-2), 2, 0, 0, 0, -2), none, some (.ireturn, 1, 0, 0, 0, 0), some (.aload_n 0, 1, 0, 0, 0, 0), some (.getfield 7, 3, 12, 0, 0, 0), none,
  none, some (.iconst 0, 1, 0, 0, 0, 0), some (.dup2, 1, 0, 0, 0, 0), some (.iaload, 1, 0, 0, 0, 0), some (.iload_n 1, 1, 1, 0, 0, 0), some (.iadd, 1, 0, 0, 0, 0),
  some (.iastore, 1, 0, 0, 0, 0), some (.aload_n 0, 1, 0, 0, 0, 0), some (.getfield 7, 3, 12, 0, 0, 0), none, none, some (.iconst 0, 1, 0, 0, 0, 0),
  some (.iaload, 1, 0, 0, 0, 0), some (.ireturn, 1, 0, 0, 0, 0)
  ])
def mi_X12_feed : am_MI := (yX12_feed, cX12_feed, 5, (some FieldType.int), [
  some (.iload_n 3, 1, 3, 0, 0, 0), some (.iconst 1, 1, 0, 0, 0, 1), some (.bipush 8, 2, 0, 0, 0, 8), none, some (.invokestatic 34, 3, 120, 3, 0, 0), none,
  none, some (.ifCond .ne 6, 3, 13, 0, 0, 0), none, none, some (.bipush (-2), 2, 0, 0, 0, -2), none,
  some (.ireturn, 1, 0, 0, 0, 0), some (.aload_n 0, 1, 0, 0, 0, 0), some (.getfield 7, 3, 12, 0, 0, 0), none, none, some (.bipush 8, 2, 0, 0, 0, 8),
  none, some (.iaload, 1, 0, 0, 0, 0), some (.iload_n 3, 1, 3, 0, 0, 0), some (.iadd, 1, 0, 0, 0, 0), some (.bipush 120, 2, 0, 0, 0, 120), none,
  some (.if_icmp .le 6, 3, 30, 0, 0, 0), none, none, some (.bipush (-4), 2, 0, 0, 0, -4), none, some (.ireturn, 1, 0, 0, 0, 0),
  some (.iload_n 3, 1, 3, 0, 0, 0), some (.iconst 1, 1, 0, 0, 0, 1), some (.isub, 1, 0, 0, 0, 0), some (.istore 4, 2, 4, 0, 0, 0), none, some (.iload 4, 2, 4, 0, 0, 0),
  none, some (.ifCond .lt 48, 3, 85, 0, 0, 0), none, none, some (.aload_n 0, 1, 0, 0, 0, 0), some (.getfield 7, 3, 12, 0, 0, 0),
  none, none, some (.sipush 2358, 3, 0, 0, 0, 2358), none, none, some (.aload_n 0, 1, 0, 0, 0, 0),
  some (.getfield 7, 3, 12, 0, 0, 0), none, none, some (.bipush 8, 2, 0, 0, 0, 8), none, some (.iaload, 1, 0, 0, 0, 0),
  some (.iadd, 1, 0, 0, 0, 0), some (.lload_n 1, 1, 1, 0, 0, 0), some (.bipush 8, 2, 0, 0, 0, 8), none, some (.iload 4, 2, 4, 0, 0, 0), none,
  some (.imul, 1, 0, 0, 0, 0), some (.lshr, 1, 0, 0, 0, 0), some (.ldc2_w 38, 3, 0, 0, 0, 255), none, none, some (.land, 1, 0, 0, 0, 0),
  some (.l2i, 1, 0, 0, 0, 0), some (.iastore, 1, 0, 0, 0, 0), some (.aload_n 0, 1, 0, 0, 0, 0), some (.getfield 7, 3, 12, 0, 0, 0), none, none,
  some (.bipush 8, 2, 0, 0, 0, 8), none, some (.dup2, 1, 0, 0, 0, 0), some (.iaload, 1, 0, 0, 0, 0), some (.iconst 1, 1, 0, 0, 0, 1), some (.iadd, 1, 0, 0, 0, 0),
  some (.iastore, 1, 0, 0, 0, 0), some (.iinc 4 (-1), 3, 4, 0, 0, -1), none, none, some (.goto (-47), 3, 35, 0, 0, 0), none,
  none, some (.aload_n 0, 1, 0, 0, 0, 0), some (.getfield 7, 3, 12, 0, 0, 0), none, none, some (.bipush 8, 2, 0, 0, 0, 8),
  none, some (.iaload, 1, 0, 0, 0, 0), some (.ireturn, 1, 0, 0, 0, 0)
  ])
def mi_X12_here : am_MI := (yX12_here, cX12_here, 1, (some FieldType.int), [
  some (.aload_n 0, 1, 0, 0, 0, 0), some (.getfield 40, 3, 12, 3, 0, 0), none, none, some (.aload_n 0, 1, 0, 0, 0, 0), some (.getfield 7, 3, 12, 0, 0, 0),
  none, none, some (.bipush 8, 2, 0, 0, 0, 8), none, some (.iaload, 1, 0, 0, 0, 0), some (.if_icmp .ge 19, 3, 30, 0, 0, 0),
  none, none, some (.aload_n 0, 1, 0, 0, 0, 0), some (.getfield 7, 3, 12, 0, 0, 0), none, none,
  some (.sipush 2358, 3, 0, 0, 0, 2358), none, none, some (.aload_n 0, 1, 0, 0, 0, 0), some (.getfield 40, 3, 12, 3, 0, 0), none,
  none, some (.iadd, 1, 0, 0, 0, 0), some (.iaload, 1, 0, 0, 0, 0), some (.goto 4, 3, 31, 0, 0, 0), none, none,
  some (.iconst (-1), 1, 0, 0, 0, -1), some (.ireturn, 1, 0, 0, 0, 0)
  ])
def mi_X12_eats : am_MI := (yX12_eats, cX12_eats, 2, none, [
  some (.aload_n 0, 1, 0, 0, 0, 0), some (.getfield 44, 3, 12, 4, 0, 0), none, none, some (.ifCond .ne 24, 3, 28, 0, 0, 0), none,
  none, some (.aload_n 0, 1, 0, 0, 0, 0), some (.invokevirtual 48, 3, 125, 0, 0, 12), none, none, some (.iload_n 1, 1, 1, 0, 0, 0),
  some (.if_icmp .ne 16, 3, 28, 0, 0, 0), none, none, some (.aload_n 0, 1, 0, 0, 0, 0), some (.dup, 1, 0, 0, 0, 0), some (.getfield 40, 3, 12, 3, 0, 0),
  none, none, some (.iconst 1, 1, 0, 0, 0, 1), some (.iadd, 1, 0, 0, 0, 0), some (.putfield 40, 3, 12, 3, 0, 0), none,
  none, some (.goto 8, 3, 33, 0, 0, 0), none, none, some (.aload_n 0, 1, 0, 0, 0, 0), some (.iconst 1, 1, 0, 0, 0, 1),
  some (.putfield 44, 3, 12, 4, 0, 0), none, none, some (.return_, 1, 0, 0, 0, 0)
  ])
def mi_X12_shapeOf : am_MI := (yX12_shapeOf, cX12_shapeOf, 1, (some FieldType.int), [
  some (.iload_n 0, 1, 0, 0, 0, 0), some (.bipush 111, 2, 0, 0, 0, 111), none, some (.if_icmp .ne 7, 3, 10, 0, 0, 0), none, none,
  some (.iconst 0, 1, 0, 0, 0, 0), some (.goto 54, 3, 61, 0, 0, 0), none, none, some (.iload_n 0, 1, 0, 0, 0, 0), some (.bipush 115, 2, 0, 0, 0, 115),
  none, some (.if_icmp .ne 7, 3, 20, 0, 0, 0), none, none, some (.iconst 1, 1, 0, 0, 0, 1), some (.goto 44, 3, 61, 0, 0, 0),
  none, none, some (.iload_n 0, 1, 0, 0, 0, 0), some (.bipush 104, 2, 0, 0, 0, 104), none, some (.if_icmp .ne 7, 3, 30, 0, 0, 0),
  none, none, some (.iconst 2, 1, 0, 0, 0, 2), some (.goto 34, 3, 61, 0, 0, 0), none, none,
  some (.iload_n 0, 1, 0, 0, 0, 0), some (.bipush 109, 2, 0, 0, 0, 109), none, some (.if_icmp .ne 7, 3, 40, 0, 0, 0), none, none,
  some (.iconst 3, 1, 0, 0, 0, 3), some (.goto 24, 3, 61, 0, 0, 0), none, none, some (.iload_n 0, 1, 0, 0, 0, 0), some (.bipush 108, 2, 0, 0, 0, 108),
  none, some (.if_icmp .ne 7, 3, 50, 0, 0, 0), none, none, some (.iconst 4, 1, 0, 0, 0, 4), some (.goto 14, 3, 61, 0, 0, 0),
  none, none, some (.iload_n 0, 1, 0, 0, 0, 0), some (.bipush 119, 2, 0, 0, 0, 119), none, some (.if_icmp .ne 7, 3, 60, 0, 0, 0),
  none, none, some (.iconst 5, 1, 0, 0, 0, 5), some (.goto 4, 3, 61, 0, 0, 0), none, none,
  some (.iconst (-1), 1, 0, 0, 0, -1), some (.ireturn, 1, 0, 0, 0, 0)
  ])
def mi_X12_argument : am_MI := (yX12_argument, cX12_argument, 2, (some FieldType.int), [
  some (.aload_n 0, 1, 0, 0, 0, 0), some (.invokevirtual 48, 3, 125, 0, 0, 12), none, none, some (.istore_n 1, 1, 1, 0, 0, 0), some (.aload_n 0, 1, 0, 0, 0, 0),
  some (.getfield 44, 3, 12, 4, 0, 0), none, none, some (.ifCond .ne 25, 3, 34, 0, 0, 0), none, none,
  some (.iload_n 1, 1, 1, 0, 0, 0), some (.bipush 97, 2, 0, 0, 0, 97), none, some (.bipush 100, 2, 0, 0, 0, 100), none, some (.invokestatic 34, 3, 120, 3, 0, 0),
  none, none, some (.ifCond .ne 21, 3, 41, 0, 0, 0), none, none, some (.iload_n 1, 1, 1, 0, 0, 0),
  some (.bipush 48, 2, 0, 0, 0, 48), none, some (.bipush 52, 2, 0, 0, 0, 52), none, some (.invokestatic 34, 3, 120, 3, 0, 0), none,
  none, some (.ifCond .ne 10, 3, 41, 0, 0, 0), none, none, some (.aload_n 0, 1, 0, 0, 0, 0), some (.iconst 1, 1, 0, 0, 0, 1),
  some (.putfield 44, 3, 12, 4, 0, 0), none, none, some (.iconst 0, 1, 0, 0, 0, 0), some (.ireturn, 1, 0, 0, 0, 0), some (.aload_n 0, 1, 0, 0, 0, 0),
  some (.dup, 1, 0, 0, 0, 0), some (.getfield 40, 3, 12, 3, 0, 0), none, none, some (.iconst 1, 1, 0, 0, 0, 1), some (.iadd, 1, 0, 0, 0, 0),
  some (.putfield 40, 3, 12, 3, 0, 0), none, none, some (.iload_n 1, 1, 1, 0, 0, 0), some (.bipush 97, 2, 0, 0, 0, 97), none,
  some (.if_icmp .lt 13, 3, 67, 0, 0, 0), none, none, some (.bipush 10, 2, 0, 0, 0, 10), none, some (.iload_n 1, 1, 1, 0, 0, 0),
  some (.iadd, 1, 0, 0, 0, 0), some (.bipush 97, 2, 0, 0, 0, 97), none, some (.isub, 1, 0, 0, 0, 0), some (.goto 7, 3, 71, 0, 0, 0), none,
  none, some (.iload_n 1, 1, 1, 0, 0, 0), some (.bipush 48, 2, 0, 0, 0, 48), none, some (.isub, 1, 0, 0, 0, 0), some (.ireturn, 1, 0, 0, 0, 0)
  ])
def mi_X12_term : am_MI := (yX12_term, cX12_term, 3, none, [
  some (.aload_n 0, 1, 0, 0, 0, 0), some (.invokevirtual 48, 3, 125, 0, 0, 12), none, none, some (.invokestatic 52, 3, 127, 1, 0, 0), none,
  none, some (.istore_n 2, 1, 2, 0, 0, 0), some (.aload_n 0, 1, 0, 0, 0, 0), some (.getfield 44, 3, 12, 4, 0, 0), none, none,
  some (.ifCond .ne 7, 3, 19, 0, 0, 0), none, none, some (.iload_n 2, 1, 2, 0, 0, 0), some (.ifCond .ge 9, 3, 25, 0, 0, 0), none,
  none, some (.aload_n 0, 1, 0, 0, 0, 0), some (.iconst 1, 1, 0, 0, 0, 1), some (.putfield 44, 3, 12, 4, 0, 0), none, none,
  some (.return_, 1, 0, 0, 0, 0), some (.aload_n 0, 1, 0, 0, 0, 0), some (.dup, 1, 0, 0, 0, 0), some (.getfield 40, 3, 12, 3, 0, 0), none, none,
  some (.iconst 1, 1, 0, 0, 0, 1), some (.iadd, 1, 0, 0, 0, 0), some (.putfield 40, 3, 12, 3, 0, 0), none, none, some (.aload_n 0, 1, 0, 0, 0, 0),
  some (.getfield 7, 3, 12, 0, 0, 0), none, none, some (.iload_n 1, 1, 1, 0, 0, 0), some (.iload_n 2, 1, 2, 0, 0, 0), some (.iastore, 1, 0, 0, 0, 0),
  some (.aload_n 0, 1, 0, 0, 0, 0), some (.bipush 40, 2, 0, 0, 0, 40), none, some (.invokevirtual 56, 3, 126, 1, 0, 12), none, none,
  some (.aload_n 0, 1, 0, 0, 0, 0), some (.getfield 7, 3, 12, 0, 0, 0), none, none, some (.iload_n 1, 1, 1, 0, 0, 0), some (.iconst 1, 1, 0, 0, 0, 1),
  some (.iadd, 1, 0, 0, 0, 0), some (.aload_n 0, 1, 0, 0, 0, 0), some (.invokevirtual 60, 3, 128, 0, 0, 12), none, none, some (.iastore, 1, 0, 0, 0, 0),
  some (.aload_n 0, 1, 0, 0, 0, 0), some (.bipush 44, 2, 0, 0, 0, 44), none, some (.invokevirtual 56, 3, 126, 1, 0, 12), none, none,
  some (.aload_n 0, 1, 0, 0, 0, 0), some (.getfield 7, 3, 12, 0, 0, 0), none, none, some (.iload_n 1, 1, 1, 0, 0, 0), some (.iconst 2, 1, 0, 0, 0, 2),
  some (.iadd, 1, 0, 0, 0, 0), some (.aload_n 0, 1, 0, 0, 0, 0), some (.invokevirtual 60, 3, 128, 0, 0, 12), none, none, some (.iastore, 1, 0, 0, 0, 0),
  some (.aload_n 0, 1, 0, 0, 0, 0), some (.bipush 44, 2, 0, 0, 0, 44), none, some (.invokevirtual 56, 3, 126, 1, 0, 12), none, none,
  some (.aload_n 0, 1, 0, 0, 0, 0), some (.getfield 7, 3, 12, 0, 0, 0), none, none, some (.iload_n 1, 1, 1, 0, 0, 0), some (.iconst 3, 1, 0, 0, 0, 3),
  some (.iadd, 1, 0, 0, 0, 0), some (.aload_n 0, 1, 0, 0, 0, 0), some (.invokevirtual 60, 3, 128, 0, 0, 12), none, none, some (.iastore, 1, 0, 0, 0, 0),
  some (.aload_n 0, 1, 0, 0, 0, 0), some (.bipush 41, 2, 0, 0, 0, 41), none, some (.invokevirtual 56, 3, 126, 1, 0, 12), none, none,
  some (.return_, 1, 0, 0, 0, 0)
  ])
def mi_X12_test : am_MI := (yX12_test, cX12_test, 3, none, [
  some (.aload_n 0, 1, 0, 0, 0, 0), some (.getfield 7, 3, 12, 0, 0, 0), none, none, some (.iload_n 1, 1, 1, 0, 0, 0), some (.aload_n 0, 1, 0, 0, 0, 0),
  some (.invokevirtual 60, 3, 128, 0, 0, 12), none, none, some (.iastore, 1, 0, 0, 0, 0), some (.aload_n 0, 1, 0, 0, 0, 0), some (.invokevirtual 48, 3, 125, 0, 0, 12),
  none, none, some (.istore_n 2, 1, 2, 0, 0, 0), some (.aload_n 0, 1, 0, 0, 0, 0), some (.getfield 44, 3, 12, 4, 0, 0), none,
  none, some (.ifCond .ne 21, 3, 40, 0, 0, 0), none, none, some (.iload_n 2, 1, 2, 0, 0, 0), some (.bipush 60, 2, 0, 0, 0, 60),
  none, some (.if_icmp .eq 21, 3, 46, 0, 0, 0), none, none, some (.iload_n 2, 1, 2, 0, 0, 0), some (.bipush 61, 2, 0, 0, 0, 61),
  none, some (.if_icmp .eq 15, 3, 46, 0, 0, 0), none, none, some (.iload_n 2, 1, 2, 0, 0, 0), some (.bipush 35, 2, 0, 0, 0, 35),
  none, some (.if_icmp .eq 9, 3, 46, 0, 0, 0), none, none, some (.aload_n 0, 1, 0, 0, 0, 0), some (.iconst 1, 1, 0, 0, 0, 1),
  some (.putfield 44, 3, 12, 4, 0, 0), none, none, some (.return_, 1, 0, 0, 0, 0), some (.aload_n 0, 1, 0, 0, 0, 0), some (.dup, 1, 0, 0, 0, 0),
  some (.getfield 40, 3, 12, 3, 0, 0), none, none, some (.iconst 1, 1, 0, 0, 0, 1), some (.iadd, 1, 0, 0, 0, 0), some (.putfield 40, 3, 12, 3, 0, 0),
  none, none, some (.aload_n 0, 1, 0, 0, 0, 0), some (.getfield 7, 3, 12, 0, 0, 0), none, none,
  some (.iload_n 1, 1, 1, 0, 0, 0), some (.iconst 1, 1, 0, 0, 0, 1), some (.iadd, 1, 0, 0, 0, 0), some (.iload_n 2, 1, 2, 0, 0, 0), some (.iastore, 1, 0, 0, 0, 0), some (.aload_n 0, 1, 0, 0, 0, 0),
  some (.getfield 7, 3, 12, 0, 0, 0), none, none, some (.iload_n 1, 1, 1, 0, 0, 0), some (.iconst 2, 1, 0, 0, 0, 2), some (.iadd, 1, 0, 0, 0, 0),
  some (.aload_n 0, 1, 0, 0, 0, 0), some (.invokevirtual 60, 3, 128, 0, 0, 12), none, none, some (.iastore, 1, 0, 0, 0, 0), some (.return_, 1, 0, 0, 0, 0)
  ])
def mi_X12_part : am_MI := (yX12_part, cX12_part, 2, none, [
  some (.aload_n 0, 1, 0, 0, 0, 0), some (.invokevirtual 48, 3, 125, 0, 0, 12), none, none, some (.invokestatic 52, 3, 127, 1, 0, 0), none,
  none, some (.ifCond .lt 42, 3, 49, 0, 0, 0), none, none, some (.aload_n 0, 1, 0, 0, 0, 0), some (.getfield 7, 3, 12, 0, 0, 0),
  none, none, some (.iload_n 1, 1, 1, 0, 0, 0), some (.iaload, 1, 0, 0, 0, 0), some (.iconst 3, 1, 0, 0, 0, 3), some (.if_icmp .ge 32, 3, 49, 0, 0, 0),
  none, none, some (.aload_n 0, 1, 0, 0, 0, 0), some (.iload_n 1, 1, 1, 0, 0, 0), some (.iconst 2, 1, 0, 0, 0, 2), some (.iadd, 1, 0, 0, 0, 0),
  some (.iconst 4, 1, 0, 0, 0, 4), some (.aload_n 0, 1, 0, 0, 0, 0), some (.getfield 7, 3, 12, 0, 0, 0), none, none, some (.iload_n 1, 1, 1, 0, 0, 0),
  some (.iaload, 1, 0, 0, 0, 0), some (.imul, 1, 0, 0, 0, 0), some (.iadd, 1, 0, 0, 0, 0), some (.invokevirtual 63, 3, 129, 1, 0, 12), none, none,
  some (.aload_n 0, 1, 0, 0, 0, 0), some (.getfield 7, 3, 12, 0, 0, 0), none, none, some (.iload_n 1, 1, 1, 0, 0, 0), some (.dup2, 1, 0, 0, 0, 0),
  some (.iaload, 1, 0, 0, 0, 0), some (.iconst 1, 1, 0, 0, 0, 1), some (.iadd, 1, 0, 0, 0, 0), some (.iastore, 1, 0, 0, 0, 0), some (.goto 68, 3, 114, 0, 0, 0), none,
  none, some (.aload_n 0, 1, 0, 0, 0, 0), some (.invokevirtual 48, 3, 125, 0, 0, 12), none, none, some (.bipush 97, 2, 0, 0, 0, 97),
  none, some (.bipush 100, 2, 0, 0, 0, 100), none, some (.invokestatic 34, 3, 120, 3, 0, 0), none, none,
  some (.ifCond .eq 49, 3, 109, 0, 0, 0), none, none, some (.aload_n 0, 1, 0, 0, 0, 0), some (.getfield 7, 3, 12, 0, 0, 0), none,
  none, some (.iload_n 1, 1, 1, 0, 0, 0), some (.iconst 1, 1, 0, 0, 0, 1), some (.iadd, 1, 0, 0, 0, 0), some (.iaload, 1, 0, 0, 0, 0), some (.iconst 4, 1, 0, 0, 0, 4),
  some (.if_icmp .ge 37, 3, 109, 0, 0, 0), none, none, some (.aload_n 0, 1, 0, 0, 0, 0), some (.iload_n 1, 1, 1, 0, 0, 0), some (.bipush 14, 2, 0, 0, 0, 14),
  none, some (.iadd, 1, 0, 0, 0, 0), some (.iconst 3, 1, 0, 0, 0, 3), some (.aload_n 0, 1, 0, 0, 0, 0), some (.getfield 7, 3, 12, 0, 0, 0), none,
  none, some (.iload_n 1, 1, 1, 0, 0, 0), some (.iconst 1, 1, 0, 0, 0, 1), some (.iadd, 1, 0, 0, 0, 0), some (.iaload, 1, 0, 0, 0, 0), some (.imul, 1, 0, 0, 0, 0),
  some (.iadd, 1, 0, 0, 0, 0), some (.invokevirtual 66, 3, 130, 1, 0, 12), none, none, some (.aload_n 0, 1, 0, 0, 0, 0), some (.getfield 7, 3, 12, 0, 0, 0),
  none, none, some (.iload_n 1, 1, 1, 0, 0, 0), some (.iconst 1, 1, 0, 0, 0, 1), some (.iadd, 1, 0, 0, 0, 0), some (.dup2, 1, 0, 0, 0, 0),
  some (.iaload, 1, 0, 0, 0, 0), some (.iconst 1, 1, 0, 0, 0, 1), some (.iadd, 1, 0, 0, 0, 0), some (.iastore, 1, 0, 0, 0, 0), some (.goto 8, 3, 114, 0, 0, 0), none,
  none, some (.aload_n 0, 1, 0, 0, 0, 0), some (.iconst 1, 1, 0, 0, 0, 1), some (.putfield 44, 3, 12, 4, 0, 0), none, none,
  some (.return_, 1, 0, 0, 0, 0)
  ])
def mi_X12_lettersIn : am_MI := (yX12_lettersIn, cX12_lettersIn, 5, (some FieldType.int), [
  some (.iconst 0, 1, 0, 0, 0, 0), some (.istore_n 3, 1, 3, 0, 0, 0), some (.iconst 0, 1, 0, 0, 0, 0), some (.istore 4, 2, 4, 0, 0, 0), none, some (.iload 4, 2, 4, 0, 0, 0),
  none, some (.iload_n 2, 1, 2, 0, 0, 0), some (.if_icmp .ge 44, 3, 52, 0, 0, 0), none, none, some (.iload_n 3, 1, 3, 0, 0, 0),
  some (.aload_n 0, 1, 0, 0, 0, 0), some (.getfield 7, 3, 12, 0, 0, 0), none, none, some (.iload_n 1, 1, 1, 0, 0, 0), some (.iload 4, 2, 4, 0, 0, 0),
  none, some (.iadd, 1, 0, 0, 0, 0), some (.iaload, 1, 0, 0, 0, 0), some (.bipush 10, 2, 0, 0, 0, 10), none, some (.if_icmp .lt 20, 3, 43, 0, 0, 0),
  none, none, some (.iconst 1, 1, 0, 0, 0, 1), some (.aload_n 0, 1, 0, 0, 0, 0), some (.getfield 7, 3, 12, 0, 0, 0), none,
  none, some (.iload_n 1, 1, 1, 0, 0, 0), some (.iload 4, 2, 4, 0, 0, 0), none, some (.iadd, 1, 0, 0, 0, 0), some (.iaload, 1, 0, 0, 0, 0),
  some (.bipush 10, 2, 0, 0, 0, 10), none, some (.isub, 1, 0, 0, 0, 0), some (.ishl, 1, 0, 0, 0, 0), some (.goto 4, 3, 44, 0, 0, 0), none,
  none, some (.iconst 0, 1, 0, 0, 0, 0), some (.ior, 1, 0, 0, 0, 0), some (.istore_n 3, 1, 3, 0, 0, 0), some (.iinc 4 1, 3, 4, 0, 0, 1), none,
  none, some (.goto (-44), 3, 5, 0, 0, 0), none, none, some (.iload_n 3, 1, 3, 0, 0, 0), some (.ireturn, 1, 0, 0, 0, 0)
  ])
def mi_X12_termLetters : am_MI := (yX12_termLetters, cX12_termLetters, 4, (some FieldType.int), [
  some (.iconst 0, 1, 0, 0, 0, 0), some (.istore_n 2, 1, 2, 0, 0, 0), some (.iconst 0, 1, 0, 0, 0, 0), some (.istore_n 3, 1, 3, 0, 0, 0), some (.iload_n 3, 1, 3, 0, 0, 0), some (.aload_n 0, 1, 0, 0, 0, 0),
  some (.getfield 7, 3, 12, 0, 0, 0), none, none, some (.iload_n 1, 1, 1, 0, 0, 0), some (.iaload, 1, 0, 0, 0, 0), some (.if_icmp .ge 24, 3, 35, 0, 0, 0),
  none, none, some (.iload_n 2, 1, 2, 0, 0, 0), some (.aload_n 0, 1, 0, 0, 0, 0), some (.iload_n 1, 1, 1, 0, 0, 0), some (.iconst 3, 1, 0, 0, 0, 3),
  some (.iadd, 1, 0, 0, 0, 0), some (.iconst 4, 1, 0, 0, 0, 4), some (.iload_n 3, 1, 3, 0, 0, 0), some (.imul, 1, 0, 0, 0, 0), some (.iadd, 1, 0, 0, 0, 0), some (.iconst 3, 1, 0, 0, 0, 3),
  some (.invokevirtual 69, 3, 132, 2, 0, 12), none, none, some (.ior, 1, 0, 0, 0, 0), some (.istore_n 2, 1, 2, 0, 0, 0), some (.iinc 3 1, 3, 3, 0, 0, 1),
  none, none, some (.goto (-28), 3, 4, 0, 0, 0), none, none, some (.iload_n 2, 1, 2, 0, 0, 0),
  some (.ireturn, 1, 0, 0, 0, 0)
  ])
def mi_X12_reads : am_MI := (yX12_reads, cX12_reads, 4, (some FieldType.int), [
  some (.sipush 1758, 3, 0, 0, 0, 1758), none, none, some (.bipush 30, 2, 0, 0, 0, 30), none, some (.aload_n 0, 1, 0, 0, 0, 0),
  some (.getfield 7, 3, 12, 0, 0, 0), none, none, some (.bipush 7, 2, 0, 0, 0, 7), none, some (.iaload, 1, 0, 0, 0, 0),
  some (.imul, 1, 0, 0, 0, 0), some (.iadd, 1, 0, 0, 0, 0), some (.istore_n 1, 1, 1, 0, 0, 0), some (.aload_n 0, 1, 0, 0, 0, 0), some (.iconst 0, 1, 0, 0, 0, 0), some (.putfield 40, 3, 12, 3, 0, 0),
  none, none, some (.aload_n 0, 1, 0, 0, 0, 0), some (.iconst 0, 1, 0, 0, 0, 0), some (.putfield 44, 3, 12, 4, 0, 0), none,
  none, some (.aload_n 0, 1, 0, 0, 0, 0), some (.getfield 7, 3, 12, 0, 0, 0), none, none, some (.iload_n 1, 1, 1, 0, 0, 0),
  some (.iconst 0, 1, 0, 0, 0, 0), some (.iastore, 1, 0, 0, 0, 0), some (.aload_n 0, 1, 0, 0, 0, 0), some (.getfield 7, 3, 12, 0, 0, 0), none, none,
  some (.iload_n 1, 1, 1, 0, 0, 0), some (.iconst 1, 1, 0, 0, 0, 1), some (.iadd, 1, 0, 0, 0, 0), some (.iconst 0, 1, 0, 0, 0, 0), some (.iastore, 1, 0, 0, 0, 0), some (.aload_n 0, 1, 0, 0, 0, 0),
  some (.iload_n 1, 1, 1, 0, 0, 0), some (.invokevirtual 73, 3, 131, 1, 0, 12), none, none, some (.aload_n 0, 1, 0, 0, 0, 0), some (.getfield 44, 3, 12, 4, 0, 0),
  none, none, some (.ifCond .ne 50, 3, 100, 0, 0, 0), none, none, some (.aload_n 0, 1, 0, 0, 0, 0),
  some (.invokevirtual 48, 3, 125, 0, 0, 12), none, none, some (.bipush 38, 2, 0, 0, 0, 38), none, some (.if_icmp .ne 41, 3, 100, 0, 0, 0),
  none, none, some (.aload_n 0, 1, 0, 0, 0, 0), some (.getfield 7, 3, 12, 0, 0, 0), none, none,
  some (.iload_n 1, 1, 1, 0, 0, 0), some (.iaload, 1, 0, 0, 0, 0), some (.aload_n 0, 1, 0, 0, 0, 0), some (.getfield 7, 3, 12, 0, 0, 0), none, none,
  some (.iload_n 1, 1, 1, 0, 0, 0), some (.iconst 1, 1, 0, 0, 0, 1), some (.iadd, 1, 0, 0, 0, 0), some (.iaload, 1, 0, 0, 0, 0), some (.iadd, 1, 0, 0, 0, 0), some (.bipush 7, 2, 0, 0, 0, 7),
  none, some (.if_icmp .ge 21, 3, 100, 0, 0, 0), none, none, some (.aload_n 0, 1, 0, 0, 0, 0), some (.dup, 1, 0, 0, 0, 0),
  some (.getfield 40, 3, 12, 3, 0, 0), none, none, some (.iconst 1, 1, 0, 0, 0, 1), some (.iadd, 1, 0, 0, 0, 0), some (.putfield 40, 3, 12, 3, 0, 0),
  none, none, some (.aload_n 0, 1, 0, 0, 0, 0), some (.iload_n 1, 1, 1, 0, 0, 0), some (.invokevirtual 73, 3, 131, 1, 0, 12), none,
  none, some (.goto (-51), 3, 46, 0, 0, 0), none, none, some (.aload_n 0, 1, 0, 0, 0, 0), some (.getfield 44, 3, 12, 4, 0, 0),
  none, none, some (.ifCond .ne 17, 3, 121, 0, 0, 0), none, none, some (.aload_n 0, 1, 0, 0, 0, 0),
  some (.getfield 7, 3, 12, 0, 0, 0), none, none, some (.iload_n 1, 1, 1, 0, 0, 0), some (.iaload, 1, 0, 0, 0, 0), some (.ifCond .ne 8, 3, 121, 0, 0, 0),
  none, none, some (.aload_n 0, 1, 0, 0, 0, 0), some (.iconst 1, 1, 0, 0, 0, 1), some (.putfield 44, 3, 12, 4, 0, 0), none,
  none, some (.aload_n 0, 1, 0, 0, 0, 0), some (.bipush 62, 2, 0, 0, 0, 62), none, some (.invokevirtual 56, 3, 126, 1, 0, 12), none,
  none, some (.aload_n 0, 1, 0, 0, 0, 0), some (.getfield 44, 3, 12, 4, 0, 0), none, none, some (.ifCond .ne 11, 3, 142, 0, 0, 0),
  none, none, some (.aload_n 0, 1, 0, 0, 0, 0), some (.iload_n 1, 1, 1, 0, 0, 0), some (.bipush 26, 2, 0, 0, 0, 26), none,
  some (.iadd, 1, 0, 0, 0, 0), some (.invokevirtual 63, 3, 129, 1, 0, 12), none, none, some (.aload_n 0, 1, 0, 0, 0, 0), some (.getfield 44, 3, 12, 4, 0, 0),
  none, none, some (.ifCond .ne 17, 3, 163, 0, 0, 0), none, none, some (.aload_n 0, 1, 0, 0, 0, 0),
  some (.getfield 40, 3, 12, 3, 0, 0), none, none, some (.aload_n 0, 1, 0, 0, 0, 0), some (.getfield 7, 3, 12, 0, 0, 0), none,
  none, some (.bipush 8, 2, 0, 0, 0, 8), none, some (.iaload, 1, 0, 0, 0, 0), some (.if_icmp .eq 8, 3, 168, 0, 0, 0), none,
  none, some (.aload_n 0, 1, 0, 0, 0, 0), some (.getfield 40, 3, 12, 3, 0, 0), none, none, some (.ireturn, 1, 0, 0, 0, 0),
  some (.aload_n 0, 1, 0, 0, 0, 0), some (.iload_n 1, 1, 1, 0, 0, 0), some (.bipush 27, 2, 0, 0, 0, 27), none, some (.iadd, 1, 0, 0, 0, 0), some (.iconst 3, 1, 0, 0, 0, 3),
  some (.invokevirtual 69, 3, 132, 2, 0, 12), none, none, some (.istore_n 2, 1, 2, 0, 0, 0), some (.iconst 0, 1, 0, 0, 0, 0), some (.istore_n 3, 1, 3, 0, 0, 0),
  some (.iload_n 3, 1, 3, 0, 0, 0), some (.aload_n 0, 1, 0, 0, 0, 0), some (.getfield 7, 3, 12, 0, 0, 0), none, none, some (.iload_n 1, 1, 1, 0, 0, 0),
  some (.iconst 1, 1, 0, 0, 0, 1), some (.iadd, 1, 0, 0, 0, 0), some (.iaload, 1, 0, 0, 0, 0), some (.if_icmp .ge 39, 3, 228, 0, 0, 0), none, none,
  some (.iload_n 2, 1, 2, 0, 0, 0), some (.aload_n 0, 1, 0, 0, 0, 0), some (.iload_n 1, 1, 1, 0, 0, 0), some (.bipush 14, 2, 0, 0, 0, 14), none, some (.iadd, 1, 0, 0, 0, 0),
  some (.iconst 3, 1, 0, 0, 0, 3), some (.iload_n 3, 1, 3, 0, 0, 0), some (.imul, 1, 0, 0, 0, 0), some (.iadd, 1, 0, 0, 0, 0), some (.iconst 1, 1, 0, 0, 0, 1), some (.invokevirtual 69, 3, 132, 2, 0, 12),
  none, none, some (.aload_n 0, 1, 0, 0, 0, 0), some (.iload_n 1, 1, 1, 0, 0, 0), some (.bipush 16, 2, 0, 0, 0, 16), none,
  some (.iadd, 1, 0, 0, 0, 0), some (.iconst 3, 1, 0, 0, 0, 3), some (.iload_n 3, 1, 3, 0, 0, 0), some (.imul, 1, 0, 0, 0, 0), some (.iadd, 1, 0, 0, 0, 0), some (.iconst 1, 1, 0, 0, 0, 1),
  some (.invokevirtual 69, 3, 132, 2, 0, 12), none, none, some (.ior, 1, 0, 0, 0, 0), some (.ior, 1, 0, 0, 0, 0), some (.istore_n 2, 1, 2, 0, 0, 0),
  some (.iinc 3 1, 3, 3, 0, 0, 1), none, none, some (.goto (-45), 3, 180, 0, 0, 0), none, none,
  some (.iload_n 2, 1, 2, 0, 0, 0), some (.aload_n 0, 1, 0, 0, 0, 0), some (.iload_n 1, 1, 1, 0, 0, 0), some (.invokevirtual 76, 3, 133, 1, 0, 12), none, none,
  some (.iconst (-1), 1, 0, 0, 0, -1), some (.ixor, 1, 0, 0, 0, 0), some (.iand, 1, 0, 0, 0, 0), some (.ifCond .eq 9, 3, 246, 0, 0, 0), none, none,
  some (.sipush 200, 3, 0, 0, 0, 200), none, none, some (.goto 4, 3, 247, 0, 0, 0), none, none,
  some (.iconst (-1), 1, 0, 0, 0, -1), some (.ireturn, 1, 0, 0, 0, 0)
  ])
def mi_X12_rule : am_MI := (yX12_rule, cX12_rule, 2, (some FieldType.int), [
  some (.aload_n 0, 1, 0, 0, 0, 0), some (.getfield 7, 3, 12, 0, 0, 0), none, none, some (.iconst 1, 1, 0, 0, 0, 1), some (.iaload, 1, 0, 0, 0, 0),
  some (.bipush 8, 2, 0, 0, 0, 8), none, some (.if_icmp .ne 6, 3, 14, 0, 0, 0), none, none, some (.bipush (-4), 2, 0, 0, 0, -4),
  none, some (.ireturn, 1, 0, 0, 0, 0), some (.aload_n 0, 1, 0, 0, 0, 0), some (.invokevirtual 79, 3, 134, 0, 0, 12), none, none,
  some (.istore_n 1, 1, 1, 0, 0, 0), some (.aload_n 0, 1, 0, 0, 0, 0), some (.getfield 7, 3, 12, 0, 0, 0), none, none, some (.bipush 8, 2, 0, 0, 0, 8),
  none, some (.iconst 0, 1, 0, 0, 0, 0), some (.iastore, 1, 0, 0, 0, 0), some (.iload_n 1, 1, 1, 0, 0, 0), some (.iconst (-1), 1, 0, 0, 0, -1), some (.if_icmp .eq 8, 3, 37, 0, 0, 0),
  none, none, some (.bipush (-10), 2, 0, 0, 0, -10), none, some (.iload_n 1, 1, 1, 0, 0, 0), some (.isub, 1, 0, 0, 0, 0),
  some (.ireturn, 1, 0, 0, 0, 0), some (.aload_n 0, 1, 0, 0, 0, 0), some (.getfield 7, 3, 12, 0, 0, 0), none, none, some (.bipush 10, 2, 0, 0, 0, 10),
  none, some (.aload_n 0, 1, 0, 0, 0, 0), some (.getfield 7, 3, 12, 0, 0, 0), none, none, some (.iconst 1, 1, 0, 0, 0, 1),
  some (.iaload, 1, 0, 0, 0, 0), some (.iadd, 1, 0, 0, 0, 0), some (.aload_n 0, 1, 0, 0, 0, 0), some (.getfield 7, 3, 12, 0, 0, 0), none, none,
  some (.bipush 7, 2, 0, 0, 0, 7), none, some (.iaload, 1, 0, 0, 0, 0), some (.iastore, 1, 0, 0, 0, 0), some (.aload_n 0, 1, 0, 0, 0, 0), some (.getfield 7, 3, 12, 0, 0, 0),
  none, none, some (.bipush 7, 2, 0, 0, 0, 7), none, some (.dup2, 1, 0, 0, 0, 0), some (.iaload, 1, 0, 0, 0, 0),
  some (.iconst 1, 1, 0, 0, 0, 1), some (.iadd, 1, 0, 0, 0, 0), some (.iastore, 1, 0, 0, 0, 0), some (.aload_n 0, 1, 0, 0, 0, 0), some (.getfield 7, 3, 12, 0, 0, 0), none,
  none, some (.iconst 1, 1, 0, 0, 0, 1), some (.dup2, 1, 0, 0, 0, 0), some (.iaload, 1, 0, 0, 0, 0), some (.iconst 1, 1, 0, 0, 0, 1), some (.iadd, 1, 0, 0, 0, 0),
  some (.iastore, 1, 0, 0, 0, 0), some (.aload_n 0, 1, 0, 0, 0, 0), some (.getfield 7, 3, 12, 0, 0, 0), none, none, some (.iconst 1, 1, 0, 0, 0, 1),
  some (.iaload, 1, 0, 0, 0, 0), some (.iconst 1, 1, 0, 0, 0, 1), some (.isub, 1, 0, 0, 0, 0), some (.ireturn, 1, 0, 0, 0, 0)
  ])
def mi_X12_isRule : am_MI := (yX12_isRule, cX12_isRule, 2, (some FieldType.boolean), [
  some (.iload_n 1, 1, 1, 0, 0, 0), some (.iconst 0, 1, 0, 0, 0, 0), some (.aload_n 0, 1, 0, 0, 0, 0), some (.getfield 7, 3, 12, 0, 0, 0), none, none,
  some (.iconst 1, 1, 0, 0, 0, 1), some (.iaload, 1, 0, 0, 0, 0), some (.iconst 1, 1, 0, 0, 0, 1), some (.isub, 1, 0, 0, 0, 0), some (.invokestatic 34, 3, 120, 3, 0, 0), none,
  none, some (.ireturn, 1, 0, 0, 0, 0)
  ])
def mi_X12_change : am_MI := (yX12_change, cX12_change, 4, (some FieldType.int), [
  some (.aload_n 0, 1, 0, 0, 0, 0), some (.iload_n 1, 1, 1, 0, 0, 0), some (.invokevirtual 82, 3, 136, 1, 0, 12), none, none, some (.ifCond .ne 5, 3, 10, 0, 0, 0),
  none, none, some (.iconst (-1), 1, 0, 0, 0, -1), some (.ireturn, 1, 0, 0, 0, 0), some (.iload_n 2, 1, 2, 0, 0, 0), some (.aload_n 0, 1, 0, 0, 0, 0),
  some (.getfield 7, 3, 12, 0, 0, 0), none, none, some (.iconst 0, 1, 0, 0, 0, 0), some (.iaload, 1, 0, 0, 0, 0), some (.sipush 999, 3, 0, 0, 0, 999),
  none, none, some (.invokestatic 34, 3, 120, 3, 0, 0), none, none, some (.ifCond .ne 6, 3, 29, 0, 0, 0),
  none, none, some (.bipush (-2), 2, 0, 0, 0, -2), none, some (.ireturn, 1, 0, 0, 0, 0), some (.aload_n 0, 1, 0, 0, 0, 0),
  some (.getfield 7, 3, 12, 0, 0, 0), none, none, some (.iconst 2, 1, 0, 0, 0, 2), some (.iaload, 1, 0, 0, 0, 0), some (.bipush 12, 2, 0, 0, 0, 12),
  none, some (.if_icmp .ne 6, 3, 43, 0, 0, 0), none, none, some (.bipush (-4), 2, 0, 0, 0, -4), none,
  some (.ireturn, 1, 0, 0, 0, 0), some (.aload_n 0, 1, 0, 0, 0, 0), some (.invokevirtual 79, 3, 134, 0, 0, 12), none, none, some (.istore_n 3, 1, 3, 0, 0, 0),
  some (.aload_n 0, 1, 0, 0, 0, 0), some (.getfield 7, 3, 12, 0, 0, 0), none, none, some (.bipush 8, 2, 0, 0, 0, 8), none,
  some (.iconst 0, 1, 0, 0, 0, 0), some (.iastore, 1, 0, 0, 0, 0), some (.iload_n 3, 1, 3, 0, 0, 0), some (.iconst (-1), 1, 0, 0, 0, -1), some (.if_icmp .eq 8, 3, 66, 0, 0, 0), none,
  none, some (.bipush (-10), 2, 0, 0, 0, -10), none, some (.iload_n 3, 1, 3, 0, 0, 0), some (.isub, 1, 0, 0, 0, 0), some (.ireturn, 1, 0, 0, 0, 0),
  some (.aload_n 0, 1, 0, 0, 0, 0), some (.getfield 7, 3, 12, 0, 0, 0), none, none, some (.bipush 18, 2, 0, 0, 0, 18), none,
  some (.aload_n 0, 1, 0, 0, 0, 0), some (.getfield 7, 3, 12, 0, 0, 0), none, none, some (.iconst 2, 1, 0, 0, 0, 2), some (.iaload, 1, 0, 0, 0, 0),
  some (.iadd, 1, 0, 0, 0, 0), some (.iload_n 1, 1, 1, 0, 0, 0), some (.iastore, 1, 0, 0, 0, 0), some (.aload_n 0, 1, 0, 0, 0, 0), some (.getfield 7, 3, 12, 0, 0, 0), none,
  none, some (.bipush 30, 2, 0, 0, 0, 30), none, some (.aload_n 0, 1, 0, 0, 0, 0), some (.getfield 7, 3, 12, 0, 0, 0), none,
  none, some (.iconst 2, 1, 0, 0, 0, 2), some (.iaload, 1, 0, 0, 0, 0), some (.iadd, 1, 0, 0, 0, 0), some (.iload_n 2, 1, 2, 0, 0, 0), some (.iastore, 1, 0, 0, 0, 0),
  some (.aload_n 0, 1, 0, 0, 0, 0), some (.getfield 7, 3, 12, 0, 0, 0), none, none, some (.bipush 42, 2, 0, 0, 0, 42), none,
  some (.aload_n 0, 1, 0, 0, 0, 0), some (.getfield 7, 3, 12, 0, 0, 0), none, none, some (.iconst 2, 1, 0, 0, 0, 2), some (.iaload, 1, 0, 0, 0, 0),
  some (.iadd, 1, 0, 0, 0, 0), some (.aload_n 0, 1, 0, 0, 0, 0), some (.getfield 7, 3, 12, 0, 0, 0), none, none, some (.bipush 7, 2, 0, 0, 0, 7),
  none, some (.iaload, 1, 0, 0, 0, 0), some (.iastore, 1, 0, 0, 0, 0), some (.aload_n 0, 1, 0, 0, 0, 0), some (.getfield 7, 3, 12, 0, 0, 0), none,
  none, some (.bipush 7, 2, 0, 0, 0, 7), none, some (.dup2, 1, 0, 0, 0, 0), some (.iaload, 1, 0, 0, 0, 0), some (.iconst 1, 1, 0, 0, 0, 1),
  some (.iadd, 1, 0, 0, 0, 0), some (.iastore, 1, 0, 0, 0, 0), some (.aload_n 0, 1, 0, 0, 0, 0), some (.getfield 7, 3, 12, 0, 0, 0), none, none,
  some (.iconst 2, 1, 0, 0, 0, 2), some (.dup2, 1, 0, 0, 0, 0), some (.iaload, 1, 0, 0, 0, 0), some (.iconst 1, 1, 0, 0, 0, 1), some (.iadd, 1, 0, 0, 0, 0), some (.iastore, 1, 0, 0, 0, 0),
  some (.aload_n 0, 1, 0, 0, 0, 0), some (.getfield 7, 3, 12, 0, 0, 0), none, none, some (.iconst 2, 1, 0, 0, 0, 2), some (.iaload, 1, 0, 0, 0, 0),
  some (.ireturn, 1, 0, 0, 0, 0)
  ])
def mi_X12_changeOn : am_MI := (yX12_changeOn, cX12_changeOn, 6, (some FieldType.int), [
  some (.bipush (-5), 2, 0, 0, 0, -5), none, some (.istore_n 3, 1, 3, 0, 0, 0), some (.iconst 0, 1, 0, 0, 0, 0), some (.istore 4, 2, 4, 0, 0, 0), none,
  some (.iload 4, 2, 4, 0, 0, 0), none, some (.aload_n 0, 1, 0, 0, 0, 0), some (.getfield 7, 3, 12, 0, 0, 0), none, none,
  some (.iconst 2, 1, 0, 0, 0, 2), some (.iaload, 1, 0, 0, 0, 0), some (.if_icmp .ge 82, 3, 96, 0, 0, 0), none, none, some (.aload_n 0, 1, 0, 0, 0, 0),
  some (.getfield 7, 3, 12, 0, 0, 0), none, none, some (.bipush 18, 2, 0, 0, 0, 18), none, some (.iload 4, 2, 4, 0, 0, 0),
  none, some (.iadd, 1, 0, 0, 0, 0), some (.iaload, 1, 0, 0, 0, 0), some (.iload_n 1, 1, 1, 0, 0, 0), some (.if_icmp .ne 21, 3, 49, 0, 0, 0), none,
  none, some (.aload_n 0, 1, 0, 0, 0, 0), some (.getfield 7, 3, 12, 0, 0, 0), none, none, some (.bipush 30, 2, 0, 0, 0, 30),
  none, some (.iload 4, 2, 4, 0, 0, 0), none, some (.iadd, 1, 0, 0, 0, 0), some (.iaload, 1, 0, 0, 0, 0), some (.iload_n 2, 1, 2, 0, 0, 0),
  some (.if_icmp .gt 7, 3, 49, 0, 0, 0), none, none, some (.iconst 1, 1, 0, 0, 0, 1), some (.goto 4, 3, 50, 0, 0, 0), none,
  none, some (.iconst 0, 1, 0, 0, 0, 0), some (.istore 5, 2, 5, 0, 0, 0), none, some (.iload 5, 2, 5, 0, 0, 0), none,
  some (.ifCond .eq 34, 3, 88, 0, 0, 0), none, none, some (.iload_n 3, 1, 3, 0, 0, 0), some (.ifCond .lt 25, 3, 83, 0, 0, 0), none,
  none, some (.aload_n 0, 1, 0, 0, 0, 0), some (.getfield 7, 3, 12, 0, 0, 0), none, none, some (.bipush 30, 2, 0, 0, 0, 30),
  none, some (.iload 4, 2, 4, 0, 0, 0), none, some (.iadd, 1, 0, 0, 0, 0), some (.iaload, 1, 0, 0, 0, 0), some (.aload_n 0, 1, 0, 0, 0, 0),
  some (.getfield 7, 3, 12, 0, 0, 0), none, none, some (.bipush 30, 2, 0, 0, 0, 30), none, some (.iload_n 3, 1, 3, 0, 0, 0),
  some (.iadd, 1, 0, 0, 0, 0), some (.iaload, 1, 0, 0, 0, 0), some (.if_icmp .lt 8, 3, 88, 0, 0, 0), none, none, some (.iload 4, 2, 4, 0, 0, 0),
  none, some (.goto 4, 3, 89, 0, 0, 0), none, none, some (.iload_n 3, 1, 3, 0, 0, 0), some (.istore_n 3, 1, 3, 0, 0, 0),
  some (.iinc 4 1, 3, 4, 0, 0, 1), none, none, some (.goto (-87), 3, 6, 0, 0, 0), none, none,
  some (.iload_n 3, 1, 3, 0, 0, 0), some (.ireturn, 1, 0, 0, 0, 0)
  ])
def mi_X12_textOn : am_MI := (yX12_textOn, cX12_textOn, 4, (some FieldType.int), [
  some (.aload_n 0, 1, 0, 0, 0, 0), some (.iload_n 1, 1, 1, 0, 0, 0), some (.iload_n 2, 1, 2, 0, 0, 0), some (.invokevirtual 86, 3, 138, 2, 0, 12), none, none,
  some (.istore_n 3, 1, 3, 0, 0, 0), some (.sipush 1758, 3, 0, 0, 0, 1758), none, none, some (.bipush 30, 2, 0, 0, 0, 30), none,
  some (.iload_n 3, 1, 3, 0, 0, 0), some (.ifCond .ge 15, 3, 28, 0, 0, 0), none, none, some (.aload_n 0, 1, 0, 0, 0, 0), some (.getfield 7, 3, 12, 0, 0, 0),
  none, none, some (.bipush 10, 2, 0, 0, 0, 10), none, some (.iload_n 1, 1, 1, 0, 0, 0), some (.iadd, 1, 0, 0, 0, 0),
  some (.iaload, 1, 0, 0, 0, 0), some (.goto 12, 3, 37, 0, 0, 0), none, none, some (.aload_n 0, 1, 0, 0, 0, 0), some (.getfield 7, 3, 12, 0, 0, 0),
  none, none, some (.bipush 42, 2, 0, 0, 0, 42), none, some (.iload_n 3, 1, 3, 0, 0, 0), some (.iadd, 1, 0, 0, 0, 0),
  some (.iaload, 1, 0, 0, 0, 0), some (.imul, 1, 0, 0, 0, 0), some (.iadd, 1, 0, 0, 0, 0), some (.ireturn, 1, 0, 0, 0, 0)
  ])
def mi_X12_told : am_MI := (yX12_told, cX12_told, 4, (some FieldType.int), [
  some (.aload_n 0, 1, 0, 0, 0, 0), some (.iload_n 1, 1, 1, 0, 0, 0), some (.invokevirtual 82, 3, 136, 1, 0, 12), none, none, some (.ifCond .eq 12, 3, 17, 0, 0, 0),
  none, none, some (.iload_n 3, 1, 3, 0, 0, 0), some (.iconst 0, 1, 0, 0, 0, 0), some (.iconst 2, 1, 0, 0, 0, 2), some (.invokestatic 34, 3, 120, 3, 0, 0),
  none, none, some (.ifCond .ne 5, 3, 19, 0, 0, 0), none, none, some (.iconst (-1), 1, 0, 0, 0, -1),
  some (.ireturn, 1, 0, 0, 0, 0), some (.iload_n 2, 1, 2, 0, 0, 0), some (.invokestatic 89, 3, 121, 1, 0, 0), none, none, some (.ifCond .ne 6, 3, 29, 0, 0, 0),
  none, none, some (.bipush (-2), 2, 0, 0, 0, -2), none, some (.ireturn, 1, 0, 0, 0, 0), some (.iload_n 3, 1, 3, 0, 0, 0),
  some (.iconst 2, 1, 0, 0, 0, 2), some (.if_icmp .ne 12, 3, 43, 0, 0, 0), none, none, some (.aload_n 0, 1, 0, 0, 0, 0), some (.iload_n 1, 1, 1, 0, 0, 0),
  some (.iload_n 2, 1, 2, 0, 0, 0), some (.invokevirtual 86, 3, 138, 2, 0, 12), none, none, some (.goto 16, 3, 56, 0, 0, 0), none,
  none, some (.aload_n 0, 1, 0, 0, 0, 0), some (.getfield 7, 3, 12, 0, 0, 0), none, none, some (.aload_n 0, 1, 0, 0, 0, 0),
  some (.iload_n 1, 1, 1, 0, 0, 0), some (.iload_n 2, 1, 2, 0, 0, 0), some (.invokevirtual 92, 3, 139, 2, 0, 12), none, none, some (.iload_n 3, 1, 3, 0, 0, 0),
  some (.iadd, 1, 0, 0, 0, 0), some (.iaload, 1, 0, 0, 0, 0), some (.ireturn, 1, 0, 0, 0, 0)
  ])
def mi_X12_paper : am_MI := (yX12_paper, cX12_paper, 3, (some FieldType.int), [
  some (.iload_n 2, 1, 2, 0, 0, 0), some (.iconst 0, 1, 0, 0, 0, 0), some (.iconst 4, 1, 0, 0, 0, 4), some (.invokestatic 34, 3, 120, 3, 0, 0), none, none,
  some (.ifCond .ne 5, 3, 11, 0, 0, 0), none, none, some (.iconst (-1), 1, 0, 0, 0, -1), some (.ireturn, 1, 0, 0, 0, 0), some (.iload_n 1, 1, 1, 0, 0, 0),
  some (.invokestatic 95, 3, 122, 1, 0, 0), none, none, some (.ifCond .ne 6, 3, 21, 0, 0, 0), none, none,
  some (.bipush (-2), 2, 0, 0, 0, -2), none, some (.ireturn, 1, 0, 0, 0, 0), some (.aload_n 0, 1, 0, 0, 0, 0), some (.getfield 7, 3, 12, 0, 0, 0), none,
  none, some (.iconst 3, 1, 0, 0, 0, 3), some (.iaload, 1, 0, 0, 0, 0), some (.bipush 20, 2, 0, 0, 0, 20), none, some (.if_icmp .ne 6, 3, 35, 0, 0, 0),
  none, none, some (.bipush (-4), 2, 0, 0, 0, -4), none, some (.ireturn, 1, 0, 0, 0, 0), some (.aload_n 0, 1, 0, 0, 0, 0),
  some (.getfield 7, 3, 12, 0, 0, 0), none, none, some (.bipush 54, 2, 0, 0, 0, 54), none, some (.aload_n 0, 1, 0, 0, 0, 0),
  some (.getfield 7, 3, 12, 0, 0, 0), none, none, some (.iconst 3, 1, 0, 0, 0, 3), some (.iaload, 1, 0, 0, 0, 0), some (.iadd, 1, 0, 0, 0, 0),
  some (.iload_n 1, 1, 1, 0, 0, 0), some (.iastore, 1, 0, 0, 0, 0), some (.aload_n 0, 1, 0, 0, 0, 0), some (.getfield 7, 3, 12, 0, 0, 0), none, none,
  some (.bipush 74, 2, 0, 0, 0, 74), none, some (.aload_n 0, 1, 0, 0, 0, 0), some (.getfield 7, 3, 12, 0, 0, 0), none, none,
  some (.iconst 3, 1, 0, 0, 0, 3), some (.iaload, 1, 0, 0, 0, 0), some (.iadd, 1, 0, 0, 0, 0), some (.iload_n 2, 1, 2, 0, 0, 0), some (.iastore, 1, 0, 0, 0, 0), some (.aload_n 0, 1, 0, 0, 0, 0),
  some (.getfield 7, 3, 12, 0, 0, 0), none, none, some (.bipush 94, 2, 0, 0, 0, 94), none, some (.aload_n 0, 1, 0, 0, 0, 0),
  some (.getfield 7, 3, 12, 0, 0, 0), none, none, some (.iconst 3, 1, 0, 0, 0, 3), some (.iaload, 1, 0, 0, 0, 0), some (.iadd, 1, 0, 0, 0, 0),
  some (.iconst 0, 1, 0, 0, 0, 0), some (.iastore, 1, 0, 0, 0, 0), some (.aload_n 0, 1, 0, 0, 0, 0), some (.getfield 7, 3, 12, 0, 0, 0), none, none,
  some (.iconst 3, 1, 0, 0, 0, 3), some (.dup2, 1, 0, 0, 0, 0), some (.iaload, 1, 0, 0, 0, 0), some (.iconst 1, 1, 0, 0, 0, 1), some (.iadd, 1, 0, 0, 0, 0), some (.iastore, 1, 0, 0, 0, 0),
  some (.aload_n 0, 1, 0, 0, 0, 0), some (.getfield 7, 3, 12, 0, 0, 0), none, none, some (.iconst 3, 1, 0, 0, 0, 3), some (.iaload, 1, 0, 0, 0, 0),
  some (.iconst 1, 1, 0, 0, 0, 1), some (.isub, 1, 0, 0, 0, 0), some (.ireturn, 1, 0, 0, 0, 0)
  ])
def mi_X12_isPaper : am_MI := (yX12_isPaper, cX12_isPaper, 2, (some FieldType.boolean), [
  some (.iload_n 1, 1, 1, 0, 0, 0), some (.iconst 0, 1, 0, 0, 0, 0), some (.aload_n 0, 1, 0, 0, 0, 0), some (.getfield 7, 3, 12, 0, 0, 0), none, none,
  some (.iconst 3, 1, 0, 0, 0, 3), some (.iaload, 1, 0, 0, 0, 0), some (.iconst 1, 1, 0, 0, 0, 1), some (.isub, 1, 0, 0, 0, 0), some (.invokestatic 34, 3, 120, 3, 0, 0), none,
  none, some (.ireturn, 1, 0, 0, 0, 0)
  ])
def mi_X12_shown : am_MI := (yX12_shown, cX12_shown, 4, (some FieldType.int), [
  some (.aload_n 0, 1, 0, 0, 0, 0), some (.iload_n 1, 1, 1, 0, 0, 0), some (.invokevirtual 98, 3, 142, 1, 0, 12), none, none, some (.ifCond .ne 5, 3, 10, 0, 0, 0),
  none, none, some (.iconst (-1), 1, 0, 0, 0, -1), some (.ireturn, 1, 0, 0, 0, 0), some (.aload_n 0, 1, 0, 0, 0, 0), some (.getfield 7, 3, 12, 0, 0, 0),
  none, none, some (.bipush 94, 2, 0, 0, 0, 94), none, some (.iload_n 1, 1, 1, 0, 0, 0), some (.iadd, 1, 0, 0, 0, 0),
  some (.iaload, 1, 0, 0, 0, 0), some (.istore_n 3, 1, 3, 0, 0, 0), some (.aload_n 0, 1, 0, 0, 0, 0), some (.getfield 7, 3, 12, 0, 0, 0), none, none,
  some (.bipush 94, 2, 0, 0, 0, 94), none, some (.iload_n 1, 1, 1, 0, 0, 0), some (.iadd, 1, 0, 0, 0, 0), some (.iload_n 2, 1, 2, 0, 0, 0), some (.ifCond .eq 7, 3, 36, 0, 0, 0),
  none, none, some (.iconst 1, 1, 0, 0, 0, 1), some (.goto 4, 3, 37, 0, 0, 0), none, none,
  some (.iconst 0, 1, 0, 0, 0, 0), some (.iastore, 1, 0, 0, 0, 0), some (.iload_n 3, 1, 3, 0, 0, 0), some (.ireturn, 1, 0, 0, 0, 0)
  ])
def mi_X12_of : am_MI := (yX12_of, cX12_of, 3, (some FieldType.int), [
  some (.aload_n 0, 1, 0, 0, 0, 0), some (.iload_n 1, 1, 1, 0, 0, 0), some (.invokevirtual 98, 3, 142, 1, 0, 12), none, none, some (.ifCond .eq 29, 3, 34, 0, 0, 0),
  none, none, some (.iload_n 2, 1, 2, 0, 0, 0), some (.iconst 0, 1, 0, 0, 0, 0), some (.iconst 2, 1, 0, 0, 0, 2), some (.invokestatic 34, 3, 120, 3, 0, 0),
  none, none, some (.ifCond .eq 20, 3, 34, 0, 0, 0), none, none, some (.aload_n 0, 1, 0, 0, 0, 0),
  some (.getfield 7, 3, 12, 0, 0, 0), none, none, some (.bipush 54, 2, 0, 0, 0, 54), none, some (.bipush 20, 2, 0, 0, 0, 20),
  none, some (.iload_n 2, 1, 2, 0, 0, 0), some (.imul, 1, 0, 0, 0, 0), some (.iadd, 1, 0, 0, 0, 0), some (.iload_n 1, 1, 1, 0, 0, 0), some (.iadd, 1, 0, 0, 0, 0),
  some (.iaload, 1, 0, 0, 0, 0), some (.goto 4, 3, 35, 0, 0, 0), none, none, some (.iconst (-1), 1, 0, 0, 0, -1), some (.ireturn, 1, 0, 0, 0, 0)
  ])
def mi_X12_sets : am_MI := (yX12_sets, cX12_sets, 2, none, [
  some (.aload_n 0, 1, 0, 0, 0, 0), some (.getfield 22, 3, 12, 7, 0, 0), none, none, some (.iconst 0, 1, 0, 0, 0, 0), some (.iload_n 1, 1, 1, 0, 0, 0),
  some (.bipush 125, 2, 0, 0, 0, 125), none, some (.idiv, 1, 0, 0, 0, 0), some (.iastore, 1, 0, 0, 0, 0), some (.aload_n 0, 1, 0, 0, 0, 0), some (.getfield 22, 3, 12, 7, 0, 0),
  none, none, some (.iconst 1, 1, 0, 0, 0, 1), some (.iload_n 1, 1, 1, 0, 0, 0), some (.bipush 25, 2, 0, 0, 0, 25), none,
  some (.idiv, 1, 0, 0, 0, 0), some (.iconst 5, 1, 0, 0, 0, 5), some (.irem, 1, 0, 0, 0, 0), some (.iastore, 1, 0, 0, 0, 0), some (.aload_n 0, 1, 0, 0, 0, 0), some (.getfield 22, 3, 12, 7, 0, 0),
  none, none, some (.iconst 2, 1, 0, 0, 0, 2), some (.iload_n 1, 1, 1, 0, 0, 0), some (.iconst 5, 1, 0, 0, 0, 5), some (.idiv, 1, 0, 0, 0, 0),
  some (.iconst 5, 1, 0, 0, 0, 5), some (.irem, 1, 0, 0, 0, 0), some (.iastore, 1, 0, 0, 0, 0), some (.aload_n 0, 1, 0, 0, 0, 0), some (.getfield 22, 3, 12, 7, 0, 0), none,
  none, some (.iconst 3, 1, 0, 0, 0, 3), some (.iload_n 1, 1, 1, 0, 0, 0), some (.iconst 5, 1, 0, 0, 0, 5), some (.irem, 1, 0, 0, 0, 0), some (.iastore, 1, 0, 0, 0, 0),
  some (.return_, 1, 0, 0, 0, 0)
  ])
def mi_X12_value : am_MI := (yX12_value, cX12_value, 2, (some FieldType.int), [
  some (.iload_n 1, 1, 1, 0, 0, 0), some (.bipush 10, 2, 0, 0, 0, 10), none, some (.if_icmp .lt 15, 3, 18, 0, 0, 0), none, none,
  some (.aload_n 0, 1, 0, 0, 0, 0), some (.getfield 22, 3, 12, 7, 0, 0), none, none, some (.iload_n 1, 1, 1, 0, 0, 0), some (.bipush 10, 2, 0, 0, 0, 10),
  none, some (.isub, 1, 0, 0, 0, 0), some (.iaload, 1, 0, 0, 0, 0), some (.goto 4, 3, 19, 0, 0, 0), none, none,
  some (.iload_n 1, 1, 1, 0, 0, 0), some (.ireturn, 1, 0, 0, 0, 0)
  ])
def mi_X12_factAt : am_MI := (yX12_factAt, cX12_factAt, 2, (some FieldType.int), [
  some (.bipush 125, 2, 0, 0, 0, 125), none, some (.aload_n 0, 1, 0, 0, 0, 0), some (.getfield 7, 3, 12, 0, 0, 0), none, none,
  some (.iload_n 1, 1, 1, 0, 0, 0), some (.iaload, 1, 0, 0, 0, 0), some (.imul, 1, 0, 0, 0, 0), some (.bipush 25, 2, 0, 0, 0, 25), none, some (.aload_n 0, 1, 0, 0, 0, 0),
  some (.aload_n 0, 1, 0, 0, 0, 0), some (.getfield 7, 3, 12, 0, 0, 0), none, none, some (.iload_n 1, 1, 1, 0, 0, 0), some (.iconst 1, 1, 0, 0, 0, 1),
  some (.iadd, 1, 0, 0, 0, 0), some (.iaload, 1, 0, 0, 0, 0), some (.invokevirtual 101, 3, 146, 1, 0, 12), none, none, some (.imul, 1, 0, 0, 0, 0),
  some (.iadd, 1, 0, 0, 0, 0), some (.iconst 5, 1, 0, 0, 0, 5), some (.aload_n 0, 1, 0, 0, 0, 0), some (.aload_n 0, 1, 0, 0, 0, 0), some (.getfield 7, 3, 12, 0, 0, 0), none,
  none, some (.iload_n 1, 1, 1, 0, 0, 0), some (.iconst 2, 1, 0, 0, 0, 2), some (.iadd, 1, 0, 0, 0, 0), some (.iaload, 1, 0, 0, 0, 0), some (.invokevirtual 101, 3, 146, 1, 0, 12),
  none, none, some (.imul, 1, 0, 0, 0, 0), some (.iadd, 1, 0, 0, 0, 0), some (.aload_n 0, 1, 0, 0, 0, 0), some (.aload_n 0, 1, 0, 0, 0, 0),
  some (.getfield 7, 3, 12, 0, 0, 0), none, none, some (.iload_n 1, 1, 1, 0, 0, 0), some (.iconst 3, 1, 0, 0, 0, 3), some (.iadd, 1, 0, 0, 0, 0),
  some (.iaload, 1, 0, 0, 0, 0), some (.invokevirtual 101, 3, 146, 1, 0, 12), none, none, some (.iadd, 1, 0, 0, 0, 0), some (.ireturn, 1, 0, 0, 0, 0)
  ])
def mi_X12_testsHold : am_MI := (yX12_testsHold, cX12_testsHold, 6, (some FieldType.boolean), [
  some (.iconst 0, 1, 0, 0, 0, 0), some (.istore_n 2, 1, 2, 0, 0, 0), some (.iload_n 2, 1, 2, 0, 0, 0), some (.aload_n 0, 1, 0, 0, 0, 0), some (.getfield 7, 3, 12, 0, 0, 0), none,
  none, some (.iload_n 1, 1, 1, 0, 0, 0), some (.iconst 1, 1, 0, 0, 0, 1), some (.iadd, 1, 0, 0, 0, 0), some (.iaload, 1, 0, 0, 0, 0), some (.if_icmp .ge 101, 3, 112, 0, 0, 0),
  none, none, some (.aload_n 0, 1, 0, 0, 0, 0), some (.aload_n 0, 1, 0, 0, 0, 0), some (.getfield 7, 3, 12, 0, 0, 0), none,
  none, some (.iload_n 1, 1, 1, 0, 0, 0), some (.bipush 14, 2, 0, 0, 0, 14), none, some (.iadd, 1, 0, 0, 0, 0), some (.iconst 3, 1, 0, 0, 0, 3),
  some (.iload_n 2, 1, 2, 0, 0, 0), some (.imul, 1, 0, 0, 0, 0), some (.iadd, 1, 0, 0, 0, 0), some (.iaload, 1, 0, 0, 0, 0), some (.invokevirtual 101, 3, 146, 1, 0, 12), none,
  none, some (.istore_n 3, 1, 3, 0, 0, 0), some (.aload_n 0, 1, 0, 0, 0, 0), some (.aload_n 0, 1, 0, 0, 0, 0), some (.getfield 7, 3, 12, 0, 0, 0), none,
  none, some (.iload_n 1, 1, 1, 0, 0, 0), some (.bipush 16, 2, 0, 0, 0, 16), none, some (.iadd, 1, 0, 0, 0, 0), some (.iconst 3, 1, 0, 0, 0, 3),
  some (.iload_n 2, 1, 2, 0, 0, 0), some (.imul, 1, 0, 0, 0, 0), some (.iadd, 1, 0, 0, 0, 0), some (.iaload, 1, 0, 0, 0, 0), some (.invokevirtual 101, 3, 146, 1, 0, 12), none,
  none, some (.istore 4, 2, 4, 0, 0, 0), none, some (.aload_n 0, 1, 0, 0, 0, 0), some (.getfield 7, 3, 12, 0, 0, 0), none,
  none, some (.iload_n 1, 1, 1, 0, 0, 0), some (.bipush 15, 2, 0, 0, 0, 15), none, some (.iadd, 1, 0, 0, 0, 0), some (.iconst 3, 1, 0, 0, 0, 3),
  some (.iload_n 2, 1, 2, 0, 0, 0), some (.imul, 1, 0, 0, 0, 0), some (.iadd, 1, 0, 0, 0, 0), some (.iaload, 1, 0, 0, 0, 0), some (.istore 5, 2, 5, 0, 0, 0), none,
  some (.iload 5, 2, 5, 0, 0, 0), none, some (.bipush 60, 2, 0, 0, 0, 60), none, some (.if_icmp .ne 12, 3, 82, 0, 0, 0), none,
  none, some (.iload_n 3, 1, 3, 0, 0, 0), some (.iload 4, 2, 4, 0, 0, 0), none, some (.if_icmp .lt 30, 3, 106, 0, 0, 0), none,
  none, some (.goto 25, 3, 104, 0, 0, 0), none, none, some (.iload 5, 2, 5, 0, 0, 0), none,
  some (.bipush 61, 2, 0, 0, 0, 61), none, some (.if_icmp .ne 12, 3, 98, 0, 0, 0), none, none, some (.iload_n 3, 1, 3, 0, 0, 0),
  some (.iload 4, 2, 4, 0, 0, 0), none, some (.if_icmp .eq 14, 3, 106, 0, 0, 0), none, none, some (.goto 9, 3, 104, 0, 0, 0),
  none, none, some (.iload_n 3, 1, 3, 0, 0, 0), some (.iload 4, 2, 4, 0, 0, 0), none, some (.if_icmp .ne 5, 3, 106, 0, 0, 0),
  none, none, some (.iconst 0, 1, 0, 0, 0, 0), some (.ireturn, 1, 0, 0, 0, 0), some (.iinc 2 1, 3, 2, 0, 0, 1), none,
  none, some (.goto (-107), 3, 2, 0, 0, 0), none, none, some (.iconst 1, 1, 0, 0, 0, 1), some (.ireturn, 1, 0, 0, 0, 0)
  ])
def mi_X12_isPlain : am_MI := (yX12_isPlain, cX12_isPlain, 3, (some FieldType.boolean), [
  some (.iconst 0, 1, 0, 0, 0, 0), some (.istore_n 2, 1, 2, 0, 0, 0), some (.iload_n 2, 1, 2, 0, 0, 0), some (.iconst 4, 1, 0, 0, 0, 4), some (.if_icmp .ge 28, 3, 32, 0, 0, 0), none,
  none, some (.iload_n 1, 1, 1, 0, 0, 0), some (.iload_n 2, 1, 2, 0, 0, 0), some (.ishr, 1, 0, 0, 0, 0), some (.iconst 1, 1, 0, 0, 0, 1), some (.iand, 1, 0, 0, 0, 0),
  some (.ifCond .ne 14, 3, 26, 0, 0, 0), none, none, some (.aload_n 0, 1, 0, 0, 0, 0), some (.getfield 22, 3, 12, 7, 0, 0), none,
  none, some (.iload_n 2, 1, 2, 0, 0, 0), some (.iaload, 1, 0, 0, 0, 0), some (.ifCond .eq 5, 3, 26, 0, 0, 0), none, none,
  some (.iconst 0, 1, 0, 0, 0, 0), some (.ireturn, 1, 0, 0, 0, 0), some (.iinc 2 1, 3, 2, 0, 0, 1), none, none, some (.goto (-27), 3, 2, 0, 0, 0),
  none, none, some (.iconst 1, 1, 0, 0, 0, 1), some (.ireturn, 1, 0, 0, 0, 0)
  ])
def mi_X12_areBelow : am_MI := (yX12_areBelow, cX12_areBelow, 5, (some FieldType.boolean), [
  some (.iconst 0, 1, 0, 0, 0, 0), some (.istore_n 3, 1, 3, 0, 0, 0), some (.iload_n 3, 1, 3, 0, 0, 0), some (.aload_n 0, 1, 0, 0, 0, 0), some (.getfield 7, 3, 12, 0, 0, 0), none,
  none, some (.iload_n 1, 1, 1, 0, 0, 0), some (.iaload, 1, 0, 0, 0, 0), some (.if_icmp .ge 40, 3, 49, 0, 0, 0), none, none,
  some (.aload_n 0, 1, 0, 0, 0, 0), some (.getfield 16, 3, 12, 5, 0, 0), none, none, some (.aload_n 0, 1, 0, 0, 0, 0), some (.iload_n 1, 1, 1, 0, 0, 0),
  some (.iconst 2, 1, 0, 0, 0, 2), some (.iadd, 1, 0, 0, 0, 0), some (.iconst 4, 1, 0, 0, 0, 4), some (.iload_n 3, 1, 3, 0, 0, 0), some (.imul, 1, 0, 0, 0, 0), some (.iadd, 1, 0, 0, 0, 0),
  some (.invokevirtual 104, 3, 147, 1, 0, 12), none, none, some (.iaload, 1, 0, 0, 0, 0), some (.istore 4, 2, 4, 0, 0, 0), none,
  some (.iload 4, 2, 4, 0, 0, 0), none, some (.ifCond .lt 9, 3, 41, 0, 0, 0), none, none, some (.iload 4, 2, 4, 0, 0, 0),
  none, some (.iload_n 2, 1, 2, 0, 0, 0), some (.if_icmp .lt 5, 3, 43, 0, 0, 0), none, none, some (.iconst 0, 1, 0, 0, 0, 0),
  some (.ireturn, 1, 0, 0, 0, 0), some (.iinc 3 1, 3, 3, 0, 0, 1), none, none, some (.goto (-44), 3, 2, 0, 0, 0), none,
  none, some (.iconst 1, 1, 0, 0, 0, 1), some (.ireturn, 1, 0, 0, 0, 0)
  ])
def mi_X12_begins : am_MI := (yX12_begins, cX12_begins, 2, none, [
  some (.iconst 0, 1, 0, 0, 0, 0), some (.istore_n 1, 1, 1, 0, 0, 0), some (.iload_n 1, 1, 1, 0, 0, 0), some (.sipush 750, 3, 0, 0, 0, 750), none, none,
  some (.if_icmp .ge 24, 3, 30, 0, 0, 0), none, none, some (.aload_n 0, 1, 0, 0, 0, 0), some (.getfield 16, 3, 12, 5, 0, 0), none,
  none, some (.iload_n 1, 1, 1, 0, 0, 0), some (.iconst (-1), 1, 0, 0, 0, -1), some (.iastore, 1, 0, 0, 0, 0), some (.aload_n 0, 1, 0, 0, 0, 0), some (.getfield 19, 3, 12, 6, 0, 0),
  none, none, some (.iload_n 1, 1, 1, 0, 0, 0), some (.ldc 107, 2, 0, 0, 0, 100000), none, some (.iastore, 1, 0, 0, 0, 0),
  some (.iinc 1 1, 3, 1, 0, 0, 1), none, none, some (.goto (-25), 3, 2, 0, 0, 0), none, none,
  some (.iconst 0, 1, 0, 0, 0, 0), some (.istore_n 1, 1, 1, 0, 0, 0), some (.iload_n 1, 1, 1, 0, 0, 0), some (.aload_n 0, 1, 0, 0, 0, 0), some (.getfield 7, 3, 12, 0, 0, 0), none,
  none, some (.iconst 3, 1, 0, 0, 0, 3), some (.iaload, 1, 0, 0, 0, 0), some (.if_icmp .ge 51, 3, 90, 0, 0, 0), none, none,
  some (.aload_n 0, 1, 0, 0, 0, 0), some (.getfield 7, 3, 12, 0, 0, 0), none, none, some (.bipush 94, 2, 0, 0, 0, 94), none,
  some (.iload_n 1, 1, 1, 0, 0, 0), some (.iadd, 1, 0, 0, 0, 0), some (.iaload, 1, 0, 0, 0, 0), some (.ifCond .ne 33, 3, 84, 0, 0, 0), none, none,
  some (.aload_n 0, 1, 0, 0, 0, 0), some (.getfield 16, 3, 12, 5, 0, 0), none, none, some (.aload_n 0, 1, 0, 0, 0, 0), some (.getfield 7, 3, 12, 0, 0, 0),
  none, none, some (.bipush 54, 2, 0, 0, 0, 54), none, some (.iload_n 1, 1, 1, 0, 0, 0), some (.iadd, 1, 0, 0, 0, 0),
  some (.iaload, 1, 0, 0, 0, 0), some (.iconst 0, 1, 0, 0, 0, 0), some (.iastore, 1, 0, 0, 0, 0), some (.aload_n 0, 1, 0, 0, 0, 0), some (.getfield 19, 3, 12, 6, 0, 0), none,
  none, some (.aload_n 0, 1, 0, 0, 0, 0), some (.getfield 7, 3, 12, 0, 0, 0), none, none, some (.bipush 54, 2, 0, 0, 0, 54),
  none, some (.iload_n 1, 1, 1, 0, 0, 0), some (.iadd, 1, 0, 0, 0, 0), some (.iaload, 1, 0, 0, 0, 0), some (.iconst 1, 1, 0, 0, 0, 1), some (.iastore, 1, 0, 0, 0, 0),
  some (.iinc 1 1, 3, 1, 0, 0, 1), none, none, some (.goto (-55), 3, 32, 0, 0, 0), none, none,
  some (.return_, 1, 0, 0, 0, 0)
  ])
def mi_X12_works : am_MI := (yX12_works, cX12_works, 8, none, [
  some (.aload_n 0, 1, 0, 0, 0, 0), some (.invokevirtual 108, 3, 151, 0, 0, 12), none, none, some (.iconst 1, 1, 0, 0, 0, 1), some (.istore_n 2, 1, 2, 0, 0, 0),
  some (.iconst 1, 1, 0, 0, 0, 1), some (.istore_n 3, 1, 3, 0, 0, 0), some (.iload_n 2, 1, 2, 0, 0, 0), some (.ifCond .eq 133, 3, 142, 0, 0, 0), none, none,
  some (.iconst 0, 1, 0, 0, 0, 0), some (.istore_n 2, 1, 2, 0, 0, 0), some (.iconst 0, 1, 0, 0, 0, 0), some (.istore 4, 2, 4, 0, 0, 0), none, some (.iload 4, 2, 4, 0, 0, 0),
  none, some (.aload_n 0, 1, 0, 0, 0, 0), some (.getfield 7, 3, 12, 0, 0, 0), none, none, some (.iconst 1, 1, 0, 0, 0, 1),
  some (.iaload, 1, 0, 0, 0, 0), some (.if_icmp .ge 111, 3, 136, 0, 0, 0), none, none, some (.aload_n 0, 1, 0, 0, 0, 0), some (.iload 4, 2, 4, 0, 0, 0),
  none, some (.iload_n 1, 1, 1, 0, 0, 0), some (.invokevirtual 92, 3, 139, 2, 0, 12), none, none, some (.istore 5, 2, 5, 0, 0, 0),
  none, some (.aload_n 0, 1, 0, 0, 0, 0), some (.iload 5, 2, 5, 0, 0, 0), none, some (.invokevirtual 76, 3, 133, 1, 0, 12), none,
  none, some (.istore 6, 2, 6, 0, 0, 0), none, some (.iconst 0, 1, 0, 0, 0, 0), some (.istore 7, 2, 7, 0, 0, 0), none,
  some (.iload 7, 2, 7, 0, 0, 0), none, some (.sipush 625, 3, 0, 0, 0, 625), none, none, some (.if_icmp .ge 77, 3, 130, 0, 0, 0),
  none, none, some (.aload_n 0, 1, 0, 0, 0, 0), some (.iload 7, 2, 7, 0, 0, 0), none, some (.invokevirtual 111, 3, 145, 1, 0, 12),
  none, none, some (.aload_n 0, 1, 0, 0, 0, 0), some (.iload 6, 2, 6, 0, 0, 0), none, some (.invokevirtual 114, 3, 149, 1, 0, 12),
  none, none, some (.ifCond .eq 56, 3, 124, 0, 0, 0), none, none, some (.aload_n 0, 1, 0, 0, 0, 0),
  some (.iload 5, 2, 5, 0, 0, 0), none, some (.iload_n 3, 1, 3, 0, 0, 0), some (.invokevirtual 117, 3, 150, 2, 0, 12), none, none,
  some (.ifCond .eq 46, 3, 124, 0, 0, 0), none, none, some (.aload_n 0, 1, 0, 0, 0, 0), some (.iload 5, 2, 5, 0, 0, 0), none,
  some (.invokevirtual 121, 3, 148, 1, 0, 12), none, none, some (.ifCond .eq 37, 3, 124, 0, 0, 0), none, none,
  some (.aload_n 0, 1, 0, 0, 0, 0), some (.getfield 16, 3, 12, 5, 0, 0), none, none, some (.aload_n 0, 1, 0, 0, 0, 0), some (.iload 5, 2, 5, 0, 0, 0),
  none, some (.bipush 26, 2, 0, 0, 0, 26), none, some (.iadd, 1, 0, 0, 0, 0), some (.invokevirtual 104, 3, 147, 1, 0, 12), none,
  none, some (.iaload, 1, 0, 0, 0, 0), some (.ifCond .ge 20, 3, 124, 0, 0, 0), none, none, some (.aload_n 0, 1, 0, 0, 0, 0),
  some (.getfield 16, 3, 12, 5, 0, 0), none, none, some (.aload_n 0, 1, 0, 0, 0, 0), some (.iload 5, 2, 5, 0, 0, 0), none,
  some (.bipush 26, 2, 0, 0, 0, 26), none, some (.iadd, 1, 0, 0, 0, 0), some (.invokevirtual 104, 3, 147, 1, 0, 12), none, none,
  some (.iload_n 3, 1, 3, 0, 0, 0), some (.iastore, 1, 0, 0, 0, 0), some (.iconst 1, 1, 0, 0, 0, 1), some (.istore_n 2, 1, 2, 0, 0, 0), some (.iinc 7 1, 3, 7, 0, 0, 1), none,
  none, some (.goto (-79), 3, 48, 0, 0, 0), none, none, some (.iinc 4 1, 3, 4, 0, 0, 1), none,
  none, some (.goto (-116), 3, 17, 0, 0, 0), none, none, some (.iinc 3 1, 3, 3, 0, 0, 1), none,
  none, some (.goto (-131), 3, 8, 0, 0, 0), none, none, some (.return_, 1, 0, 0, 0, 0)
  ])
def mi_X12_sizes : am_MI := (yX12_sizes, cX12_sizes, 9, none, [
  some (.iconst 1, 1, 0, 0, 0, 1), some (.istore_n 2, 1, 2, 0, 0, 0), some (.iload_n 2, 1, 2, 0, 0, 0), some (.ifCond .eq 175, 3, 178, 0, 0, 0), none, none,
  some (.iconst 0, 1, 0, 0, 0, 0), some (.istore_n 2, 1, 2, 0, 0, 0), some (.iconst 0, 1, 0, 0, 0, 0), some (.istore_n 3, 1, 3, 0, 0, 0), some (.iload_n 3, 1, 3, 0, 0, 0), some (.aload_n 0, 1, 0, 0, 0, 0),
  some (.getfield 7, 3, 12, 0, 0, 0), none, none, some (.iconst 1, 1, 0, 0, 0, 1), some (.iaload, 1, 0, 0, 0, 0), some (.if_icmp .ge 158, 3, 175, 0, 0, 0),
  none, none, some (.aload_n 0, 1, 0, 0, 0, 0), some (.iload_n 3, 1, 3, 0, 0, 0), some (.iload_n 1, 1, 1, 0, 0, 0), some (.invokevirtual 92, 3, 139, 2, 0, 12),
  none, none, some (.istore 4, 2, 4, 0, 0, 0), none, some (.aload_n 0, 1, 0, 0, 0, 0), some (.iload 4, 2, 4, 0, 0, 0),
  none, some (.invokevirtual 76, 3, 133, 1, 0, 12), none, none, some (.istore 5, 2, 5, 0, 0, 0), none,
  some (.iconst 0, 1, 0, 0, 0, 0), some (.istore 6, 2, 6, 0, 0, 0), none, some (.iload 6, 2, 6, 0, 0, 0), none, some (.sipush 625, 3, 0, 0, 0, 625),
  none, none, some (.if_icmp .ge 125, 3, 169, 0, 0, 0), none, none, some (.aload_n 0, 1, 0, 0, 0, 0),
  some (.iload 6, 2, 6, 0, 0, 0), none, some (.invokevirtual 111, 3, 145, 1, 0, 12), none, none, some (.aload_n 0, 1, 0, 0, 0, 0),
  some (.iload 5, 2, 5, 0, 0, 0), none, some (.invokevirtual 114, 3, 149, 1, 0, 12), none, none, some (.ifCond .eq 104, 3, 163, 0, 0, 0),
  none, none, some (.aload_n 0, 1, 0, 0, 0, 0), some (.iload 4, 2, 4, 0, 0, 0), none, some (.ldc 107, 2, 0, 0, 0, 100000),
  none, some (.invokevirtual 117, 3, 150, 2, 0, 12), none, none, some (.ifCond .eq 93, 3, 163, 0, 0, 0), none,
  none, some (.aload_n 0, 1, 0, 0, 0, 0), some (.iload 4, 2, 4, 0, 0, 0), none, some (.invokevirtual 121, 3, 148, 1, 0, 12), none,
  none, some (.ifCond .eq 84, 3, 163, 0, 0, 0), none, none, some (.iconst 1, 1, 0, 0, 0, 1), some (.istore 7, 2, 7, 0, 0, 0),
  none, some (.iconst 0, 1, 0, 0, 0, 0), some (.istore 8, 2, 8, 0, 0, 0), none, some (.iload 8, 2, 8, 0, 0, 0), none,
  some (.aload_n 0, 1, 0, 0, 0, 0), some (.getfield 7, 3, 12, 0, 0, 0), none, none, some (.iload 4, 2, 4, 0, 0, 0), none,
  some (.iaload, 1, 0, 0, 0, 0), some (.if_icmp .ge 32, 3, 129, 0, 0, 0), none, none, some (.iload 7, 2, 7, 0, 0, 0), none,
  some (.aload_n 0, 1, 0, 0, 0, 0), some (.getfield 19, 3, 12, 6, 0, 0), none, none, some (.aload_n 0, 1, 0, 0, 0, 0), some (.iload 4, 2, 4, 0, 0, 0),
  none, some (.iconst 2, 1, 0, 0, 0, 2), some (.iadd, 1, 0, 0, 0, 0), some (.iconst 4, 1, 0, 0, 0, 4), some (.iload 8, 2, 8, 0, 0, 0), none,
  some (.imul, 1, 0, 0, 0, 0), some (.iadd, 1, 0, 0, 0, 0), some (.invokevirtual 104, 3, 147, 1, 0, 12), none, none, some (.iaload, 1, 0, 0, 0, 0),
  some (.iadd, 1, 0, 0, 0, 0), some (.istore 7, 2, 7, 0, 0, 0), none, some (.iinc 8 1, 3, 8, 0, 0, 1), none, none,
  some (.goto (-38), 3, 88, 0, 0, 0), none, none, some (.aload_n 0, 1, 0, 0, 0, 0), some (.iload 4, 2, 4, 0, 0, 0), none,
  some (.bipush 26, 2, 0, 0, 0, 26), none, some (.iadd, 1, 0, 0, 0, 0), some (.invokevirtual 104, 3, 147, 1, 0, 12), none, none,
  some (.istore 8, 2, 8, 0, 0, 0), none, some (.iload 7, 2, 7, 0, 0, 0), none, some (.aload_n 0, 1, 0, 0, 0, 0), some (.getfield 19, 3, 12, 6, 0, 0),
  none, none, some (.iload 8, 2, 8, 0, 0, 0), none, some (.iaload, 1, 0, 0, 0, 0), some (.if_icmp .ge 14, 3, 163, 0, 0, 0),
  none, none, some (.aload_n 0, 1, 0, 0, 0, 0), some (.getfield 19, 3, 12, 6, 0, 0), none, none,
  some (.iload 8, 2, 8, 0, 0, 0), none, some (.iload 7, 2, 7, 0, 0, 0), none, some (.iastore, 1, 0, 0, 0, 0), some (.iconst 1, 1, 0, 0, 0, 1),
  some (.istore_n 2, 1, 2, 0, 0, 0), some (.iinc 6 1, 3, 6, 0, 0, 1), none, none, some (.goto (-127), 3, 39, 0, 0, 0), none,
  none, some (.iinc 3 1, 3, 3, 0, 0, 1), none, none, some (.goto (-162), 3, 10, 0, 0, 0), none,
  none, some (.goto (-173), 3, 2, 0, 0, 0), none, none, some (.return_, 1, 0, 0, 0, 0)
  ])
def mi_X12_followsOn : am_MI := (yX12_followsOn, cX12_followsOn, 3, (some FieldType.boolean), [
  some (.aload_n 0, 1, 0, 0, 0, 0), some (.iload_n 2, 1, 2, 0, 0, 0), some (.invokevirtual 124, 3, 152, 1, 0, 12), none, none, some (.aload_n 0, 1, 0, 0, 0, 0),
  some (.getfield 16, 3, 12, 5, 0, 0), none, none, some (.iload_n 1, 1, 1, 0, 0, 0), some (.iaload, 1, 0, 0, 0, 0), some (.ifCond .lt 7, 3, 18, 0, 0, 0),
  none, none, some (.iconst 1, 1, 0, 0, 0, 1), some (.goto 4, 3, 19, 0, 0, 0), none, none,
  some (.iconst 0, 1, 0, 0, 0, 0), some (.ireturn, 1, 0, 0, 0, 0)
  ])
def mi_X12_follows : am_MI := (yX12_follows, cX12_follows, 4, (some FieldType.int), [
  some (.iload_n 3, 1, 3, 0, 0, 0), some (.iconst 0, 1, 0, 0, 0, 0), some (.iconst 2, 1, 0, 0, 0, 2), some (.invokestatic 34, 3, 120, 3, 0, 0), none, none,
  some (.ifCond .ne 5, 3, 11, 0, 0, 0), none, none, some (.iconst (-1), 1, 0, 0, 0, -1), some (.ireturn, 1, 0, 0, 0, 0), some (.iload_n 1, 1, 1, 0, 0, 0),
  some (.invokestatic 95, 3, 122, 1, 0, 0), none, none, some (.ifCond .eq 10, 3, 25, 0, 0, 0), none, none,
  some (.iload_n 2, 1, 2, 0, 0, 0), some (.invokestatic 89, 3, 121, 1, 0, 0), none, none, some (.ifCond .ne 6, 3, 28, 0, 0, 0), none,
  none, some (.bipush (-2), 2, 0, 0, 0, -2), none, some (.ireturn, 1, 0, 0, 0, 0), some (.aload_n 0, 1, 0, 0, 0, 0), some (.iload_n 2, 1, 2, 0, 0, 0),
  some (.invokevirtual 124, 3, 152, 1, 0, 12), none, none, some (.iload_n 3, 1, 3, 0, 0, 0), some (.ifCond .eq 12, 3, 46, 0, 0, 0), none,
  none, some (.aload_n 0, 1, 0, 0, 0, 0), some (.getfield 16, 3, 12, 5, 0, 0), none, none, some (.iload_n 1, 1, 1, 0, 0, 0),
  some (.iaload, 1, 0, 0, 0, 0), some (.ifCond .ge 27, 3, 70, 0, 0, 0), none, none, some (.iload_n 3, 1, 3, 0, 0, 0), some (.ifCond .ne 20, 3, 67, 0, 0, 0),
  none, none, some (.aload_n 0, 1, 0, 0, 0, 0), some (.getfield 16, 3, 12, 5, 0, 0), none, none,
  some (.iload_n 1, 1, 1, 0, 0, 0), some (.iaload, 1, 0, 0, 0, 0), some (.ifCond .lt 7, 3, 63, 0, 0, 0), none, none, some (.iconst 1, 1, 0, 0, 0, 1),
  some (.goto 9, 3, 69, 0, 0, 0), none, none, some (.iconst 0, 1, 0, 0, 0, 0), some (.goto 5, 3, 69, 0, 0, 0), none,
  none, some (.bipush (-5), 2, 0, 0, 0, -5), none, some (.ireturn, 1, 0, 0, 0, 0), some (.iload_n 3, 1, 3, 0, 0, 0), some (.iconst 1, 1, 0, 0, 0, 1),
  some (.if_icmp .ne 10, 3, 82, 0, 0, 0), none, none, some (.aload_n 0, 1, 0, 0, 0, 0), some (.getfield 16, 3, 12, 5, 0, 0), none,
  none, some (.iload_n 1, 1, 1, 0, 0, 0), some (.iaload, 1, 0, 0, 0, 0), some (.ireturn, 1, 0, 0, 0, 0), some (.aload_n 0, 1, 0, 0, 0, 0), some (.iload_n 2, 1, 2, 0, 0, 0),
  some (.invokevirtual 127, 3, 153, 1, 0, 12), none, none, some (.aload_n 0, 1, 0, 0, 0, 0), some (.getfield 19, 3, 12, 6, 0, 0), none,
  none, some (.iload_n 1, 1, 1, 0, 0, 0), some (.iaload, 1, 0, 0, 0, 0), some (.ireturn, 1, 0, 0, 0, 0)
  ])
def mi_X12_many : am_MI := (yX12_many, cX12_many, 4, (some FieldType.int), [
  some (.iload_n 1, 1, 1, 0, 0, 0), some (.invokestatic 89, 3, 121, 1, 0, 0), none, none, some (.ifCond .ne 6, 3, 10, 0, 0, 0), none,
  none, some (.bipush (-2), 2, 0, 0, 0, -2), none, some (.ireturn, 1, 0, 0, 0, 0), some (.aload_n 0, 1, 0, 0, 0, 0), some (.iload_n 1, 1, 1, 0, 0, 0),
  some (.invokevirtual 124, 3, 152, 1, 0, 12), none, none, some (.iconst 0, 1, 0, 0, 0, 0), some (.istore_n 2, 1, 2, 0, 0, 0), some (.iconst 0, 1, 0, 0, 0, 0),
  some (.istore_n 3, 1, 3, 0, 0, 0), some (.iload_n 3, 1, 3, 0, 0, 0), some (.sipush 750, 3, 0, 0, 0, 750), none, none, some (.if_icmp .ge 26, 3, 49, 0, 0, 0),
  none, none, some (.iload_n 2, 1, 2, 0, 0, 0), some (.aload_n 0, 1, 0, 0, 0, 0), some (.getfield 16, 3, 12, 5, 0, 0), none,
  none, some (.iload_n 3, 1, 3, 0, 0, 0), some (.iaload, 1, 0, 0, 0, 0), some (.ifCond .lt 7, 3, 40, 0, 0, 0), none, none,
  some (.iconst 1, 1, 0, 0, 0, 1), some (.goto 4, 3, 41, 0, 0, 0), none, none, some (.iconst 0, 1, 0, 0, 0, 0), some (.iadd, 1, 0, 0, 0, 0),
  some (.istore_n 2, 1, 2, 0, 0, 0), some (.iinc 3 1, 3, 3, 0, 0, 1), none, none, some (.goto (-27), 3, 19, 0, 0, 0), none,
  none, some (.iload_n 2, 1, 2, 0, 0, 0), some (.ireturn, 1, 0, 0, 0, 0)
  ])
def mi_X12_isProof : am_MI := (yX12_isProof, cX12_isProof, 2, (some FieldType.boolean), [
  some (.iload_n 1, 1, 1, 0, 0, 0), some (.iconst 0, 1, 0, 0, 0, 0), some (.aload_n 0, 1, 0, 0, 0, 0), some (.getfield 7, 3, 12, 0, 0, 0), none, none,
  some (.iconst 4, 1, 0, 0, 0, 4), some (.iaload, 1, 0, 0, 0, 0), some (.iconst 1, 1, 0, 0, 0, 1), some (.isub, 1, 0, 0, 0, 0), some (.invokestatic 34, 3, 120, 3, 0, 0), none,
  none, some (.ireturn, 1, 0, 0, 0, 0)
  ])
def mi_X12_stepAt : am_MI := (yX12_stepAt, cX12_stepAt, 2, (some FieldType.int), [
  some (.sipush 138, 3, 0, 0, 0, 138), none, none, some (.bipush 72, 2, 0, 0, 0, 72), none, some (.iload_n 0, 1, 0, 0, 0, 0),
  some (.imul, 1, 0, 0, 0, 0), some (.iadd, 1, 0, 0, 0, 0), some (.bipush 6, 2, 0, 0, 0, 6), none, some (.iload_n 1, 1, 1, 0, 0, 0), some (.imul, 1, 0, 0, 0, 0),
  some (.iadd, 1, 0, 0, 0, 0), some (.ireturn, 1, 0, 0, 0, 0)
  ])
def mi_X12_proof : am_MI := (yX12_proof, cX12_proof, 2, (some FieldType.int), [
  some (.iload_n 1, 1, 1, 0, 0, 0), some (.iconst 0, 1, 0, 0, 0, 0), some (.iconst 4, 1, 0, 0, 0, 4), some (.invokestatic 34, 3, 120, 3, 0, 0), none, none,
  some (.ifCond .ne 5, 3, 11, 0, 0, 0), none, none, some (.iconst (-1), 1, 0, 0, 0, -1), some (.ireturn, 1, 0, 0, 0, 0), some (.aload_n 0, 1, 0, 0, 0, 0),
  some (.getfield 7, 3, 12, 0, 0, 0), none, none, some (.iconst 4, 1, 0, 0, 0, 4), some (.iaload, 1, 0, 0, 0, 0), some (.bipush 12, 2, 0, 0, 0, 12),
  none, some (.if_icmp .ne 6, 3, 25, 0, 0, 0), none, none, some (.bipush (-4), 2, 0, 0, 0, -4), none,
  some (.ireturn, 1, 0, 0, 0, 0), some (.aload_n 0, 1, 0, 0, 0, 0), some (.getfield 7, 3, 12, 0, 0, 0), none, none, some (.bipush 114, 2, 0, 0, 0, 114),
  none, some (.aload_n 0, 1, 0, 0, 0, 0), some (.getfield 7, 3, 12, 0, 0, 0), none, none, some (.iconst 4, 1, 0, 0, 0, 4),
  some (.iaload, 1, 0, 0, 0, 0), some (.iadd, 1, 0, 0, 0, 0), some (.iload_n 1, 1, 1, 0, 0, 0), some (.iastore, 1, 0, 0, 0, 0), some (.aload_n 0, 1, 0, 0, 0, 0), some (.getfield 7, 3, 12, 0, 0, 0),
  none, none, some (.bipush 126, 2, 0, 0, 0, 126), none, some (.aload_n 0, 1, 0, 0, 0, 0), some (.getfield 7, 3, 12, 0, 0, 0),
  none, none, some (.iconst 4, 1, 0, 0, 0, 4), some (.iaload, 1, 0, 0, 0, 0), some (.iadd, 1, 0, 0, 0, 0), some (.iconst 0, 1, 0, 0, 0, 0),
  some (.iastore, 1, 0, 0, 0, 0), some (.aload_n 0, 1, 0, 0, 0, 0), some (.getfield 7, 3, 12, 0, 0, 0), none, none, some (.iconst 4, 1, 0, 0, 0, 4),
  some (.dup2, 1, 0, 0, 0, 0), some (.iaload, 1, 0, 0, 0, 0), some (.iconst 1, 1, 0, 0, 0, 1), some (.iadd, 1, 0, 0, 0, 0), some (.iastore, 1, 0, 0, 0, 0), some (.aload_n 0, 1, 0, 0, 0, 0),
  some (.getfield 7, 3, 12, 0, 0, 0), none, none, some (.iconst 4, 1, 0, 0, 0, 4), some (.iaload, 1, 0, 0, 0, 0), some (.iconst 1, 1, 0, 0, 0, 1),
  some (.isub, 1, 0, 0, 0, 0), some (.ireturn, 1, 0, 0, 0, 0)
  ])
def mi_X12_isUsed : am_MI := (yX12_isUsed, cX12_isUsed, 5, (some FieldType.boolean), [
  some (.iconst 0, 1, 0, 0, 0, 0), some (.istore_n 2, 1, 2, 0, 0, 0), some (.iload_n 2, 1, 2, 0, 0, 0), some (.aload_n 0, 1, 0, 0, 0, 0), some (.getfield 7, 3, 12, 0, 0, 0), none,
  none, some (.iconst 5, 1, 0, 0, 0, 5), some (.iaload, 1, 0, 0, 0, 0), some (.if_icmp .ge 25, 3, 34, 0, 0, 0), none, none,
  some (.aload_n 0, 1, 0, 0, 0, 0), some (.getfield 7, 3, 12, 0, 0, 0), none, none, some (.sipush 1002, 3, 0, 0, 0, 1002), none,
  none, some (.iload_n 2, 1, 2, 0, 0, 0), some (.iadd, 1, 0, 0, 0, 0), some (.iaload, 1, 0, 0, 0, 0), some (.iload_n 1, 1, 1, 0, 0, 0), some (.if_icmp .ne 5, 3, 28, 0, 0, 0),
  none, none, some (.iconst 1, 1, 0, 0, 0, 1), some (.ireturn, 1, 0, 0, 0, 0), some (.iinc 2 1, 3, 2, 0, 0, 1), none,
  none, some (.goto (-29), 3, 2, 0, 0, 0), none, none, some (.iload_n 1, 1, 1, 0, 0, 0), some (.iconst 1, 1, 0, 0, 0, 1),
  some (.iadd, 1, 0, 0, 0, 0), some (.istore_n 2, 1, 2, 0, 0, 0), some (.iload_n 2, 1, 2, 0, 0, 0), some (.aload_n 0, 1, 0, 0, 0, 0), some (.getfield 7, 3, 12, 0, 0, 0), none,
  none, some (.iconst 4, 1, 0, 0, 0, 4), some (.iaload, 1, 0, 0, 0, 0), some (.if_icmp .ge 89, 3, 134, 0, 0, 0), none, none,
  some (.iconst 0, 1, 0, 0, 0, 0), some (.istore_n 3, 1, 3, 0, 0, 0), some (.iload_n 3, 1, 3, 0, 0, 0), some (.aload_n 0, 1, 0, 0, 0, 0), some (.getfield 7, 3, 12, 0, 0, 0), none,
  none, some (.bipush 126, 2, 0, 0, 0, 126), none, some (.iload_n 2, 1, 2, 0, 0, 0), some (.iadd, 1, 0, 0, 0, 0), some (.iaload, 1, 0, 0, 0, 0),
  some (.if_icmp .ge 68, 3, 128, 0, 0, 0), none, none, some (.aload_n 0, 1, 0, 0, 0, 0), some (.iload_n 2, 1, 2, 0, 0, 0), some (.invokevirtual 130, 3, 172, 1, 0, 12),
  none, none, some (.ifCond .eq 60, 3, 128, 0, 0, 0), none, none, some (.iconst 0, 1, 0, 0, 0, 0),
  some (.istore 4, 2, 4, 0, 0, 0), none, some (.iload 4, 2, 4, 0, 0, 0), none, some (.aload_n 0, 1, 0, 0, 0, 0), some (.getfield 7, 3, 12, 0, 0, 0),
  none, none, some (.iload_n 2, 1, 2, 0, 0, 0), some (.iload_n 3, 1, 3, 0, 0, 0), some (.invokestatic 133, 3, 158, 2, 0, 0), none,
  none, some (.iconst 2, 1, 0, 0, 0, 2), some (.iadd, 1, 0, 0, 0, 0), some (.iaload, 1, 0, 0, 0, 0), some (.if_icmp .ge 34, 3, 122, 0, 0, 0), none,
  none, some (.aload_n 0, 1, 0, 0, 0, 0), some (.getfield 7, 3, 12, 0, 0, 0), none, none, some (.iload_n 2, 1, 2, 0, 0, 0),
  some (.iload_n 3, 1, 3, 0, 0, 0), some (.invokestatic 133, 3, 158, 2, 0, 0), none, none, some (.iconst 3, 1, 0, 0, 0, 3), some (.iadd, 1, 0, 0, 0, 0),
  some (.iload 4, 2, 4, 0, 0, 0), none, some (.iadd, 1, 0, 0, 0, 0), some (.iaload, 1, 0, 0, 0, 0), some (.sipush 200, 3, 0, 0, 0, 200), none,
  none, some (.iload_n 1, 1, 1, 0, 0, 0), some (.iadd, 1, 0, 0, 0, 0), some (.if_icmp .ne 5, 3, 116, 0, 0, 0), none, none,
  some (.iconst 1, 1, 0, 0, 0, 1), some (.ireturn, 1, 0, 0, 0, 0), some (.iinc 4 1, 3, 4, 0, 0, 1), none, none, some (.goto (-45), 3, 74, 0, 0, 0),
  none, none, some (.iinc 3 1, 3, 3, 0, 0, 1), none, none, some (.goto (-75), 3, 50, 0, 0, 0),
  none, none, some (.iinc 2 1, 3, 2, 0, 0, 1), none, none, some (.goto (-93), 3, 38, 0, 0, 0),
  none, none, some (.iconst 0, 1, 0, 0, 0, 0), some (.ireturn, 1, 0, 0, 0, 0)
  ])
def mi_X12_step : am_MI := (yX12_step, cX12_step, 9, (some FieldType.int), [
  some (.aload_n 0, 1, 0, 0, 0, 0), some (.iload_n 1, 1, 1, 0, 0, 0), some (.invokevirtual 136, 3, 157, 1, 0, 12), none, none, some (.ifCond .eq 11, 3, 16, 0, 0, 0),
  none, none, some (.aload_n 0, 1, 0, 0, 0, 0), some (.iload_n 2, 1, 2, 0, 0, 0), some (.invokevirtual 82, 3, 136, 1, 0, 12), none,
  none, some (.ifCond .ne 5, 3, 18, 0, 0, 0), none, none, some (.iconst (-1), 1, 0, 0, 0, -1), some (.ireturn, 1, 0, 0, 0, 0),
  some (.iload_n 3, 1, 3, 0, 0, 0), some (.iconst 0, 1, 0, 0, 0, 0), some (.sipush 624, 3, 0, 0, 0, 624), none, none, some (.invokestatic 34, 3, 120, 3, 0, 0),
  none, none, some (.ifCond .eq 13, 3, 39, 0, 0, 0), none, none, some (.iload 4, 2, 4, 0, 0, 0),
  none, some (.iconst 1, 1, 0, 0, 0, 1), some (.iconst 3, 1, 0, 0, 0, 3), some (.invokestatic 34, 3, 120, 3, 0, 0), none, none,
  some (.ifCond .ne 6, 3, 42, 0, 0, 0), none, none, some (.bipush (-2), 2, 0, 0, 0, -2), none, some (.ireturn, 1, 0, 0, 0, 0),
  some (.aload_n 0, 1, 0, 0, 0, 0), some (.iload_n 1, 1, 1, 0, 0, 0), some (.invokevirtual 139, 3, 160, 1, 0, 12), none, none, some (.ifCond .eq 6, 3, 53, 0, 0, 0),
  none, none, some (.bipush (-3), 2, 0, 0, 0, -3), none, some (.ireturn, 1, 0, 0, 0, 0), some (.aload_n 0, 1, 0, 0, 0, 0),
  some (.getfield 7, 3, 12, 0, 0, 0), none, none, some (.bipush 126, 2, 0, 0, 0, 126), none, some (.iload_n 1, 1, 1, 0, 0, 0),
  some (.iadd, 1, 0, 0, 0, 0), some (.iaload, 1, 0, 0, 0, 0), some (.bipush 12, 2, 0, 0, 0, 12), none, some (.if_icmp .ne 6, 3, 70, 0, 0, 0), none,
  none, some (.bipush (-4), 2, 0, 0, 0, -4), none, some (.ireturn, 1, 0, 0, 0, 0), some (.iload_n 1, 1, 1, 0, 0, 0), some (.aload_n 0, 1, 0, 0, 0, 0),
  some (.getfield 7, 3, 12, 0, 0, 0), none, none, some (.bipush 126, 2, 0, 0, 0, 126), none, some (.iload_n 1, 1, 1, 0, 0, 0),
  some (.iadd, 1, 0, 0, 0, 0), some (.iaload, 1, 0, 0, 0, 0), some (.invokestatic 133, 3, 158, 2, 0, 0), none, none, some (.istore 8, 2, 8, 0, 0, 0),
  none, some (.aload_n 0, 1, 0, 0, 0, 0), some (.getfield 7, 3, 12, 0, 0, 0), none, none, some (.iload 8, 2, 8, 0, 0, 0),
  none, some (.iload_n 2, 1, 2, 0, 0, 0), some (.iastore, 1, 0, 0, 0, 0), some (.aload_n 0, 1, 0, 0, 0, 0), some (.getfield 7, 3, 12, 0, 0, 0), none,
  none, some (.iload 8, 2, 8, 0, 0, 0), none, some (.iconst 1, 1, 0, 0, 0, 1), some (.iadd, 1, 0, 0, 0, 0), some (.iload_n 3, 1, 3, 0, 0, 0),
  some (.iastore, 1, 0, 0, 0, 0), some (.aload_n 0, 1, 0, 0, 0, 0), some (.getfield 7, 3, 12, 0, 0, 0), none, none, some (.iload 8, 2, 8, 0, 0, 0),
  none, some (.iconst 2, 1, 0, 0, 0, 2), some (.iadd, 1, 0, 0, 0, 0), some (.iload 4, 2, 4, 0, 0, 0), none, some (.iastore, 1, 0, 0, 0, 0),
  some (.aload_n 0, 1, 0, 0, 0, 0), some (.getfield 7, 3, 12, 0, 0, 0), none, none, some (.iload 8, 2, 8, 0, 0, 0), none,
  some (.iconst 3, 1, 0, 0, 0, 3), some (.iadd, 1, 0, 0, 0, 0), some (.iload 5, 2, 5, 0, 0, 0), none, some (.iastore, 1, 0, 0, 0, 0), some (.aload_n 0, 1, 0, 0, 0, 0),
  some (.getfield 7, 3, 12, 0, 0, 0), none, none, some (.iload 8, 2, 8, 0, 0, 0), none, some (.iconst 4, 1, 0, 0, 0, 4),
  some (.iadd, 1, 0, 0, 0, 0), some (.iload 6, 2, 6, 0, 0, 0), none, some (.iastore, 1, 0, 0, 0, 0), some (.aload_n 0, 1, 0, 0, 0, 0), some (.getfield 7, 3, 12, 0, 0, 0),
  none, none, some (.iload 8, 2, 8, 0, 0, 0), none, some (.iconst 5, 1, 0, 0, 0, 5), some (.iadd, 1, 0, 0, 0, 0),
  some (.iload 7, 2, 7, 0, 0, 0), none, some (.iastore, 1, 0, 0, 0, 0), some (.aload_n 0, 1, 0, 0, 0, 0), some (.getfield 7, 3, 12, 0, 0, 0), none,
  none, some (.bipush 126, 2, 0, 0, 0, 126), none, some (.iload_n 1, 1, 1, 0, 0, 0), some (.iadd, 1, 0, 0, 0, 0), some (.dup2, 1, 0, 0, 0, 0),
  some (.iaload, 1, 0, 0, 0, 0), some (.iconst 1, 1, 0, 0, 0, 1), some (.iadd, 1, 0, 0, 0, 0), some (.iastore, 1, 0, 0, 0, 0), some (.aload_n 0, 1, 0, 0, 0, 0), some (.getfield 7, 3, 12, 0, 0, 0),
  none, none, some (.bipush 126, 2, 0, 0, 0, 126), none, some (.iload_n 1, 1, 1, 0, 0, 0), some (.iadd, 1, 0, 0, 0, 0),
  some (.iaload, 1, 0, 0, 0, 0), some (.iconst 1, 1, 0, 0, 0, 1), some (.isub, 1, 0, 0, 0, 0), some (.ireturn, 1, 0, 0, 0, 0)
  ])
def mi_X12_saysOn : am_MI := (yX12_saysOn, cX12_saysOn, 5, (some FieldType.int), [
  some (.iload_n 1, 1, 1, 0, 0, 0), some (.iload_n 2, 1, 2, 0, 0, 0), some (.invokestatic 133, 3, 158, 2, 0, 0), none, none, some (.istore 4, 2, 4, 0, 0, 0),
  none, some (.aload_n 0, 1, 0, 0, 0, 0), some (.aload_n 0, 1, 0, 0, 0, 0), some (.getfield 7, 3, 12, 0, 0, 0), none, none,
  some (.iload 4, 2, 4, 0, 0, 0), none, some (.iconst 1, 1, 0, 0, 0, 1), some (.iadd, 1, 0, 0, 0, 0), some (.iaload, 1, 0, 0, 0, 0), some (.invokevirtual 111, 3, 145, 1, 0, 12),
  none, none, some (.aload_n 0, 1, 0, 0, 0, 0), some (.aload_n 0, 1, 0, 0, 0, 0), some (.aload_n 0, 1, 0, 0, 0, 0), some (.getfield 7, 3, 12, 0, 0, 0),
  none, none, some (.iload 4, 2, 4, 0, 0, 0), none, some (.iaload, 1, 0, 0, 0, 0), some (.iload_n 3, 1, 3, 0, 0, 0),
  some (.invokevirtual 92, 3, 139, 2, 0, 12), none, none, some (.bipush 26, 2, 0, 0, 0, 26), none, some (.iadd, 1, 0, 0, 0, 0),
  some (.invokevirtual 104, 3, 147, 1, 0, 12), none, none, some (.ireturn, 1, 0, 0, 0, 0)
  ])
def mi_X12_termOn : am_MI := (yX12_termOn, cX12_termOn, 6, (some FieldType.int), [
  some (.iload_n 1, 1, 1, 0, 0, 0), some (.iload_n 2, 1, 2, 0, 0, 0), some (.invokestatic 133, 3, 158, 2, 0, 0), none, none, some (.istore 5, 2, 5, 0, 0, 0),
  none, some (.aload_n 0, 1, 0, 0, 0, 0), some (.aload_n 0, 1, 0, 0, 0, 0), some (.getfield 7, 3, 12, 0, 0, 0), none, none,
  some (.iload 5, 2, 5, 0, 0, 0), none, some (.iconst 1, 1, 0, 0, 0, 1), some (.iadd, 1, 0, 0, 0, 0), some (.iaload, 1, 0, 0, 0, 0), some (.invokevirtual 111, 3, 145, 1, 0, 12),
  none, none, some (.aload_n 0, 1, 0, 0, 0, 0), some (.aload_n 0, 1, 0, 0, 0, 0), some (.aload_n 0, 1, 0, 0, 0, 0), some (.getfield 7, 3, 12, 0, 0, 0),
  none, none, some (.iload 5, 2, 5, 0, 0, 0), none, some (.iaload, 1, 0, 0, 0, 0), some (.iload 4, 2, 4, 0, 0, 0),
  none, some (.invokevirtual 92, 3, 139, 2, 0, 12), none, none, some (.iconst 2, 1, 0, 0, 0, 2), some (.iadd, 1, 0, 0, 0, 0),
  some (.iconst 4, 1, 0, 0, 0, 4), some (.iload_n 3, 1, 3, 0, 0, 0), some (.imul, 1, 0, 0, 0, 0), some (.iadd, 1, 0, 0, 0, 0), some (.invokevirtual 104, 3, 147, 1, 0, 12), none,
  none, some (.ireturn, 1, 0, 0, 0, 0)
  ])
def mi_X12_isFrom : am_MI := (yX12_isFrom, cX12_isFrom, 9, (some FieldType.boolean), [
  some (.aload_n 0, 1, 0, 0, 0, 0), some (.getfield 7, 3, 12, 0, 0, 0), none, none, some (.iload_n 1, 1, 1, 0, 0, 0), some (.iload_n 2, 1, 2, 0, 0, 0),
  some (.invokestatic 133, 3, 158, 2, 0, 0), none, none, some (.iconst 3, 1, 0, 0, 0, 3), some (.iadd, 1, 0, 0, 0, 0), some (.iload_n 3, 1, 3, 0, 0, 0),
  some (.iadd, 1, 0, 0, 0, 0), some (.iaload, 1, 0, 0, 0, 0), some (.istore 5, 2, 5, 0, 0, 0), none, some (.aload_n 0, 1, 0, 0, 0, 0), some (.iload_n 1, 1, 1, 0, 0, 0),
  some (.iload_n 2, 1, 2, 0, 0, 0), some (.iload_n 3, 1, 3, 0, 0, 0), some (.iload 4, 2, 4, 0, 0, 0), none, some (.invokevirtual 142, 3, 163, 4, 0, 12), none,
  none, some (.istore 6, 2, 6, 0, 0, 0), none, some (.aload_n 0, 1, 0, 0, 0, 0), some (.getfield 7, 3, 12, 0, 0, 0), none,
  none, some (.bipush 114, 2, 0, 0, 0, 114), none, some (.iload_n 1, 1, 1, 0, 0, 0), some (.iadd, 1, 0, 0, 0, 0), some (.iaload, 1, 0, 0, 0, 0),
  some (.istore 7, 2, 7, 0, 0, 0), none, some (.iload 5, 2, 5, 0, 0, 0), none, some (.sipush 300, 3, 0, 0, 0, 300), none,
  none, some (.if_icmp .ne 21, 3, 64, 0, 0, 0), none, none, some (.iload 7, 2, 7, 0, 0, 0), none,
  some (.iconst 1, 1, 0, 0, 0, 1), some (.if_icmp .eq 9, 3, 58, 0, 0, 0), none, none, some (.iload 7, 2, 7, 0, 0, 0), none,
  some (.iconst 4, 1, 0, 0, 0, 4), some (.if_icmp .ne 7, 3, 62, 0, 0, 0), none, none, some (.iconst 1, 1, 0, 0, 0, 1), some (.goto 4, 3, 63, 0, 0, 0),
  none, none, some (.iconst 0, 1, 0, 0, 0, 0), some (.ireturn, 1, 0, 0, 0, 0), some (.aload_n 0, 1, 0, 0, 0, 0), some (.iload 5, 2, 5, 0, 0, 0),
  none, some (.invokevirtual 98, 3, 142, 1, 0, 12), none, none, some (.ifCond .eq 44, 3, 114, 0, 0, 0), none,
  none, some (.iload 5, 2, 5, 0, 0, 0), none, some (.bipush 20, 2, 0, 0, 0, 20), none, some (.if_icmp .ge 37, 3, 114, 0, 0, 0),
  none, none, some (.aload_n 0, 1, 0, 0, 0, 0), some (.getfield 7, 3, 12, 0, 0, 0), none, none,
  some (.bipush 94, 2, 0, 0, 0, 94), none, some (.iload 5, 2, 5, 0, 0, 0), none, some (.iadd, 1, 0, 0, 0, 0), some (.iaload, 1, 0, 0, 0, 0),
  some (.ifCond .ne 22, 3, 112, 0, 0, 0), none, none, some (.aload_n 0, 1, 0, 0, 0, 0), some (.getfield 7, 3, 12, 0, 0, 0), none,
  none, some (.bipush 54, 2, 0, 0, 0, 54), none, some (.iload 5, 2, 5, 0, 0, 0), none, some (.iadd, 1, 0, 0, 0, 0),
  some (.iaload, 1, 0, 0, 0, 0), some (.iload 6, 2, 6, 0, 0, 0), none, some (.if_icmp .ne 7, 3, 112, 0, 0, 0), none, none,
  some (.iconst 1, 1, 0, 0, 0, 1), some (.goto 4, 3, 113, 0, 0, 0), none, none, some (.iconst 0, 1, 0, 0, 0, 0), some (.ireturn, 1, 0, 0, 0, 0),
  some (.iload 5, 2, 5, 0, 0, 0), none, some (.bipush 100, 2, 0, 0, 0, 100), none, some (.bipush 100, 2, 0, 0, 0, 100), none,
  some (.iload_n 2, 1, 2, 0, 0, 0), some (.iadd, 1, 0, 0, 0, 0), some (.iconst 1, 1, 0, 0, 0, 1), some (.isub, 1, 0, 0, 0, 0), some (.invokestatic 34, 3, 120, 3, 0, 0), none,
  none, some (.ifCond .eq 41, 3, 168, 0, 0, 0), none, none, some (.aload_n 0, 1, 0, 0, 0, 0), some (.iload_n 1, 1, 1, 0, 0, 0),
  some (.iload 5, 2, 5, 0, 0, 0), none, some (.bipush 100, 2, 0, 0, 0, 100), none, some (.isub, 1, 0, 0, 0, 0), some (.iload 4, 2, 4, 0, 0, 0),
  none, some (.invokevirtual 146, 3, 162, 3, 0, 12), none, none, some (.iload 6, 2, 6, 0, 0, 0), none,
  some (.if_icmp .ne 22, 3, 166, 0, 0, 0), none, none, some (.aload_n 0, 1, 0, 0, 0, 0), some (.iload_n 1, 1, 1, 0, 0, 0), some (.iload 5, 2, 5, 0, 0, 0),
  none, some (.bipush 100, 2, 0, 0, 0, 100), none, some (.isub, 1, 0, 0, 0, 0), some (.iload 4, 2, 4, 0, 0, 0), none,
  some (.invokevirtual 150, 3, 165, 3, 0, 12), none, none, some (.ifCond .ne 7, 3, 166, 0, 0, 0), none, none,
  some (.iconst 1, 1, 0, 0, 0, 1), some (.goto 4, 3, 167, 0, 0, 0), none, none, some (.iconst 0, 1, 0, 0, 0, 0), some (.ireturn, 1, 0, 0, 0, 0),
  some (.iload 5, 2, 5, 0, 0, 0), none, some (.sipush 200, 3, 0, 0, 0, 200), none, none, some (.sipush 200, 3, 0, 0, 0, 200),
  none, none, some (.iload_n 1, 1, 1, 0, 0, 0), some (.iadd, 1, 0, 0, 0, 0), some (.iconst 1, 1, 0, 0, 0, 1), some (.isub, 1, 0, 0, 0, 0),
  some (.invokestatic 34, 3, 120, 3, 0, 0), none, none, some (.ifCond .eq 65, 3, 248, 0, 0, 0), none, none,
  some (.iload 7, 2, 7, 0, 0, 0), none, some (.iconst 2, 1, 0, 0, 0, 2), some (.if_icmp .eq 9, 3, 198, 0, 0, 0), none, none,
  some (.iload 7, 2, 7, 0, 0, 0), none, some (.iconst 3, 1, 0, 0, 0, 3), some (.if_icmp .ne 53, 3, 248, 0, 0, 0), none, none,
  some (.iload 5, 2, 5, 0, 0, 0), none, some (.sipush 200, 3, 0, 0, 0, 200), none, none, some (.isub, 1, 0, 0, 0, 0),
  some (.istore 8, 2, 8, 0, 0, 0), none, some (.aload_n 0, 1, 0, 0, 0, 0), some (.iload 8, 2, 8, 0, 0, 0), none, some (.iload 4, 2, 4, 0, 0, 0),
  none, some (.invokevirtual 153, 3, 167, 2, 0, 12), none, none, some (.ifCond .eq 32, 3, 246, 0, 0, 0), none,
  none, some (.aload_n 0, 1, 0, 0, 0, 0), some (.iload 8, 2, 8, 0, 0, 0), none, some (.aload_n 0, 1, 0, 0, 0, 0), some (.getfield 7, 3, 12, 0, 0, 0),
  none, none, some (.bipush 126, 2, 0, 0, 0, 126), none, some (.iload 8, 2, 8, 0, 0, 0), none,
  some (.iadd, 1, 0, 0, 0, 0), some (.iaload, 1, 0, 0, 0, 0), some (.iconst 1, 1, 0, 0, 0, 1), some (.isub, 1, 0, 0, 0, 0), some (.iload 4, 2, 4, 0, 0, 0), none,
  some (.invokevirtual 146, 3, 162, 3, 0, 12), none, none, some (.iload 6, 2, 6, 0, 0, 0), none, some (.if_icmp .ne 7, 3, 246, 0, 0, 0),
  none, none, some (.iconst 1, 1, 0, 0, 0, 1), some (.goto 4, 3, 247, 0, 0, 0), none, none,
  some (.iconst 0, 1, 0, 0, 0, 0), some (.ireturn, 1, 0, 0, 0, 0), some (.iconst 0, 1, 0, 0, 0, 0), some (.ireturn, 1, 0, 0, 0, 0)
  ])
def mi_X12_lacksOn : am_MI := (yX12_lacksOn, cX12_lacksOn, 7, (some FieldType.int), [
  some (.iload_n 1, 1, 1, 0, 0, 0), some (.iload_n 2, 1, 2, 0, 0, 0), some (.invokestatic 133, 3, 158, 2, 0, 0), none, none, some (.istore 4, 2, 4, 0, 0, 0),
  none, some (.aload_n 0, 1, 0, 0, 0, 0), some (.aload_n 0, 1, 0, 0, 0, 0), some (.getfield 7, 3, 12, 0, 0, 0), none, none,
  some (.iload 4, 2, 4, 0, 0, 0), none, some (.iaload, 1, 0, 0, 0, 0), some (.iload_n 3, 1, 3, 0, 0, 0), some (.invokevirtual 92, 3, 139, 2, 0, 12), none,
  none, some (.istore 5, 2, 5, 0, 0, 0), none, some (.aload_n 0, 1, 0, 0, 0, 0), some (.getfield 7, 3, 12, 0, 0, 0), none,
  none, some (.iload 5, 2, 5, 0, 0, 0), none, some (.iaload, 1, 0, 0, 0, 0), some (.aload_n 0, 1, 0, 0, 0, 0), some (.getfield 7, 3, 12, 0, 0, 0),
  none, none, some (.iload 4, 2, 4, 0, 0, 0), none, some (.iconst 2, 1, 0, 0, 0, 2), some (.iadd, 1, 0, 0, 0, 0),
  some (.iaload, 1, 0, 0, 0, 0), some (.if_icmp .eq 5, 3, 42, 0, 0, 0), none, none, some (.iconst 1, 1, 0, 0, 0, 1), some (.ireturn, 1, 0, 0, 0, 0),
  some (.aload_n 0, 1, 0, 0, 0, 0), some (.aload_n 0, 1, 0, 0, 0, 0), some (.getfield 7, 3, 12, 0, 0, 0), none, none, some (.iload 4, 2, 4, 0, 0, 0),
  none, some (.iconst 1, 1, 0, 0, 0, 1), some (.iadd, 1, 0, 0, 0, 0), some (.iaload, 1, 0, 0, 0, 0), some (.invokevirtual 111, 3, 145, 1, 0, 12), none,
  none, some (.aload_n 0, 1, 0, 0, 0, 0), some (.iload 5, 2, 5, 0, 0, 0), none, some (.invokevirtual 121, 3, 148, 1, 0, 12), none,
  none, some (.ifCond .ne 5, 3, 66, 0, 0, 0), none, none, some (.iconst 2, 1, 0, 0, 0, 2), some (.ireturn, 1, 0, 0, 0, 0),
  some (.iconst 0, 1, 0, 0, 0, 0), some (.istore 6, 2, 6, 0, 0, 0), none, some (.iload 6, 2, 6, 0, 0, 0), none, some (.aload_n 0, 1, 0, 0, 0, 0),
  some (.getfield 7, 3, 12, 0, 0, 0), none, none, some (.iload 4, 2, 4, 0, 0, 0), none, some (.iconst 2, 1, 0, 0, 0, 2),
  some (.iadd, 1, 0, 0, 0, 0), some (.iaload, 1, 0, 0, 0, 0), some (.if_icmp .ge 27, 3, 107, 0, 0, 0), none, none, some (.aload_n 0, 1, 0, 0, 0, 0),
  some (.iload_n 1, 1, 1, 0, 0, 0), some (.iload_n 2, 1, 2, 0, 0, 0), some (.iload 6, 2, 6, 0, 0, 0), none, some (.iload_n 3, 1, 3, 0, 0, 0), some (.invokevirtual 156, 3, 164, 4, 0, 12),
  none, none, some (.ifCond .ne 9, 3, 101, 0, 0, 0), none, none, some (.bipush 10, 2, 0, 0, 0, 10),
  none, some (.iload 6, 2, 6, 0, 0, 0), none, some (.iadd, 1, 0, 0, 0, 0), some (.ireturn, 1, 0, 0, 0, 0), some (.iinc 6 1, 3, 6, 0, 0, 1),
  none, none, some (.goto (-35), 3, 69, 0, 0, 0), none, none, some (.iconst 0, 1, 0, 0, 0, 0),
  some (.ireturn, 1, 0, 0, 0, 0)
  ])
def mi_X12_holesOf : am_MI := (yX12_holesOf, cX12_holesOf, 7, (some FieldType.int), [
  some (.aload_n 0, 1, 0, 0, 0, 0), some (.getfield 7, 3, 12, 0, 0, 0), none, none, some (.bipush 114, 2, 0, 0, 0, 114), none,
  some (.iload_n 1, 1, 1, 0, 0, 0), some (.iadd, 1, 0, 0, 0, 0), some (.iaload, 1, 0, 0, 0, 0), some (.iconst 1, 1, 0, 0, 0, 1), some (.if_icmp .eq 16, 3, 26, 0, 0, 0), none,
  none, some (.aload_n 0, 1, 0, 0, 0, 0), some (.getfield 7, 3, 12, 0, 0, 0), none, none, some (.bipush 114, 2, 0, 0, 0, 114),
  none, some (.iload_n 1, 1, 1, 0, 0, 0), some (.iadd, 1, 0, 0, 0, 0), some (.iaload, 1, 0, 0, 0, 0), some (.iconst 4, 1, 0, 0, 0, 4), some (.if_icmp .ne 7, 3, 30, 0, 0, 0),
  none, none, some (.iconst 1, 1, 0, 0, 0, 1), some (.goto 4, 3, 31, 0, 0, 0), none, none,
  some (.iconst 0, 1, 0, 0, 0, 0), some (.istore_n 3, 1, 3, 0, 0, 0), some (.iconst 0, 1, 0, 0, 0, 0), some (.istore 4, 2, 4, 0, 0, 0), none, some (.iconst 0, 1, 0, 0, 0, 0),
  some (.istore 5, 2, 5, 0, 0, 0), none, some (.iload 5, 2, 5, 0, 0, 0), none, some (.aload_n 0, 1, 0, 0, 0, 0), some (.getfield 7, 3, 12, 0, 0, 0),
  none, none, some (.bipush 126, 2, 0, 0, 0, 126), none, some (.iload_n 1, 1, 1, 0, 0, 0), some (.iadd, 1, 0, 0, 0, 0),
  some (.iaload, 1, 0, 0, 0, 0), some (.if_icmp .ge 80, 3, 129, 0, 0, 0), none, none, some (.iload_n 3, 1, 3, 0, 0, 0), some (.ifCond .eq 76, 3, 129, 0, 0, 0),
  none, none, some (.iconst 0, 1, 0, 0, 0, 0), some (.istore 6, 2, 6, 0, 0, 0), none, some (.iload 6, 2, 6, 0, 0, 0),
  none, some (.aload_n 0, 1, 0, 0, 0, 0), some (.getfield 7, 3, 12, 0, 0, 0), none, none, some (.iload_n 1, 1, 1, 0, 0, 0),
  some (.iload 5, 2, 5, 0, 0, 0), none, some (.invokestatic 133, 3, 158, 2, 0, 0), none, none, some (.iconst 2, 1, 0, 0, 0, 2),
  some (.iadd, 1, 0, 0, 0, 0), some (.iaload, 1, 0, 0, 0, 0), some (.if_icmp .ge 49, 3, 123, 0, 0, 0), none, none, some (.aload_n 0, 1, 0, 0, 0, 0),
  some (.getfield 7, 3, 12, 0, 0, 0), none, none, some (.iload_n 1, 1, 1, 0, 0, 0), some (.iload 5, 2, 5, 0, 0, 0), none,
  some (.invokestatic 133, 3, 158, 2, 0, 0), none, none, some (.iconst 3, 1, 0, 0, 0, 3), some (.iadd, 1, 0, 0, 0, 0), some (.iload 6, 2, 6, 0, 0, 0),
  none, some (.iadd, 1, 0, 0, 0, 0), some (.iaload, 1, 0, 0, 0, 0), some (.sipush 300, 3, 0, 0, 0, 300), none, none,
  some (.if_icmp .ne 21, 3, 117, 0, 0, 0), none, none, some (.iload 4, 2, 4, 0, 0, 0), none, some (.iload_n 2, 1, 2, 0, 0, 0),
  some (.if_icmp .ne 12, 3, 114, 0, 0, 0), none, none, some (.bipush 10, 2, 0, 0, 0, 10), none, some (.iload 5, 2, 5, 0, 0, 0),
  none, some (.imul, 1, 0, 0, 0, 0), some (.iload 6, 2, 6, 0, 0, 0), none, some (.iadd, 1, 0, 0, 0, 0), some (.ireturn, 1, 0, 0, 0, 0),
  some (.iinc 4 1, 3, 4, 0, 0, 1), none, none, some (.iinc 6 1, 3, 6, 0, 0, 1), none, none,
  some (.goto (-61), 3, 59, 0, 0, 0), none, none, some (.iinc 5 1, 3, 5, 0, 0, 1), none, none,
  some (.goto (-88), 3, 38, 0, 0, 0), none, none, some (.iload_n 2, 1, 2, 0, 0, 0), some (.iconst (-1), 1, 0, 0, 0, -1), some (.if_icmp .ne 8, 3, 139, 0, 0, 0),
  none, none, some (.iload 4, 2, 4, 0, 0, 0), none, some (.goto 4, 3, 140, 0, 0, 0), none,
  none, some (.iconst (-1), 1, 0, 0, 0, -1), some (.ireturn, 1, 0, 0, 0, 0)
  ])
def mi_X12_isTaken : am_MI := (yX12_isTaken, cX12_isTaken, 4, (some FieldType.boolean), [
  some (.aload_n 0, 1, 0, 0, 0, 0), some (.getfield 7, 3, 12, 0, 0, 0), none, none, some (.bipush 126, 2, 0, 0, 0, 126), none,
  some (.iload_n 1, 1, 1, 0, 0, 0), some (.iadd, 1, 0, 0, 0, 0), some (.iaload, 1, 0, 0, 0, 0), some (.ifCond .eq 25, 3, 34, 0, 0, 0), none, none,
  some (.aload_n 0, 1, 0, 0, 0, 0), some (.getfield 7, 3, 12, 0, 0, 0), none, none, some (.bipush 114, 2, 0, 0, 0, 114), none,
  some (.iload_n 1, 1, 1, 0, 0, 0), some (.iadd, 1, 0, 0, 0, 0), some (.iaload, 1, 0, 0, 0, 0), some (.iconst 4, 1, 0, 0, 0, 4), some (.if_icmp .eq 14, 3, 36, 0, 0, 0), none,
  none, some (.aload_n 0, 1, 0, 0, 0, 0), some (.iload_n 1, 1, 1, 0, 0, 0), some (.iconst (-1), 1, 0, 0, 0, -1), some (.invokevirtual 160, 3, 166, 2, 0, 12), none,
  none, some (.ifCond .le 5, 3, 36, 0, 0, 0), none, none, some (.iconst 0, 1, 0, 0, 0, 0), some (.ireturn, 1, 0, 0, 0, 0),
  some (.iconst 0, 1, 0, 0, 0, 0), some (.istore_n 3, 1, 3, 0, 0, 0), some (.iload_n 3, 1, 3, 0, 0, 0), some (.aload_n 0, 1, 0, 0, 0, 0), some (.getfield 7, 3, 12, 0, 0, 0), none,
  none, some (.bipush 126, 2, 0, 0, 0, 126), none, some (.iload_n 1, 1, 1, 0, 0, 0), some (.iadd, 1, 0, 0, 0, 0), some (.iaload, 1, 0, 0, 0, 0),
  some (.if_icmp .ge 21, 3, 69, 0, 0, 0), none, none, some (.aload_n 0, 1, 0, 0, 0, 0), some (.iload_n 1, 1, 1, 0, 0, 0), some (.iload_n 3, 1, 3, 0, 0, 0),
  some (.iload_n 2, 1, 2, 0, 0, 0), some (.invokevirtual 150, 3, 165, 3, 0, 12), none, none, some (.ifCond .eq 5, 3, 63, 0, 0, 0), none,
  none, some (.iconst 0, 1, 0, 0, 0, 0), some (.ireturn, 1, 0, 0, 0, 0), some (.iinc 3 1, 3, 3, 0, 0, 1), none, none,
  some (.goto (-28), 3, 38, 0, 0, 0), none, none, some (.iconst 1, 1, 0, 0, 0, 1), some (.ireturn, 1, 0, 0, 0, 0)
  ])
def mi_X12_isStep : am_MI := (yX12_isStep, cX12_isStep, 3, (some FieldType.boolean), [
  some (.aload_n 0, 1, 0, 0, 0, 0), some (.iload_n 1, 1, 1, 0, 0, 0), some (.invokevirtual 136, 3, 157, 1, 0, 12), none, none, some (.ifCond .eq 26, 3, 31, 0, 0, 0),
  none, none, some (.iload_n 2, 1, 2, 0, 0, 0), some (.iconst 0, 1, 0, 0, 0, 0), some (.aload_n 0, 1, 0, 0, 0, 0), some (.getfield 7, 3, 12, 0, 0, 0),
  none, none, some (.bipush 126, 2, 0, 0, 0, 126), none, some (.iload_n 1, 1, 1, 0, 0, 0), some (.iadd, 1, 0, 0, 0, 0),
  some (.iaload, 1, 0, 0, 0, 0), some (.iconst 1, 1, 0, 0, 0, 1), some (.isub, 1, 0, 0, 0, 0), some (.invokestatic 34, 3, 120, 3, 0, 0), none, none,
  some (.ifCond .eq 7, 3, 31, 0, 0, 0), none, none, some (.iconst 1, 1, 0, 0, 0, 1), some (.goto 4, 3, 32, 0, 0, 0), none,
  none, some (.iconst 0, 1, 0, 0, 0, 0), some (.ireturn, 1, 0, 0, 0, 0)
  ])
def mi_X12_lacks : am_MI := (yX12_lacks, cX12_lacks, 4, (some FieldType.int), [
  some (.aload_n 0, 1, 0, 0, 0, 0), some (.iload_n 1, 1, 1, 0, 0, 0), some (.iload_n 2, 1, 2, 0, 0, 0), some (.invokevirtual 163, 3, 168, 2, 0, 12), none, none,
  some (.ifCond .ne 7, 3, 13, 0, 0, 0), none, none, some (.iconst (-1), 1, 0, 0, 0, -1), some (.goto 22, 3, 32, 0, 0, 0), none,
  none, some (.iload_n 3, 1, 3, 0, 0, 0), some (.invokestatic 89, 3, 121, 1, 0, 0), none, none, some (.ifCond .eq 13, 3, 30, 0, 0, 0),
  none, none, some (.aload_n 0, 1, 0, 0, 0, 0), some (.iload_n 1, 1, 1, 0, 0, 0), some (.iload_n 2, 1, 2, 0, 0, 0), some (.iload_n 3, 1, 3, 0, 0, 0),
  some (.invokevirtual 150, 3, 165, 3, 0, 12), none, none, some (.goto 5, 3, 32, 0, 0, 0), none, none,
  some (.bipush (-2), 2, 0, 0, 0, -2), none, some (.ireturn, 1, 0, 0, 0, 0)
  ])
def mi_X12_says : am_MI := (yX12_says, cX12_says, 5, (some FieldType.int), [
  some (.aload_n 0, 1, 0, 0, 0, 0), some (.iload_n 1, 1, 1, 0, 0, 0), some (.invokevirtual 136, 3, 157, 1, 0, 12), none, none, some (.ifCond .eq 17, 3, 22, 0, 0, 0),
  none, none, some (.iload_n 2, 1, 2, 0, 0, 0), some (.iconst (-1), 1, 0, 0, 0, -1), some (.if_icmp .eq 14, 3, 24, 0, 0, 0), none,
  none, some (.aload_n 0, 1, 0, 0, 0, 0), some (.iload_n 1, 1, 1, 0, 0, 0), some (.iload_n 2, 1, 2, 0, 0, 0), some (.invokevirtual 163, 3, 168, 2, 0, 12), none,
  none, some (.ifCond .ne 5, 3, 24, 0, 0, 0), none, none, some (.iconst (-1), 1, 0, 0, 0, -1), some (.ireturn, 1, 0, 0, 0, 0),
  some (.iload_n 3, 1, 3, 0, 0, 0), some (.invokestatic 89, 3, 121, 1, 0, 0), none, none, some (.ifCond .ne 6, 3, 34, 0, 0, 0), none,
  none, some (.bipush (-2), 2, 0, 0, 0, -2), none, some (.ireturn, 1, 0, 0, 0, 0), some (.iload_n 2, 1, 2, 0, 0, 0), some (.iconst (-1), 1, 0, 0, 0, -1),
  some (.if_icmp .ne 17, 3, 53, 0, 0, 0), none, none, some (.aload_n 0, 1, 0, 0, 0, 0), some (.getfield 7, 3, 12, 0, 0, 0), none,
  none, some (.bipush 126, 2, 0, 0, 0, 126), none, some (.iload_n 1, 1, 1, 0, 0, 0), some (.iadd, 1, 0, 0, 0, 0), some (.iaload, 1, 0, 0, 0, 0),
  some (.iconst 1, 1, 0, 0, 0, 1), some (.isub, 1, 0, 0, 0, 0), some (.goto 4, 3, 54, 0, 0, 0), none, none, some (.iload_n 2, 1, 2, 0, 0, 0),
  some (.istore 4, 2, 4, 0, 0, 0), none, some (.iload 4, 2, 4, 0, 0, 0), none, some (.ifCond .ge 8, 3, 66, 0, 0, 0), none,
  none, some (.bipush (-5), 2, 0, 0, 0, -5), none, some (.goto 11, 3, 74, 0, 0, 0), none, none,
  some (.aload_n 0, 1, 0, 0, 0, 0), some (.iload_n 1, 1, 1, 0, 0, 0), some (.iload 4, 2, 4, 0, 0, 0), none, some (.iload_n 3, 1, 3, 0, 0, 0), some (.invokevirtual 146, 3, 162, 3, 0, 12),
  none, none, some (.ireturn, 1, 0, 0, 0, 0)
  ])
def mi_X12_check : am_MI := (yX12_check, cX12_check, 3, (some FieldType.int), [
  some (.aload_n 0, 1, 0, 0, 0, 0), some (.iload_n 1, 1, 1, 0, 0, 0), some (.invokevirtual 136, 3, 157, 1, 0, 12), none, none, some (.ifCond .ne 7, 3, 12, 0, 0, 0),
  none, none, some (.iconst (-1), 1, 0, 0, 0, -1), some (.goto 29, 3, 38, 0, 0, 0), none, none,
  some (.iload_n 2, 1, 2, 0, 0, 0), some (.invokestatic 89, 3, 121, 1, 0, 0), none, none, some (.ifCond .ne 8, 3, 24, 0, 0, 0), none,
  none, some (.bipush (-2), 2, 0, 0, 0, -2), none, some (.goto 17, 3, 38, 0, 0, 0), none, none,
  some (.aload_n 0, 1, 0, 0, 0, 0), some (.iload_n 1, 1, 1, 0, 0, 0), some (.iload_n 2, 1, 2, 0, 0, 0), some (.invokevirtual 153, 3, 167, 2, 0, 12), none, none,
  some (.ifCond .eq 7, 3, 37, 0, 0, 0), none, none, some (.iconst 1, 1, 0, 0, 0, 1), some (.goto 4, 3, 38, 0, 0, 0), none,
  none, some (.iconst 0, 1, 0, 0, 0, 0), some (.ireturn, 1, 0, 0, 0, 0)
  ])
def mi_X12_usesEnds : am_MI := (yX12_usesEnds, cX12_usesEnds, 2, (some FieldType.boolean), [
  some (.aload_n 0, 1, 0, 0, 0, 0), some (.getfield 7, 3, 12, 0, 0, 0), none, none, some (.bipush 114, 2, 0, 0, 0, 114), none,
  some (.iload_n 1, 1, 1, 0, 0, 0), some (.iadd, 1, 0, 0, 0, 0), some (.iaload, 1, 0, 0, 0, 0), some (.iconst 2, 1, 0, 0, 0, 2), some (.if_icmp .eq 16, 3, 26, 0, 0, 0), none,
  none, some (.aload_n 0, 1, 0, 0, 0, 0), some (.getfield 7, 3, 12, 0, 0, 0), none, none, some (.bipush 114, 2, 0, 0, 0, 114),
  none, some (.iload_n 1, 1, 1, 0, 0, 0), some (.iadd, 1, 0, 0, 0, 0), some (.iaload, 1, 0, 0, 0, 0), some (.iconst 3, 1, 0, 0, 0, 3), some (.if_icmp .ne 7, 3, 30, 0, 0, 0),
  none, none, some (.iconst 1, 1, 0, 0, 0, 1), some (.goto 4, 3, 31, 0, 0, 0), none, none,
  some (.iconst 0, 1, 0, 0, 0, 0), some (.ireturn, 1, 0, 0, 0, 0)
  ])
def mi_X12_leansOf : am_MI := (yX12_leansOf, cX12_leansOf, 6, (some FieldType.int), [
  some (.iconst 0, 1, 0, 0, 0, 0), some (.istore_n 2, 1, 2, 0, 0, 0), some (.iconst 0, 1, 0, 0, 0, 0), some (.istore_n 3, 1, 3, 0, 0, 0), some (.iload_n 3, 1, 3, 0, 0, 0), some (.aload_n 0, 1, 0, 0, 0, 0),
  some (.getfield 7, 3, 12, 0, 0, 0), none, none, some (.bipush 126, 2, 0, 0, 0, 126), none, some (.iload_n 1, 1, 1, 0, 0, 0),
  some (.iadd, 1, 0, 0, 0, 0), some (.iaload, 1, 0, 0, 0, 0), some (.if_icmp .ge 111, 3, 125, 0, 0, 0), none, none, some (.iconst 0, 1, 0, 0, 0, 0),
  some (.istore 4, 2, 4, 0, 0, 0), none, some (.iload 4, 2, 4, 0, 0, 0), none, some (.aload_n 0, 1, 0, 0, 0, 0), some (.getfield 7, 3, 12, 0, 0, 0),
  none, none, some (.iload_n 1, 1, 1, 0, 0, 0), some (.iload_n 3, 1, 3, 0, 0, 0), some (.invokestatic 133, 3, 158, 2, 0, 0), none,
  none, some (.iconst 2, 1, 0, 0, 0, 2), some (.iadd, 1, 0, 0, 0, 0), some (.iaload, 1, 0, 0, 0, 0), some (.if_icmp .ge 85, 3, 119, 0, 0, 0), none,
  none, some (.aload_n 0, 1, 0, 0, 0, 0), some (.getfield 7, 3, 12, 0, 0, 0), none, none, some (.iload_n 1, 1, 1, 0, 0, 0),
  some (.iload_n 3, 1, 3, 0, 0, 0), some (.invokestatic 133, 3, 158, 2, 0, 0), none, none, some (.iconst 3, 1, 0, 0, 0, 3), some (.iadd, 1, 0, 0, 0, 0),
  some (.iload 4, 2, 4, 0, 0, 0), none, some (.iadd, 1, 0, 0, 0, 0), some (.iaload, 1, 0, 0, 0, 0), some (.istore 5, 2, 5, 0, 0, 0), none,
  some (.iload_n 2, 1, 2, 0, 0, 0), some (.aload_n 0, 1, 0, 0, 0, 0), some (.iload 5, 2, 5, 0, 0, 0), none, some (.invokevirtual 98, 3, 142, 1, 0, 12), none,
  none, some (.ifCond .eq 10, 3, 71, 0, 0, 0), none, none, some (.iconst 1, 1, 0, 0, 0, 1), some (.iload 5, 2, 5, 0, 0, 0),
  none, some (.ishl, 1, 0, 0, 0, 0), some (.goto 43, 3, 111, 0, 0, 0), none, none, some (.iload 5, 2, 5, 0, 0, 0),
  none, some (.sipush 200, 3, 0, 0, 0, 200), none, none, some (.sipush 200, 3, 0, 0, 0, 200), none,
  none, some (.iload_n 1, 1, 1, 0, 0, 0), some (.iadd, 1, 0, 0, 0, 0), some (.iconst 1, 1, 0, 0, 0, 1), some (.isub, 1, 0, 0, 0, 0), some (.invokestatic 34, 3, 120, 3, 0, 0),
  none, none, some (.ifCond .eq 24, 3, 110, 0, 0, 0), none, none, some (.aload_n 0, 1, 0, 0, 0, 0),
  some (.iload_n 1, 1, 1, 0, 0, 0), some (.invokevirtual 130, 3, 172, 1, 0, 12), none, none, some (.ifCond .eq 16, 3, 110, 0, 0, 0), none,
  none, some (.aload_n 0, 1, 0, 0, 0, 0), some (.iload 5, 2, 5, 0, 0, 0), none, some (.sipush 200, 3, 0, 0, 0, 200), none,
  none, some (.isub, 1, 0, 0, 0, 0), some (.invokevirtual 166, 3, 173, 1, 0, 12), none, none, some (.goto 4, 3, 111, 0, 0, 0),
  none, none, some (.iconst 0, 1, 0, 0, 0, 0), some (.ior, 1, 0, 0, 0, 0), some (.istore_n 2, 1, 2, 0, 0, 0), some (.iinc 4 1, 3, 4, 0, 0, 1),
  none, none, some (.goto (-96), 3, 20, 0, 0, 0), none, none, some (.iinc 3 1, 3, 3, 0, 0, 1),
  none, none, some (.goto (-118), 3, 4, 0, 0, 0), none, none, some (.iload_n 2, 1, 2, 0, 0, 0),
  some (.ireturn, 1, 0, 0, 0, 0)
  ])
def mi_X12_leans : am_MI := (yX12_leans, cX12_leans, 2, (some FieldType.int), [
  some (.aload_n 0, 1, 0, 0, 0, 0), some (.iload_n 1, 1, 1, 0, 0, 0), some (.invokevirtual 136, 3, 157, 1, 0, 12), none, none, some (.ifCond .eq 11, 3, 16, 0, 0, 0),
  none, none, some (.aload_n 0, 1, 0, 0, 0, 0), some (.iload_n 1, 1, 1, 0, 0, 0), some (.invokevirtual 166, 3, 173, 1, 0, 12), none,
  none, some (.goto 4, 3, 17, 0, 0, 0), none, none, some (.iconst (-1), 1, 0, 0, 0, -1), some (.ireturn, 1, 0, 0, 0, 0)
  ])
def mi_X12_hole : am_MI := (yX12_hole, cX12_hole, 3, (some FieldType.int), [
  some (.aload_n 0, 1, 0, 0, 0, 0), some (.iload_n 1, 1, 1, 0, 0, 0), some (.invokevirtual 136, 3, 157, 1, 0, 12), none, none, some (.ifCond .eq 12, 3, 17, 0, 0, 0),
  none, none, some (.aload_n 0, 1, 0, 0, 0, 0), some (.iload_n 1, 1, 1, 0, 0, 0), some (.iload_n 2, 1, 2, 0, 0, 0), some (.invokevirtual 160, 3, 166, 2, 0, 12),
  none, none, some (.goto 4, 3, 18, 0, 0, 0), none, none, some (.iconst (-1), 1, 0, 0, 0, -1),
  some (.ireturn, 1, 0, 0, 0, 0)
  ])
def mi_X12_fill : am_MI := (yX12_fill, cX12_fill, 10, (some FieldType.int), [
  some (.aload_n 0, 1, 0, 0, 0, 0), some (.iload_n 1, 1, 1, 0, 0, 0), some (.invokevirtual 136, 3, 157, 1, 0, 12), none, none, some (.ifCond .ne 5, 3, 10, 0, 0, 0),
  none, none, some (.iconst (-1), 1, 0, 0, 0, -1), some (.ireturn, 1, 0, 0, 0, 0), some (.aload_n 0, 1, 0, 0, 0, 0), some (.iload_n 1, 1, 1, 0, 0, 0),
  some (.iconst 0, 1, 0, 0, 0, 0), some (.invokevirtual 160, 3, 166, 2, 0, 12), none, none, some (.istore_n 3, 1, 3, 0, 0, 0), some (.iload_n 3, 1, 3, 0, 0, 0),
  some (.iconst (-1), 1, 0, 0, 0, -1), some (.if_icmp .ne 6, 3, 25, 0, 0, 0), none, none, some (.bipush (-3), 2, 0, 0, 0, -3), none,
  some (.ireturn, 1, 0, 0, 0, 0), some (.iload_n 3, 1, 3, 0, 0, 0), some (.bipush 10, 2, 0, 0, 0, 10), none, some (.idiv, 1, 0, 0, 0, 0), some (.istore 4, 2, 4, 0, 0, 0),
  none, some (.iload_n 3, 1, 3, 0, 0, 0), some (.bipush 10, 2, 0, 0, 0, 10), none, some (.irem, 1, 0, 0, 0, 0), some (.istore 5, 2, 5, 0, 0, 0),
  none, some (.iload_n 1, 1, 1, 0, 0, 0), some (.iload 4, 2, 4, 0, 0, 0), none, some (.invokestatic 133, 3, 158, 2, 0, 0), none,
  none, some (.istore 6, 2, 6, 0, 0, 0), none, some (.iload 5, 2, 5, 0, 0, 0), none, some (.aload_n 0, 1, 0, 0, 0, 0),
  some (.getfield 7, 3, 12, 0, 0, 0), none, none, some (.aload_n 0, 1, 0, 0, 0, 0), some (.aload_n 0, 1, 0, 0, 0, 0), some (.getfield 7, 3, 12, 0, 0, 0),
  none, none, some (.iload 6, 2, 6, 0, 0, 0), none, some (.iaload, 1, 0, 0, 0, 0), some (.aload_n 0, 1, 0, 0, 0, 0),
  some (.getfield 7, 3, 12, 0, 0, 0), none, none, some (.iconst 0, 1, 0, 0, 0, 0), some (.iaload, 1, 0, 0, 0, 0), some (.invokevirtual 92, 3, 139, 2, 0, 12),
  none, none, some (.iaload, 1, 0, 0, 0, 0), some (.if_icmp .lt 6, 3, 75, 0, 0, 0), none, none,
  some (.bipush (-3), 2, 0, 0, 0, -3), none, some (.ireturn, 1, 0, 0, 0, 0), some (.aload_n 0, 1, 0, 0, 0, 0), some (.iload_n 1, 1, 1, 0, 0, 0), some (.iload 4, 2, 4, 0, 0, 0),
  none, some (.iload 5, 2, 5, 0, 0, 0), none, some (.aload_n 0, 1, 0, 0, 0, 0), some (.getfield 7, 3, 12, 0, 0, 0), none,
  none, some (.iconst 0, 1, 0, 0, 0, 0), some (.iaload, 1, 0, 0, 0, 0), some (.invokevirtual 142, 3, 163, 4, 0, 12), none, none,
  some (.istore 7, 2, 7, 0, 0, 0), none, some (.aload_n 0, 1, 0, 0, 0, 0), some (.iload_n 2, 1, 2, 0, 0, 0), some (.invokevirtual 98, 3, 142, 1, 0, 12), none,
  none, some (.ifCond .eq 57, 3, 154, 0, 0, 0), none, none, some (.aload_n 0, 1, 0, 0, 0, 0), some (.getfield 7, 3, 12, 0, 0, 0),
  none, none, some (.bipush 94, 2, 0, 0, 0, 94), none, some (.aload_n 0, 1, 0, 0, 0, 0), some (.iload_n 2, 1, 2, 0, 0, 0),
  some (.invokevirtual 98, 3, 142, 1, 0, 12), none, none, some (.ifCond .eq 7, 3, 118, 0, 0, 0), none, none,
  some (.iload_n 2, 1, 2, 0, 0, 0), some (.goto 4, 3, 119, 0, 0, 0), none, none, some (.iconst 0, 1, 0, 0, 0, 0), some (.iadd, 1, 0, 0, 0, 0),
  some (.iaload, 1, 0, 0, 0, 0), some (.ifCond .ne 33, 3, 154, 0, 0, 0), none, none, some (.aload_n 0, 1, 0, 0, 0, 0), some (.getfield 7, 3, 12, 0, 0, 0),
  none, none, some (.bipush 54, 2, 0, 0, 0, 54), none, some (.aload_n 0, 1, 0, 0, 0, 0), some (.iload_n 2, 1, 2, 0, 0, 0),
  some (.invokevirtual 98, 3, 142, 1, 0, 12), none, none, some (.ifCond .eq 7, 3, 142, 0, 0, 0), none, none,
  some (.iload_n 2, 1, 2, 0, 0, 0), some (.goto 4, 3, 143, 0, 0, 0), none, none, some (.iconst 0, 1, 0, 0, 0, 0), some (.iadd, 1, 0, 0, 0, 0),
  some (.iaload, 1, 0, 0, 0, 0), some (.iload 7, 2, 7, 0, 0, 0), none, some (.if_icmp .ne 7, 3, 154, 0, 0, 0), none, none,
  some (.iconst 1, 1, 0, 0, 0, 1), some (.goto 4, 3, 155, 0, 0, 0), none, none, some (.iconst 0, 1, 0, 0, 0, 0), some (.istore 8, 2, 8, 0, 0, 0),
  none, some (.iload_n 2, 1, 2, 0, 0, 0), some (.bipush 100, 2, 0, 0, 0, 100), none, some (.bipush 100, 2, 0, 0, 0, 100), none,
  some (.iload 4, 2, 4, 0, 0, 0), none, some (.iadd, 1, 0, 0, 0, 0), some (.iconst 1, 1, 0, 0, 0, 1), some (.isub, 1, 0, 0, 0, 0), some (.invokestatic 34, 3, 120, 3, 0, 0),
  none, none, some (.ifCond .eq 47, 3, 217, 0, 0, 0), none, none, some (.aload_n 0, 1, 0, 0, 0, 0),
  some (.iload_n 1, 1, 1, 0, 0, 0), some (.iload_n 2, 1, 2, 0, 0, 0), some (.bipush 100, 2, 0, 0, 0, 100), none, some (.bipush 100, 2, 0, 0, 0, 100), none,
  some (.iload 4, 2, 4, 0, 0, 0), none, some (.iadd, 1, 0, 0, 0, 0), some (.iconst 1, 1, 0, 0, 0, 1), some (.isub, 1, 0, 0, 0, 0), some (.invokestatic 34, 3, 120, 3, 0, 0),
  none, none, some (.ifCond .eq 10, 3, 198, 0, 0, 0), none, none, some (.iload_n 2, 1, 2, 0, 0, 0),
  some (.bipush 100, 2, 0, 0, 0, 100), none, some (.isub, 1, 0, 0, 0, 0), some (.goto 4, 3, 199, 0, 0, 0), none, none,
  some (.iconst 0, 1, 0, 0, 0, 0), some (.aload_n 0, 1, 0, 0, 0, 0), some (.getfield 7, 3, 12, 0, 0, 0), none, none, some (.iconst 0, 1, 0, 0, 0, 0),
  some (.iaload, 1, 0, 0, 0, 0), some (.invokevirtual 146, 3, 162, 3, 0, 12), none, none, some (.iload 7, 2, 7, 0, 0, 0), none,
  some (.if_icmp .ne 7, 3, 217, 0, 0, 0), none, none, some (.iconst 1, 1, 0, 0, 0, 1), some (.goto 4, 3, 218, 0, 0, 0), none,
  none, some (.iconst 0, 1, 0, 0, 0, 0), some (.istore 9, 2, 9, 0, 0, 0), none, some (.iload 8, 2, 8, 0, 0, 0), none,
  some (.ifCond .ne 11, 3, 233, 0, 0, 0), none, none, some (.iload 9, 2, 9, 0, 0, 0), none, some (.ifCond .ne 6, 3, 233, 0, 0, 0),
  none, none, some (.bipush (-3), 2, 0, 0, 0, -3), none, some (.ireturn, 1, 0, 0, 0, 0), some (.aload_n 0, 1, 0, 0, 0, 0),
  some (.getfield 7, 3, 12, 0, 0, 0), none, none, some (.iload 6, 2, 6, 0, 0, 0), none, some (.iconst 3, 1, 0, 0, 0, 3),
  some (.iadd, 1, 0, 0, 0, 0), some (.iload 5, 2, 5, 0, 0, 0), none, some (.iadd, 1, 0, 0, 0, 0), some (.iload_n 2, 1, 2, 0, 0, 0), some (.iastore, 1, 0, 0, 0, 0),
  some (.aload_n 0, 1, 0, 0, 0, 0), some (.iload_n 1, 1, 1, 0, 0, 0), some (.iconst (-1), 1, 0, 0, 0, -1), some (.invokevirtual 160, 3, 166, 2, 0, 12), none, none,
  some (.ireturn, 1, 0, 0, 0, 0)
  ])
def mi_X12_aboveOf : am_MI := (yX12_aboveOf, cX12_aboveOf, 1, (some FieldType.int), [
  some (.iload_n 0, 1, 0, 0, 0, 0), some (.iconst 4, 1, 0, 0, 0, 4), some (.if_icmp .ne 7, 3, 9, 0, 0, 0), none, none, some (.iconst 1, 1, 0, 0, 0, 1),
  some (.goto 4, 3, 10, 0, 0, 0), none, none, some (.iconst 0, 1, 0, 0, 0, 0), some (.ireturn, 1, 0, 0, 0, 0)
  ])
def mi_X12_leansFrom : am_MI := (yX12_leansFrom, cX12_leansFrom, 4, (some FieldType.int), [
  some (.iload_n 2, 1, 2, 0, 0, 0), some (.lookupswitch 49 #[(0, 27), (1, 39)], 27, 0, 0, 0, 0), none, none, none, none,
  none, none, none, none, none, none,
  none, none, none, none, none, none,
  none, none, none, none, none, none,
  none, none, none, none, some (.iload_n 3, 1, 3, 0, 0, 0), some (.aload_n 0, 1, 0, 0, 0, 0),
  some (.getfield 7, 3, 12, 0, 0, 0), none, none, some (.bipush 126, 2, 0, 0, 0, 126), none, some (.iload_n 1, 1, 1, 0, 0, 0),
  some (.iadd, 1, 0, 0, 0, 0), some (.iaload, 1, 0, 0, 0, 0), some (.iadd, 1, 0, 0, 0, 0), some (.ireturn, 1, 0, 0, 0, 0), some (.aload_n 0, 1, 0, 0, 0, 0), some (.iload_n 1, 1, 1, 0, 0, 0),
  some (.iconst 0, 1, 0, 0, 0, 0), some (.iload_n 3, 1, 3, 0, 0, 0), some (.iconst 2, 1, 0, 0, 0, 2), some (.imul, 1, 0, 0, 0, 0), some (.invokevirtual 169, 3, 178, 3, 0, 12), none,
  none, some (.ireturn, 1, 0, 0, 0, 0), some (.aload_n 0, 1, 0, 0, 0, 0), some (.iload_n 1, 1, 1, 0, 0, 0), some (.iload_n 2, 1, 2, 0, 0, 0), some (.invokestatic 172, 3, 177, 1, 0, 0),
  none, none, some (.iload_n 3, 1, 3, 0, 0, 0), some (.invokevirtual 169, 3, 178, 3, 0, 12), none, none,
  some (.ireturn, 1, 0, 0, 0, 0)
  ])
def mi_X12_showsFrom : am_MI := (yX12_showsFrom, cX12_showsFrom, 4, (some FieldType.int), [
  some (.iload_n 2, 1, 2, 0, 0, 0), some (.tableswitch 73 0 4 #[35, 73, 53, 73, 63], 35, 0, 0, 0, 0), none, none, none, none,
  none, none, none, none, none, none,
  none, none, none, none, none, none,
  none, none, none, none, none, none,
  none, none, none, none, none, none,
  none, none, none, none, none, none,
  some (.aload_n 0, 1, 0, 0, 0, 0), some (.iload_n 1, 1, 1, 0, 0, 0), some (.aload_n 0, 1, 0, 0, 0, 0), some (.getfield 7, 3, 12, 0, 0, 0), none, none,
  some (.bipush 114, 2, 0, 0, 0, 114), none, some (.iload_n 1, 1, 1, 0, 0, 0), some (.iadd, 1, 0, 0, 0, 0), some (.iaload, 1, 0, 0, 0, 0), some (.iload_n 3, 1, 3, 0, 0, 0),
  some (.invokevirtual 169, 3, 178, 3, 0, 12), none, none, some (.iload_n 1, 1, 1, 0, 0, 0), some (.isub, 1, 0, 0, 0, 0), some (.ireturn, 1, 0, 0, 0, 0),
  some (.aload_n 0, 1, 0, 0, 0, 0), some (.iload_n 1, 1, 1, 0, 0, 0), some (.iconst 0, 1, 0, 0, 0, 0), some (.iload_n 3, 1, 3, 0, 0, 0), some (.invokevirtual 175, 3, 179, 3, 0, 12), none,
  none, some (.iconst 5, 1, 0, 0, 0, 5), some (.ixor, 1, 0, 0, 0, 0), some (.ireturn, 1, 0, 0, 0, 0), some (.aload_n 0, 1, 0, 0, 0, 0), some (.iload_n 1, 1, 1, 0, 0, 0),
  some (.iconst 1, 1, 0, 0, 0, 1), some (.iload_n 3, 1, 3, 0, 0, 0), some (.iconst 1, 1, 0, 0, 0, 1), some (.iadd, 1, 0, 0, 0, 0), some (.invokevirtual 175, 3, 179, 3, 0, 12), none,
  none, some (.ireturn, 1, 0, 0, 0, 0), some (.aload_n 0, 1, 0, 0, 0, 0), some (.iload_n 1, 1, 1, 0, 0, 0), some (.iload_n 2, 1, 2, 0, 0, 0), some (.invokestatic 172, 3, 177, 1, 0, 0),
  none, none, some (.iload_n 3, 1, 3, 0, 0, 0), some (.invokevirtual 175, 3, 179, 3, 0, 12), none, none,
  some (.ireturn, 1, 0, 0, 0, 0)
  ])
def mi_X12_endsFrom : am_MI := (yX12_endsFrom, cX12_endsFrom, 4, (some FieldType.int), [
  some (.iload_n 2, 1, 2, 0, 0, 0), some (.tableswitch 86 0 4 #[35, 86, 86, 53, 62], 35, 0, 0, 0, 0), none, none, none, none,
  none, none, none, none, none, none,
  none, none, none, none, none, none,
  none, none, none, none, none, none,
  none, none, none, none, none, none,
  none, none, none, none, none, none,
  some (.aload_n 0, 1, 0, 0, 0, 0), some (.iload_n 1, 1, 1, 0, 0, 0), some (.aload_n 0, 1, 0, 0, 0, 0), some (.getfield 7, 3, 12, 0, 0, 0), none, none,
  some (.bipush 114, 2, 0, 0, 0, 114), none, some (.iload_n 1, 1, 1, 0, 0, 0), some (.iadd, 1, 0, 0, 0, 0), some (.iaload, 1, 0, 0, 0, 0), some (.iload_n 3, 1, 3, 0, 0, 0),
  some (.invokevirtual 175, 3, 179, 3, 0, 12), none, none, some (.iconst 2, 1, 0, 0, 0, 2), some (.imul, 1, 0, 0, 0, 0), some (.ireturn, 1, 0, 0, 0, 0),
  some (.aload_n 0, 1, 0, 0, 0, 0), some (.iload_n 1, 1, 1, 0, 0, 0), some (.iconst 0, 1, 0, 0, 0, 0), some (.iload_n 3, 1, 3, 0, 0, 0), some (.invokevirtual 178, 3, 180, 3, 0, 12), none,
  none, some (.ineg, 1, 0, 0, 0, 0), some (.ireturn, 1, 0, 0, 0, 0), some (.aload_n 0, 1, 0, 0, 0, 0), some (.iload_n 1, 1, 1, 0, 0, 0), some (.iconst 1, 1, 0, 0, 0, 1),
  some (.iload_n 3, 1, 3, 0, 0, 0), some (.invokevirtual 178, 3, 180, 3, 0, 12), none, none, some (.aload_n 0, 1, 0, 0, 0, 0), some (.iload_n 1, 1, 1, 0, 0, 0),
  some (.aload_n 0, 1, 0, 0, 0, 0), some (.getfield 7, 3, 12, 0, 0, 0), none, none, some (.bipush 114, 2, 0, 0, 0, 114), none,
  some (.iload_n 1, 1, 1, 0, 0, 0), some (.iadd, 1, 0, 0, 0, 0), some (.iaload, 1, 0, 0, 0, 0), some (.iconst 1, 1, 0, 0, 0, 1), some (.invokevirtual 169, 3, 178, 3, 0, 12), none,
  none, some (.iadd, 1, 0, 0, 0, 0), some (.ireturn, 1, 0, 0, 0, 0), some (.aload_n 0, 1, 0, 0, 0, 0), some (.iload_n 1, 1, 1, 0, 0, 0), some (.iload_n 2, 1, 2, 0, 0, 0),
  some (.invokestatic 172, 3, 177, 1, 0, 0), none, none, some (.iload_n 3, 1, 3, 0, 0, 0), some (.invokevirtual 178, 3, 180, 3, 0, 12), none,
  none, some (.ireturn, 1, 0, 0, 0, 0)
  ])
def mi_X12_act : am_MI := (yX12_act, cX12_act, 5, (some FieldType.int), [
  some (.aload_n 0, 1, 0, 0, 0, 0), some (.iload_n 1, 1, 1, 0, 0, 0), some (.invokevirtual 136, 3, 157, 1, 0, 12), none, none, some (.ifCond .eq 12, 3, 17, 0, 0, 0),
  none, none, some (.iload_n 2, 1, 2, 0, 0, 0), some (.iconst 0, 1, 0, 0, 0, 0), some (.iconst 2, 1, 0, 0, 0, 2), some (.invokestatic 34, 3, 120, 3, 0, 0),
  none, none, some (.ifCond .ne 5, 3, 19, 0, 0, 0), none, none, some (.iconst 0, 1, 0, 0, 0, 0),
  some (.ireturn, 1, 0, 0, 0, 0), some (.aload_n 0, 1, 0, 0, 0, 0), some (.getfield 7, 3, 12, 0, 0, 0), none, none, some (.bipush 114, 2, 0, 0, 0, 114),
  none, some (.iload_n 1, 1, 1, 0, 0, 0), some (.iadd, 1, 0, 0, 0, 0), some (.iaload, 1, 0, 0, 0, 0), some (.istore 4, 2, 4, 0, 0, 0), none,
  some (.iload_n 2, 1, 2, 0, 0, 0), some (.ifCond .ne 14, 3, 45, 0, 0, 0), none, none, some (.aload_n 0, 1, 0, 0, 0, 0), some (.iload_n 1, 1, 1, 0, 0, 0),
  some (.iload 4, 2, 4, 0, 0, 0), none, some (.iload_n 3, 1, 3, 0, 0, 0), some (.invokevirtual 169, 3, 178, 3, 0, 12), none, none,
  some (.goto 27, 3, 69, 0, 0, 0), none, none, some (.iload_n 2, 1, 2, 0, 0, 0), some (.iconst 1, 1, 0, 0, 0, 1), some (.if_icmp .ne 14, 3, 61, 0, 0, 0),
  none, none, some (.aload_n 0, 1, 0, 0, 0, 0), some (.iload_n 1, 1, 1, 0, 0, 0), some (.iload 4, 2, 4, 0, 0, 0), none,
  some (.iload_n 3, 1, 3, 0, 0, 0), some (.invokevirtual 175, 3, 179, 3, 0, 12), none, none, some (.goto 11, 3, 69, 0, 0, 0), none,
  none, some (.aload_n 0, 1, 0, 0, 0, 0), some (.iload_n 1, 1, 1, 0, 0, 0), some (.iload 4, 2, 4, 0, 0, 0), none, some (.iload_n 3, 1, 3, 0, 0, 0),
  some (.invokevirtual 178, 3, 180, 3, 0, 12), none, none, some (.ireturn, 1, 0, 0, 0, 0)
  ])
def mi_X12_as : am_MI := (yX12_as, cX12_as, 4, (some FieldType.int), [
  some (.aload_n 0, 1, 0, 0, 0, 0), some (.iload_n 1, 1, 1, 0, 0, 0), some (.invokevirtual 136, 3, 157, 1, 0, 12), none, none, some (.ifCond .eq 12, 3, 17, 0, 0, 0),
  none, none, some (.iload_n 2, 1, 2, 0, 0, 0), some (.iconst 0, 1, 0, 0, 0, 0), some (.iconst 4, 1, 0, 0, 0, 4), some (.invokestatic 34, 3, 120, 3, 0, 0),
  none, none, some (.ifCond .ne 5, 3, 19, 0, 0, 0), none, none, some (.iconst (-1), 1, 0, 0, 0, -1),
  some (.ireturn, 1, 0, 0, 0, 0), some (.aload_n 0, 1, 0, 0, 0, 0), some (.getfield 7, 3, 12, 0, 0, 0), none, none, some (.bipush 114, 2, 0, 0, 0, 114),
  none, some (.iload_n 1, 1, 1, 0, 0, 0), some (.iadd, 1, 0, 0, 0, 0), some (.iaload, 1, 0, 0, 0, 0), some (.istore_n 3, 1, 3, 0, 0, 0), some (.iload_n 2, 1, 2, 0, 0, 0),
  some (.ifCond .eq 18, 3, 48, 0, 0, 0), none, none, some (.iload_n 2, 1, 2, 0, 0, 0), some (.iload_n 3, 1, 3, 0, 0, 0), some (.if_icmp .eq 13, 3, 48, 0, 0, 0),
  none, none, some (.iload_n 2, 1, 2, 0, 0, 0), some (.iconst 1, 1, 0, 0, 0, 1), some (.if_icmp .ne 20, 3, 60, 0, 0, 0), none,
  none, some (.iload_n 3, 1, 3, 0, 0, 0), some (.iconst 4, 1, 0, 0, 0, 4), some (.if_icmp .ne 15, 3, 60, 0, 0, 0), none, none,
  some (.aload_n 0, 1, 0, 0, 0, 0), some (.getfield 7, 3, 12, 0, 0, 0), none, none, some (.bipush 126, 2, 0, 0, 0, 126), none,
  some (.iload_n 1, 1, 1, 0, 0, 0), some (.iadd, 1, 0, 0, 0, 0), some (.iaload, 1, 0, 0, 0, 0), some (.goto 5, 3, 62, 0, 0, 0), none, none,
  some (.bipush (-6), 2, 0, 0, 0, -6), none, some (.ireturn, 1, 0, 0, 0, 0)
  ])
def mi_X12_isTitle : am_MI := (yX12_isTitle, cX12_isTitle, 2, (some FieldType.boolean), [
  some (.iload_n 1, 1, 1, 0, 0, 0), some (.iconst 0, 1, 0, 0, 0, 0), some (.aload_n 0, 1, 0, 0, 0, 0), some (.getfield 7, 3, 12, 0, 0, 0), none, none,
  some (.iconst 5, 1, 0, 0, 0, 5), some (.iaload, 1, 0, 0, 0, 0), some (.iconst 1, 1, 0, 0, 0, 1), some (.isub, 1, 0, 0, 0, 0), some (.invokestatic 34, 3, 120, 3, 0, 0), none,
  none, some (.ireturn, 1, 0, 0, 0, 0)
  ])
def mi_X12_title : am_MI := (yX12_title, cX12_title, 4, (some FieldType.int), [
  some (.aload_n 0, 1, 0, 0, 0, 0), some (.iload_n 1, 1, 1, 0, 0, 0), some (.invokevirtual 136, 3, 157, 1, 0, 12), none, none, some (.ifCond .ne 5, 3, 10, 0, 0, 0),
  none, none, some (.iconst (-1), 1, 0, 0, 0, -1), some (.ireturn, 1, 0, 0, 0, 0), some (.aload_n 0, 1, 0, 0, 0, 0), some (.iload_n 1, 1, 1, 0, 0, 0),
  some (.aload_n 0, 1, 0, 0, 0, 0), some (.getfield 7, 3, 12, 0, 0, 0), none, none, some (.iconst 0, 1, 0, 0, 0, 0), some (.iaload, 1, 0, 0, 0, 0),
  some (.invokevirtual 153, 3, 167, 2, 0, 12), none, none, some (.ifCond .ne 6, 3, 27, 0, 0, 0), none, none,
  some (.bipush (-3), 2, 0, 0, 0, -3), none, some (.ireturn, 1, 0, 0, 0, 0), some (.aload_n 0, 1, 0, 0, 0, 0), some (.iload_n 1, 1, 1, 0, 0, 0), some (.aload_n 0, 1, 0, 0, 0, 0),
  some (.getfield 7, 3, 12, 0, 0, 0), none, none, some (.bipush 126, 2, 0, 0, 0, 126), none, some (.iload_n 1, 1, 1, 0, 0, 0),
  some (.iadd, 1, 0, 0, 0, 0), some (.iaload, 1, 0, 0, 0, 0), some (.iconst 1, 1, 0, 0, 0, 1), some (.isub, 1, 0, 0, 0, 0), some (.aload_n 0, 1, 0, 0, 0, 0), some (.getfield 7, 3, 12, 0, 0, 0),
  none, none, some (.iconst 0, 1, 0, 0, 0, 0), some (.iaload, 1, 0, 0, 0, 0), some (.invokevirtual 146, 3, 162, 3, 0, 12), none,
  none, some (.istore_n 2, 1, 2, 0, 0, 0), some (.iconst 0, 1, 0, 0, 0, 0), some (.istore_n 3, 1, 3, 0, 0, 0), some (.iload_n 3, 1, 3, 0, 0, 0), some (.aload_n 0, 1, 0, 0, 0, 0),
  some (.getfield 7, 3, 12, 0, 0, 0), none, none, some (.iconst 5, 1, 0, 0, 0, 5), some (.iaload, 1, 0, 0, 0, 0), some (.if_icmp .ge 26, 3, 85, 0, 0, 0),
  none, none, some (.aload_n 0, 1, 0, 0, 0, 0), some (.getfield 7, 3, 12, 0, 0, 0), none, none,
  some (.sipush 1022, 3, 0, 0, 0, 1022), none, none, some (.iload_n 3, 1, 3, 0, 0, 0), some (.iadd, 1, 0, 0, 0, 0), some (.iaload, 1, 0, 0, 0, 0),
  some (.iload_n 2, 1, 2, 0, 0, 0), some (.if_icmp .ne 6, 3, 79, 0, 0, 0), none, none, some (.bipush (-3), 2, 0, 0, 0, -3), none,
  some (.ireturn, 1, 0, 0, 0, 0), some (.iinc 3 1, 3, 3, 0, 0, 1), none, none, some (.goto (-30), 3, 52, 0, 0, 0), none,
  none, some (.aload_n 0, 1, 0, 0, 0, 0), some (.getfield 7, 3, 12, 0, 0, 0), none, none, some (.iconst 5, 1, 0, 0, 0, 5),
  some (.iaload, 1, 0, 0, 0, 0), some (.bipush 10, 2, 0, 0, 0, 10), none, some (.if_icmp .ne 6, 3, 99, 0, 0, 0), none, none,
  some (.bipush (-4), 2, 0, 0, 0, -4), none, some (.ireturn, 1, 0, 0, 0, 0), some (.aload_n 0, 1, 0, 0, 0, 0), some (.getfield 7, 3, 12, 0, 0, 0), none,
  none, some (.sipush 1002, 3, 0, 0, 0, 1002), none, none, some (.aload_n 0, 1, 0, 0, 0, 0), some (.getfield 7, 3, 12, 0, 0, 0),
  none, none, some (.iconst 5, 1, 0, 0, 0, 5), some (.iaload, 1, 0, 0, 0, 0), some (.iadd, 1, 0, 0, 0, 0), some (.iload_n 1, 1, 1, 0, 0, 0),
  some (.iastore, 1, 0, 0, 0, 0), some (.aload_n 0, 1, 0, 0, 0, 0), some (.getfield 7, 3, 12, 0, 0, 0), none, none, some (.sipush 1012, 3, 0, 0, 0, 1012),
  none, none, some (.aload_n 0, 1, 0, 0, 0, 0), some (.getfield 7, 3, 12, 0, 0, 0), none, none,
  some (.iconst 5, 1, 0, 0, 0, 5), some (.iaload, 1, 0, 0, 0, 0), some (.iadd, 1, 0, 0, 0, 0), some (.aload_n 0, 1, 0, 0, 0, 0), some (.getfield 7, 3, 12, 0, 0, 0), none,
  none, some (.iconst 0, 1, 0, 0, 0, 0), some (.iaload, 1, 0, 0, 0, 0), some (.iastore, 1, 0, 0, 0, 0), some (.aload_n 0, 1, 0, 0, 0, 0), some (.getfield 7, 3, 12, 0, 0, 0),
  none, none, some (.sipush 1022, 3, 0, 0, 0, 1022), none, none, some (.aload_n 0, 1, 0, 0, 0, 0),
  some (.getfield 7, 3, 12, 0, 0, 0), none, none, some (.iconst 5, 1, 0, 0, 0, 5), some (.iaload, 1, 0, 0, 0, 0), some (.iadd, 1, 0, 0, 0, 0),
  some (.iload_n 2, 1, 2, 0, 0, 0), some (.iastore, 1, 0, 0, 0, 0), some (.aload_n 0, 1, 0, 0, 0, 0), some (.getfield 7, 3, 12, 0, 0, 0), none, none,
  some (.iconst 5, 1, 0, 0, 0, 5), some (.dup2, 1, 0, 0, 0, 0), some (.iaload, 1, 0, 0, 0, 0), some (.iconst 1, 1, 0, 0, 0, 1), some (.iadd, 1, 0, 0, 0, 0), some (.iastore, 1, 0, 0, 0, 0),
  some (.aload_n 0, 1, 0, 0, 0, 0), some (.getfield 7, 3, 12, 0, 0, 0), none, none, some (.iconst 5, 1, 0, 0, 0, 5), some (.iaload, 1, 0, 0, 0, 0),
  some (.iconst 1, 1, 0, 0, 0, 1), some (.isub, 1, 0, 0, 0, 0), some (.ireturn, 1, 0, 0, 0, 0)
  ])
def mi_X12_standsOn : am_MI := (yX12_standsOn, cX12_standsOn, 3, (some FieldType.int), [
  some (.aload_n 0, 1, 0, 0, 0, 0), some (.aload_n 0, 1, 0, 0, 0, 0), some (.getfield 7, 3, 12, 0, 0, 0), none, none, some (.sipush 1002, 3, 0, 0, 0, 1002),
  none, none, some (.iload_n 1, 1, 1, 0, 0, 0), some (.iadd, 1, 0, 0, 0, 0), some (.iaload, 1, 0, 0, 0, 0), some (.aload_n 0, 1, 0, 0, 0, 0),
  some (.getfield 7, 3, 12, 0, 0, 0), none, none, some (.sipush 1012, 3, 0, 0, 0, 1012), none, none,
  some (.iload_n 1, 1, 1, 0, 0, 0), some (.iadd, 1, 0, 0, 0, 0), some (.iaload, 1, 0, 0, 0, 0), some (.invokevirtual 153, 3, 167, 2, 0, 12), none, none,
  some (.ifCond .eq 5, 3, 29, 0, 0, 0), none, none, some (.iconst 1, 1, 0, 0, 0, 1), some (.ireturn, 1, 0, 0, 0, 0), some (.aload_n 0, 1, 0, 0, 0, 0),
  some (.aload_n 0, 1, 0, 0, 0, 0), some (.getfield 7, 3, 12, 0, 0, 0), none, none, some (.sipush 1022, 3, 0, 0, 0, 1022), none,
  none, some (.iload_n 1, 1, 1, 0, 0, 0), some (.iadd, 1, 0, 0, 0, 0), some (.iaload, 1, 0, 0, 0, 0), some (.iload_n 2, 1, 2, 0, 0, 0), some (.invokevirtual 181, 3, 154, 2, 0, 12),
  none, none, some (.ifCond .eq 7, 3, 51, 0, 0, 0), none, none, some (.iconst 2, 1, 0, 0, 0, 2),
  some (.goto 4, 3, 52, 0, 0, 0), none, none, some (.iconst 0, 1, 0, 0, 0, 0), some (.ireturn, 1, 0, 0, 0, 0)
  ])
def mi_X12_stand : am_MI := (yX12_stand, cX12_stand, 3, (some FieldType.int), [
  some (.aload_n 0, 1, 0, 0, 0, 0), some (.iload_n 1, 1, 1, 0, 0, 0), some (.invokevirtual 184, 3, 183, 1, 0, 12), none, none, some (.ifCond .ne 7, 3, 12, 0, 0, 0),
  none, none, some (.iconst (-1), 1, 0, 0, 0, -1), some (.goto 46, 3, 55, 0, 0, 0), none, none,
  some (.iload_n 2, 1, 2, 0, 0, 0), some (.aload_n 0, 1, 0, 0, 0, 0), some (.getfield 7, 3, 12, 0, 0, 0), none, none, some (.sipush 1012, 3, 0, 0, 0, 1012),
  none, none, some (.aload_n 0, 1, 0, 0, 0, 0), some (.iload_n 1, 1, 1, 0, 0, 0), some (.invokevirtual 184, 3, 183, 1, 0, 12), none,
  none, some (.ifCond .eq 7, 3, 32, 0, 0, 0), none, none, some (.iload_n 1, 1, 1, 0, 0, 0), some (.goto 4, 3, 33, 0, 0, 0),
  none, none, some (.iconst 0, 1, 0, 0, 0, 0), some (.iadd, 1, 0, 0, 0, 0), some (.iaload, 1, 0, 0, 0, 0), some (.sipush 999, 3, 0, 0, 0, 999),
  none, none, some (.invokestatic 34, 3, 120, 3, 0, 0), none, none, some (.ifCond .eq 12, 3, 53, 0, 0, 0),
  none, none, some (.aload_n 0, 1, 0, 0, 0, 0), some (.iload_n 1, 1, 1, 0, 0, 0), some (.iload_n 2, 1, 2, 0, 0, 0), some (.invokevirtual 187, 3, 185, 2, 0, 12),
  none, none, some (.goto 5, 3, 55, 0, 0, 0), none, none, some (.bipush (-2), 2, 0, 0, 0, -2),
  none, some (.ireturn, 1, 0, 0, 0, 0)
  ])
def mi_X12_fall : am_MI := (yX12_fall, cX12_fall, 5, (some FieldType.int), [
  some (.aload_n 0, 1, 0, 0, 0, 0), some (.iload_n 1, 1, 1, 0, 0, 0), some (.invokevirtual 98, 3, 142, 1, 0, 12), none, none, some (.ifCond .ne 5, 3, 10, 0, 0, 0),
  none, none, some (.iconst (-1), 1, 0, 0, 0, -1), some (.ireturn, 1, 0, 0, 0, 0), some (.aload_n 0, 1, 0, 0, 0, 0), some (.getfield 7, 3, 12, 0, 0, 0),
  none, none, some (.bipush 94, 2, 0, 0, 0, 94), none, some (.iload_n 1, 1, 1, 0, 0, 0), some (.iadd, 1, 0, 0, 0, 0),
  some (.iaload, 1, 0, 0, 0, 0), some (.iconst 1, 1, 0, 0, 0, 1), some (.if_icmp .ne 6, 3, 26, 0, 0, 0), none, none, some (.bipush (-3), 2, 0, 0, 0, -3),
  none, some (.ireturn, 1, 0, 0, 0, 0), some (.iconst 0, 1, 0, 0, 0, 0), some (.istore_n 2, 1, 2, 0, 0, 0), some (.iconst 0, 1, 0, 0, 0, 0), some (.istore_n 3, 1, 3, 0, 0, 0),
  some (.iload_n 3, 1, 3, 0, 0, 0), some (.aload_n 0, 1, 0, 0, 0, 0), some (.getfield 7, 3, 12, 0, 0, 0), none, none, some (.iconst 5, 1, 0, 0, 0, 5),
  some (.iaload, 1, 0, 0, 0, 0), some (.if_icmp .ge 71, 3, 108, 0, 0, 0), none, none, some (.aload_n 0, 1, 0, 0, 0, 0), some (.iload_n 3, 1, 3, 0, 0, 0),
  some (.aload_n 0, 1, 0, 0, 0, 0), some (.getfield 7, 3, 12, 0, 0, 0), none, none, some (.iconst 0, 1, 0, 0, 0, 0), some (.iaload, 1, 0, 0, 0, 0),
  some (.invokevirtual 187, 3, 185, 2, 0, 12), none, none, some (.istore 4, 2, 4, 0, 0, 0), none, some (.aload_n 0, 1, 0, 0, 0, 0),
  some (.getfield 7, 3, 12, 0, 0, 0), none, none, some (.bipush 94, 2, 0, 0, 0, 94), none, some (.iload_n 1, 1, 1, 0, 0, 0),
  some (.iadd, 1, 0, 0, 0, 0), some (.iconst 1, 1, 0, 0, 0, 1), some (.iastore, 1, 0, 0, 0, 0), some (.iload_n 2, 1, 2, 0, 0, 0), some (.iload 4, 2, 4, 0, 0, 0), none,
  some (.ifCond .le 23, 3, 89, 0, 0, 0), none, none, some (.aload_n 0, 1, 0, 0, 0, 0), some (.iload_n 3, 1, 3, 0, 0, 0), some (.aload_n 0, 1, 0, 0, 0, 0),
  some (.getfield 7, 3, 12, 0, 0, 0), none, none, some (.iconst 0, 1, 0, 0, 0, 0), some (.iaload, 1, 0, 0, 0, 0), some (.invokevirtual 187, 3, 185, 2, 0, 12),
  none, none, some (.ifCond .ne 9, 3, 89, 0, 0, 0), none, none, some (.iconst 1, 1, 0, 0, 0, 1),
  some (.iload_n 3, 1, 3, 0, 0, 0), some (.ishl, 1, 0, 0, 0, 0), some (.goto 4, 3, 90, 0, 0, 0), none, none, some (.iconst 0, 1, 0, 0, 0, 0),
  some (.ior, 1, 0, 0, 0, 0), some (.istore_n 2, 1, 2, 0, 0, 0), some (.aload_n 0, 1, 0, 0, 0, 0), some (.getfield 7, 3, 12, 0, 0, 0), none, none,
  some (.bipush 94, 2, 0, 0, 0, 94), none, some (.iload_n 1, 1, 1, 0, 0, 0), some (.iadd, 1, 0, 0, 0, 0), some (.iconst 0, 1, 0, 0, 0, 0), some (.iastore, 1, 0, 0, 0, 0),
  some (.iinc 3 1, 3, 3, 0, 0, 1), none, none, some (.goto (-75), 3, 30, 0, 0, 0), none, none,
  some (.iload_n 2, 1, 2, 0, 0, 0), some (.ireturn, 1, 0, 0, 0, 0)
  ])
def mi_X12_carry : am_MI := (yX12_carry, cX12_carry, 5, (some FieldType.int), [
  some (.aload_n 0, 1, 0, 0, 0, 0), some (.iload_n 1, 1, 1, 0, 0, 0), some (.invokevirtual 184, 3, 183, 1, 0, 12), none, none, some (.ifCond .ne 5, 3, 10, 0, 0, 0),
  none, none, some (.iconst (-1), 1, 0, 0, 0, -1), some (.ireturn, 1, 0, 0, 0, 0), some (.iload_n 2, 1, 2, 0, 0, 0), some (.invokestatic 89, 3, 121, 1, 0, 0),
  none, none, some (.ifCond .ne 6, 3, 20, 0, 0, 0), none, none, some (.bipush (-2), 2, 0, 0, 0, -2),
  none, some (.ireturn, 1, 0, 0, 0, 0), some (.aload_n 0, 1, 0, 0, 0, 0), some (.getfield 7, 3, 12, 0, 0, 0), none, none,
  some (.sipush 1002, 3, 0, 0, 0, 1002), none, none, some (.iload_n 1, 1, 1, 0, 0, 0), some (.iadd, 1, 0, 0, 0, 0), some (.iaload, 1, 0, 0, 0, 0),
  some (.istore_n 3, 1, 3, 0, 0, 0), some (.iconst 0, 1, 0, 0, 0, 0), some (.istore 4, 2, 4, 0, 0, 0), none, some (.iload 4, 2, 4, 0, 0, 0), none,
  some (.aload_n 0, 1, 0, 0, 0, 0), some (.getfield 7, 3, 12, 0, 0, 0), none, none, some (.bipush 126, 2, 0, 0, 0, 126), none,
  some (.iload_n 3, 1, 3, 0, 0, 0), some (.iadd, 1, 0, 0, 0, 0), some (.iaload, 1, 0, 0, 0, 0), some (.if_icmp .ge 23, 3, 68, 0, 0, 0), none, none,
  some (.aload_n 0, 1, 0, 0, 0, 0), some (.iload_n 3, 1, 3, 0, 0, 0), some (.iload 4, 2, 4, 0, 0, 0), none, some (.iload_n 2, 1, 2, 0, 0, 0), some (.invokevirtual 150, 3, 165, 3, 0, 12),
  none, none, some (.ifCond .eq 6, 3, 62, 0, 0, 0), none, none, some (.iload 4, 2, 4, 0, 0, 0),
  none, some (.ireturn, 1, 0, 0, 0, 0), some (.iinc 4 1, 3, 4, 0, 0, 1), none, none, some (.goto (-31), 3, 34, 0, 0, 0),
  none, none, some (.bipush (-5), 2, 0, 0, 0, -5), none, some (.ireturn, 1, 0, 0, 0, 0)
  ])
def mi_X12_clash : am_MI := (yX12_clash, cX12_clash, 6, (some FieldType.int), [
  some (.aload_n 0, 1, 0, 0, 0, 0), some (.iload_n 1, 1, 1, 0, 0, 0), some (.invokevirtual 184, 3, 183, 1, 0, 12), none, none, some (.ifCond .eq 11, 3, 16, 0, 0, 0),
  none, none, some (.aload_n 0, 1, 0, 0, 0, 0), some (.iload_n 2, 1, 2, 0, 0, 0), some (.invokevirtual 184, 3, 183, 1, 0, 12), none,
  none, some (.ifCond .ne 5, 3, 18, 0, 0, 0), none, none, some (.iconst (-1), 1, 0, 0, 0, -1), some (.ireturn, 1, 0, 0, 0, 0),
  some (.iload_n 1, 1, 1, 0, 0, 0), some (.iload_n 2, 1, 2, 0, 0, 0), some (.if_icmp .ne 6, 3, 26, 0, 0, 0), none, none, some (.bipush (-2), 2, 0, 0, 0, -2),
  none, some (.ireturn, 1, 0, 0, 0, 0), some (.aload_n 0, 1, 0, 0, 0, 0), some (.getfield 7, 3, 12, 0, 0, 0), none, none,
  some (.sipush 1022, 3, 0, 0, 0, 1022), none, none, some (.iload_n 1, 1, 1, 0, 0, 0), some (.iadd, 1, 0, 0, 0, 0), some (.iaload, 1, 0, 0, 0, 0),
  some (.istore_n 3, 1, 3, 0, 0, 0), some (.aload_n 0, 1, 0, 0, 0, 0), some (.getfield 7, 3, 12, 0, 0, 0), none, none, some (.sipush 1022, 3, 0, 0, 0, 1022),
  none, none, some (.iload_n 2, 1, 2, 0, 0, 0), some (.iadd, 1, 0, 0, 0, 0), some (.iaload, 1, 0, 0, 0, 0), some (.istore 4, 2, 4, 0, 0, 0),
  none, some (.iload_n 3, 1, 3, 0, 0, 0), some (.bipush 125, 2, 0, 0, 0, 125), none, some (.if_icmp .ge 40, 3, 92, 0, 0, 0), none,
  none, some (.iload 4, 2, 4, 0, 0, 0), none, some (.bipush 125, 2, 0, 0, 0, 125), none, some (.if_icmp .ge 33, 3, 92, 0, 0, 0),
  none, none, some (.iload_n 3, 1, 3, 0, 0, 0), some (.iconst 5, 1, 0, 0, 0, 5), some (.idiv, 1, 0, 0, 0, 0), some (.iconst 5, 1, 0, 0, 0, 5),
  some (.irem, 1, 0, 0, 0, 0), some (.iload 4, 2, 4, 0, 0, 0), none, some (.iconst 5, 1, 0, 0, 0, 5), some (.idiv, 1, 0, 0, 0, 0), some (.iconst 5, 1, 0, 0, 0, 5),
  some (.irem, 1, 0, 0, 0, 0), some (.if_icmp .ne 19, 3, 92, 0, 0, 0), none, none, some (.iload_n 3, 1, 3, 0, 0, 0), some (.bipush 25, 2, 0, 0, 0, 25),
  none, some (.idiv, 1, 0, 0, 0, 0), some (.iload 4, 2, 4, 0, 0, 0), none, some (.bipush 25, 2, 0, 0, 0, 25), none,
  some (.idiv, 1, 0, 0, 0, 0), some (.if_icmp .eq 7, 3, 92, 0, 0, 0), none, none, some (.iconst 1, 1, 0, 0, 0, 1), some (.goto 4, 3, 93, 0, 0, 0),
  none, none, some (.iconst 0, 1, 0, 0, 0, 0), some (.istore 5, 2, 5, 0, 0, 0), none, some (.iload 5, 2, 5, 0, 0, 0),
  none, some (.ifCond .eq 35, 3, 132, 0, 0, 0), none, none, some (.aload_n 0, 1, 0, 0, 0, 0), some (.aload_n 0, 1, 0, 0, 0, 0),
  some (.getfield 7, 3, 12, 0, 0, 0), none, none, some (.sipush 1002, 3, 0, 0, 0, 1002), none, none,
  some (.iload_n 1, 1, 1, 0, 0, 0), some (.iadd, 1, 0, 0, 0, 0), some (.iaload, 1, 0, 0, 0, 0), some (.invokevirtual 166, 3, 173, 1, 0, 12), none, none,
  some (.aload_n 0, 1, 0, 0, 0, 0), some (.aload_n 0, 1, 0, 0, 0, 0), some (.getfield 7, 3, 12, 0, 0, 0), none, none, some (.sipush 1002, 3, 0, 0, 0, 1002),
  none, none, some (.iload_n 2, 1, 2, 0, 0, 0), some (.iadd, 1, 0, 0, 0, 0), some (.iaload, 1, 0, 0, 0, 0), some (.invokevirtual 166, 3, 173, 1, 0, 12),
  none, none, some (.ixor, 1, 0, 0, 0, 0), some (.goto 5, 3, 134, 0, 0, 0), none, none,
  some (.bipush (-5), 2, 0, 0, 0, -5), none, some (.ireturn, 1, 0, 0, 0, 0)
  ])
def mi_X12_every : am_MI := (yX12_every, cX12_every, 4, (some FieldType.int), [
  some (.iload_n 1, 1, 1, 0, 0, 0), some (.invokestatic 95, 3, 122, 1, 0, 0), none, none, some (.ifCond .ne 6, 3, 10, 0, 0, 0), none,
  none, some (.bipush (-2), 2, 0, 0, 0, -2), none, some (.ireturn, 1, 0, 0, 0, 0), some (.aload_n 0, 1, 0, 0, 0, 0), some (.iload_n 1, 1, 1, 0, 0, 0),
  some (.aload_n 0, 1, 0, 0, 0, 0), some (.getfield 7, 3, 12, 0, 0, 0), none, none, some (.iconst 0, 1, 0, 0, 0, 0), some (.iaload, 1, 0, 0, 0, 0),
  some (.invokevirtual 181, 3, 154, 2, 0, 12), none, none, some (.ifCond .ne 6, 3, 27, 0, 0, 0), none, none,
  some (.bipush (-5), 2, 0, 0, 0, -5), none, some (.ireturn, 1, 0, 0, 0, 0), some (.iconst 0, 1, 0, 0, 0, 0), some (.istore_n 2, 1, 2, 0, 0, 0), some (.iconst 0, 1, 0, 0, 0, 0),
  some (.istore_n 3, 1, 3, 0, 0, 0), some (.iload_n 3, 1, 3, 0, 0, 0), some (.aload_n 0, 1, 0, 0, 0, 0), some (.getfield 7, 3, 12, 0, 0, 0), none, none,
  some (.iconst 3, 1, 0, 0, 0, 3), some (.iaload, 1, 0, 0, 0, 0), some (.if_icmp .ge 65, 3, 103, 0, 0, 0), none, none, some (.aload_n 0, 1, 0, 0, 0, 0),
  some (.getfield 7, 3, 12, 0, 0, 0), none, none, some (.bipush 94, 2, 0, 0, 0, 94), none, some (.iload_n 3, 1, 3, 0, 0, 0),
  some (.iadd, 1, 0, 0, 0, 0), some (.iaload, 1, 0, 0, 0, 0), some (.ifCond .ne 47, 3, 97, 0, 0, 0), none, none, some (.aload_n 0, 1, 0, 0, 0, 0),
  some (.getfield 7, 3, 12, 0, 0, 0), none, none, some (.bipush 94, 2, 0, 0, 0, 94), none, some (.iload_n 3, 1, 3, 0, 0, 0),
  some (.iadd, 1, 0, 0, 0, 0), some (.iconst 1, 1, 0, 0, 0, 1), some (.iastore, 1, 0, 0, 0, 0), some (.iload_n 2, 1, 2, 0, 0, 0), some (.aload_n 0, 1, 0, 0, 0, 0), some (.iload_n 1, 1, 1, 0, 0, 0),
  some (.aload_n 0, 1, 0, 0, 0, 0), some (.getfield 7, 3, 12, 0, 0, 0), none, none, some (.iconst 0, 1, 0, 0, 0, 0), some (.iaload, 1, 0, 0, 0, 0),
  some (.invokevirtual 181, 3, 154, 2, 0, 12), none, none, some (.ifCond .eq 7, 3, 82, 0, 0, 0), none, none,
  some (.iconst 0, 1, 0, 0, 0, 0), some (.goto 6, 3, 85, 0, 0, 0), none, none, some (.iconst 1, 1, 0, 0, 0, 1), some (.iload_n 3, 1, 3, 0, 0, 0),
  some (.ishl, 1, 0, 0, 0, 0), some (.ior, 1, 0, 0, 0, 0), some (.istore_n 2, 1, 2, 0, 0, 0), some (.aload_n 0, 1, 0, 0, 0, 0), some (.getfield 7, 3, 12, 0, 0, 0), none,
  none, some (.bipush 94, 2, 0, 0, 0, 94), none, some (.iload_n 3, 1, 3, 0, 0, 0), some (.iadd, 1, 0, 0, 0, 0), some (.iconst 0, 1, 0, 0, 0, 0),
  some (.iastore, 1, 0, 0, 0, 0), some (.iinc 3 1, 3, 3, 0, 0, 1), none, none, some (.goto (-69), 3, 31, 0, 0, 0), none,
  none, some (.iload_n 2, 1, 2, 0, 0, 0), some (.ireturn, 1, 0, 0, 0, 0)
  ])
def mi_X12_many0 : am_MI := (yX12_many0, cX12_many0, 3, (some FieldType.int), [
  some (.iconst 0, 1, 0, 0, 0, 0), some (.istore_n 1, 1, 1, 0, 0, 0), some (.iconst 0, 1, 0, 0, 0, 0), some (.istore_n 2, 1, 2, 0, 0, 0), some (.iload_n 2, 1, 2, 0, 0, 0), some (.bipush 20, 2, 0, 0, 0, 20),
  none, some (.if_icmp .ge 17, 3, 24, 0, 0, 0), none, none, some (.iload_n 1, 1, 1, 0, 0, 0), some (.iload_n 0, 1, 0, 0, 0, 0),
  some (.iload_n 2, 1, 2, 0, 0, 0), some (.ishr, 1, 0, 0, 0, 0), some (.iconst 1, 1, 0, 0, 0, 1), some (.iand, 1, 0, 0, 0, 0), some (.iadd, 1, 0, 0, 0, 0), some (.istore_n 1, 1, 1, 0, 0, 0),
  some (.iinc 2 1, 3, 2, 0, 0, 1), none, none, some (.goto (-17), 3, 4, 0, 0, 0), none, none,
  some (.iload_n 1, 1, 1, 0, 0, 0), some (.ireturn, 1, 0, 0, 0, 0)
  ])
def mi_X12_fewest : am_MI := (yX12_fewest, cX12_fewest, 8, (some FieldType.int), [
  some (.iconst 0, 1, 0, 0, 0, 0), some (.istore 4, 2, 4, 0, 0, 0), none, some (.iload 4, 2, 4, 0, 0, 0), none, some (.bipush 20, 2, 0, 0, 0, 20),
  none, some (.if_icmp .ge 26, 3, 33, 0, 0, 0), none, none, some (.aload_n 0, 1, 0, 0, 0, 0), some (.getfield 25, 3, 12, 8, 0, 0),
  none, none, some (.iload 4, 2, 4, 0, 0, 0), none, some (.aload_n 0, 1, 0, 0, 0, 0), some (.getfield 7, 3, 12, 0, 0, 0),
  none, none, some (.bipush 94, 2, 0, 0, 0, 94), none, some (.iload 4, 2, 4, 0, 0, 0), none,
  some (.iadd, 1, 0, 0, 0, 0), some (.iaload, 1, 0, 0, 0, 0), some (.iastore, 1, 0, 0, 0, 0), some (.iinc 4 1, 3, 4, 0, 0, 1), none, none,
  some (.goto (-27), 3, 3, 0, 0, 0), none, none, some (.bipush (-5), 2, 0, 0, 0, -5), none, some (.istore 4, 2, 4, 0, 0, 0),
  none, some (.iconst 0, 1, 0, 0, 0, 0), some (.istore 5, 2, 5, 0, 0, 0), none, some (.iload 5, 2, 5, 0, 0, 0), none,
  some (.iconst 1, 1, 0, 0, 0, 1), some (.iload_n 3, 1, 3, 0, 0, 0), some (.ishl, 1, 0, 0, 0, 0), some (.if_icmp .ge 147, 3, 192, 0, 0, 0), none, none,
  some (.iconst 0, 1, 0, 0, 0, 0), some (.istore 6, 2, 6, 0, 0, 0), none, some (.iconst 0, 1, 0, 0, 0, 0), some (.istore 7, 2, 7, 0, 0, 0), none,
  some (.iload 7, 2, 7, 0, 0, 0), none, some (.iload_n 3, 1, 3, 0, 0, 0), some (.if_icmp .ge 38, 3, 95, 0, 0, 0), none, none,
  some (.iload 6, 2, 6, 0, 0, 0), none, some (.iload 5, 2, 5, 0, 0, 0), none, some (.iload 7, 2, 7, 0, 0, 0), none,
  some (.ishr, 1, 0, 0, 0, 0), some (.iconst 1, 1, 0, 0, 0, 1), some (.iand, 1, 0, 0, 0, 0), some (.iconst 1, 1, 0, 0, 0, 1), some (.if_icmp .ne 15, 3, 85, 0, 0, 0), none,
  none, some (.iconst 1, 1, 0, 0, 0, 1), some (.aload_n 0, 1, 0, 0, 0, 0), some (.getfield 28, 3, 12, 9, 0, 0), none, none,
  some (.iload 7, 2, 7, 0, 0, 0), none, some (.iaload, 1, 0, 0, 0, 0), some (.ishl, 1, 0, 0, 0, 0), some (.goto 4, 3, 86, 0, 0, 0), none,
  none, some (.iconst 0, 1, 0, 0, 0, 0), some (.ior, 1, 0, 0, 0, 0), some (.istore 6, 2, 6, 0, 0, 0), none, some (.iinc 7 1, 3, 7, 0, 0, 1),
  none, none, some (.goto (-38), 3, 54, 0, 0, 0), none, none, some (.iload 4, 2, 4, 0, 0, 0),
  none, some (.bipush (-5), 2, 0, 0, 0, -5), none, some (.if_icmp .eq 16, 3, 115, 0, 0, 0), none, none,
  some (.iload 6, 2, 6, 0, 0, 0), none, some (.invokestatic 190, 3, 191, 1, 0, 0), none, none, some (.iload 4, 2, 4, 0, 0, 0),
  none, some (.invokestatic 190, 3, 191, 1, 0, 0), none, none, some (.if_icmp .ge 74, 3, 186, 0, 0, 0), none,
  none, some (.iconst 0, 1, 0, 0, 0, 0), some (.istore 7, 2, 7, 0, 0, 0), none, some (.iload 7, 2, 7, 0, 0, 0), none,
  some (.aload_n 0, 1, 0, 0, 0, 0), some (.getfield 7, 3, 12, 0, 0, 0), none, none, some (.iconst 3, 1, 0, 0, 0, 3), some (.iaload, 1, 0, 0, 0, 0),
  some (.if_icmp .ge 37, 3, 163, 0, 0, 0), none, none, some (.aload_n 0, 1, 0, 0, 0, 0), some (.getfield 7, 3, 12, 0, 0, 0), none,
  none, some (.bipush 94, 2, 0, 0, 0, 94), none, some (.iload 7, 2, 7, 0, 0, 0), none, some (.iadd, 1, 0, 0, 0, 0),
  some (.iload_n 2, 1, 2, 0, 0, 0), some (.iload 6, 2, 6, 0, 0, 0), none, some (.ior, 1, 0, 0, 0, 0), some (.iload 7, 2, 7, 0, 0, 0), none,
  some (.ishr, 1, 0, 0, 0, 0), some (.iconst 1, 1, 0, 0, 0, 1), some (.iand, 1, 0, 0, 0, 0), some (.iconst 1, 1, 0, 0, 0, 1), some (.if_icmp .ne 7, 3, 155, 0, 0, 0), none,
  none, some (.iconst 0, 1, 0, 0, 0, 0), some (.goto 4, 3, 156, 0, 0, 0), none, none, some (.iconst 1, 1, 0, 0, 0, 1),
  some (.iastore, 1, 0, 0, 0, 0), some (.iinc 7 1, 3, 7, 0, 0, 1), none, none, some (.goto (-42), 3, 118, 0, 0, 0), none,
  none, some (.aload_n 0, 1, 0, 0, 0, 0), some (.iload_n 1, 1, 1, 0, 0, 0), some (.aload_n 0, 1, 0, 0, 0, 0), some (.getfield 7, 3, 12, 0, 0, 0), none,
  none, some (.iconst 0, 1, 0, 0, 0, 0), some (.iaload, 1, 0, 0, 0, 0), some (.invokevirtual 181, 3, 154, 2, 0, 12), none, none,
  some (.ifCond .eq 8, 3, 182, 0, 0, 0), none, none, some (.iload 6, 2, 6, 0, 0, 0), none, some (.goto 5, 3, 184, 0, 0, 0),
  none, none, some (.iload 4, 2, 4, 0, 0, 0), none, some (.istore 4, 2, 4, 0, 0, 0), none,
  some (.iinc 5 1, 3, 5, 0, 0, 1), none, none, some (.goto (-149), 3, 40, 0, 0, 0), none, none,
  some (.iconst 0, 1, 0, 0, 0, 0), some (.istore 5, 2, 5, 0, 0, 0), none, some (.iload 5, 2, 5, 0, 0, 0), none, some (.bipush 20, 2, 0, 0, 0, 20),
  none, some (.if_icmp .ge 26, 3, 225, 0, 0, 0), none, none, some (.aload_n 0, 1, 0, 0, 0, 0), some (.getfield 7, 3, 12, 0, 0, 0),
  none, none, some (.bipush 94, 2, 0, 0, 0, 94), none, some (.iload 5, 2, 5, 0, 0, 0), none,
  some (.iadd, 1, 0, 0, 0, 0), some (.aload_n 0, 1, 0, 0, 0, 0), some (.getfield 25, 3, 12, 8, 0, 0), none, none, some (.iload 5, 2, 5, 0, 0, 0),
  none, some (.iaload, 1, 0, 0, 0, 0), some (.iastore, 1, 0, 0, 0, 0), some (.iinc 5 1, 3, 5, 0, 0, 1), none, none,
  some (.goto (-27), 3, 195, 0, 0, 0), none, none, some (.iload 4, 2, 4, 0, 0, 0), none, some (.ireturn, 1, 0, 0, 0, 0)
  ])
def mi_X12_enough : am_MI := (yX12_enough, cX12_enough, 5, (some FieldType.int), [
  some (.iload_n 1, 1, 1, 0, 0, 0), some (.invokestatic 95, 3, 122, 1, 0, 0), none, none, some (.ifCond .eq 28, 3, 32, 0, 0, 0), none,
  none, some (.iload_n 2, 1, 2, 0, 0, 0), some (.ifCond .lt 24, 3, 32, 0, 0, 0), none, none, some (.iload_n 2, 1, 2, 0, 0, 0),
  some (.iconst 1, 1, 0, 0, 0, 1), some (.aload_n 0, 1, 0, 0, 0, 0), some (.getfield 7, 3, 12, 0, 0, 0), none, none, some (.iconst 3, 1, 0, 0, 0, 3),
  some (.iaload, 1, 0, 0, 0, 0), some (.ishl, 1, 0, 0, 0, 0), some (.if_icmp .ge 12, 3, 32, 0, 0, 0), none, none, some (.iload_n 2, 1, 2, 0, 0, 0),
  some (.invokestatic 190, 3, 191, 1, 0, 0), none, none, some (.bipush 6, 2, 0, 0, 0, 6), none, some (.if_icmp .le 6, 3, 35, 0, 0, 0),
  none, none, some (.bipush (-2), 2, 0, 0, 0, -2), none, some (.ireturn, 1, 0, 0, 0, 0), some (.iconst 0, 1, 0, 0, 0, 0),
  some (.istore_n 3, 1, 3, 0, 0, 0), some (.iconst 0, 1, 0, 0, 0, 0), some (.istore 4, 2, 4, 0, 0, 0), none, some (.iload 4, 2, 4, 0, 0, 0), none,
  some (.aload_n 0, 1, 0, 0, 0, 0), some (.getfield 7, 3, 12, 0, 0, 0), none, none, some (.iconst 3, 1, 0, 0, 0, 3), some (.iaload, 1, 0, 0, 0, 0),
  some (.if_icmp .ge 47, 3, 95, 0, 0, 0), none, none, some (.iload_n 2, 1, 2, 0, 0, 0), some (.iload 4, 2, 4, 0, 0, 0), none,
  some (.ishr, 1, 0, 0, 0, 0), some (.iconst 1, 1, 0, 0, 0, 1), some (.iand, 1, 0, 0, 0, 0), some (.iconst 1, 1, 0, 0, 0, 1), some (.if_icmp .ne 31, 3, 89, 0, 0, 0), none,
  none, some (.aload_n 0, 1, 0, 0, 0, 0), some (.getfield 7, 3, 12, 0, 0, 0), none, none, some (.bipush 94, 2, 0, 0, 0, 94),
  none, some (.iload 4, 2, 4, 0, 0, 0), none, some (.iadd, 1, 0, 0, 0, 0), some (.iaload, 1, 0, 0, 0, 0), some (.iconst 1, 1, 0, 0, 0, 1),
  some (.if_icmp .ne 6, 3, 78, 0, 0, 0), none, none, some (.bipush (-2), 2, 0, 0, 0, -2), none, some (.ireturn, 1, 0, 0, 0, 0),
  some (.aload_n 0, 1, 0, 0, 0, 0), some (.getfield 28, 3, 12, 9, 0, 0), none, none, some (.iload_n 3, 1, 3, 0, 0, 0), some (.iload 4, 2, 4, 0, 0, 0),
  none, some (.iastore, 1, 0, 0, 0, 0), some (.iinc 3 1, 3, 3, 0, 0, 1), none, none, some (.iinc 4 1, 3, 4, 0, 0, 1),
  none, none, some (.goto (-52), 3, 40, 0, 0, 0), none, none, some (.aload_n 0, 1, 0, 0, 0, 0),
  some (.iload_n 1, 1, 1, 0, 0, 0), some (.iconst 0, 1, 0, 0, 0, 0), some (.iload_n 3, 1, 3, 0, 0, 0), some (.invokevirtual 193, 3, 192, 3, 0, 12), none, none,
  some (.ireturn, 1, 0, 0, 0, 0)
  ])
def mi_X12_could : am_MI := (yX12_could, cX12_could, 6, (some FieldType.int), [
  some (.iload_n 1, 1, 1, 0, 0, 0), some (.iconst 0, 1, 0, 0, 0, 0), some (.iconst 4, 1, 0, 0, 0, 4), some (.invokestatic 34, 3, 120, 3, 0, 0), none, none,
  some (.ifCond .ne 5, 3, 11, 0, 0, 0), none, none, some (.iconst (-1), 1, 0, 0, 0, -1), some (.ireturn, 1, 0, 0, 0, 0), some (.iload_n 2, 1, 2, 0, 0, 0),
  some (.invokestatic 95, 3, 122, 1, 0, 0), none, none, some (.ifCond .ne 6, 3, 21, 0, 0, 0), none, none,
  some (.bipush (-2), 2, 0, 0, 0, -2), none, some (.ireturn, 1, 0, 0, 0, 0), some (.iconst 0, 1, 0, 0, 0, 0), some (.istore_n 3, 1, 3, 0, 0, 0), some (.iconst 0, 1, 0, 0, 0, 0),
  some (.istore 4, 2, 4, 0, 0, 0), none, some (.iconst 0, 1, 0, 0, 0, 0), some (.istore 5, 2, 5, 0, 0, 0), none, some (.iload 5, 2, 5, 0, 0, 0),
  none, some (.aload_n 0, 1, 0, 0, 0, 0), some (.getfield 7, 3, 12, 0, 0, 0), none, none, some (.iconst 3, 1, 0, 0, 0, 3),
  some (.iaload, 1, 0, 0, 0, 0), some (.if_icmp .ge 78, 3, 115, 0, 0, 0), none, none, some (.aload_n 0, 1, 0, 0, 0, 0), some (.getfield 7, 3, 12, 0, 0, 0),
  none, none, some (.bipush 94, 2, 0, 0, 0, 94), none, some (.iload 5, 2, 5, 0, 0, 0), none,
  some (.iadd, 1, 0, 0, 0, 0), some (.iaload, 1, 0, 0, 0, 0), some (.ifCond .ne 27, 3, 77, 0, 0, 0), none, none, some (.aload_n 0, 1, 0, 0, 0, 0),
  some (.getfield 7, 3, 12, 0, 0, 0), none, none, some (.bipush 74, 2, 0, 0, 0, 74), none, some (.iload 5, 2, 5, 0, 0, 0),
  none, some (.iadd, 1, 0, 0, 0, 0), some (.iaload, 1, 0, 0, 0, 0), some (.iload_n 1, 1, 1, 0, 0, 0), some (.if_icmp .ne 13, 3, 77, 0, 0, 0), none,
  none, some (.iload_n 3, 1, 3, 0, 0, 0), some (.iconst 1, 1, 0, 0, 0, 1), some (.iload 5, 2, 5, 0, 0, 0), none, some (.ishl, 1, 0, 0, 0, 0),
  some (.ior, 1, 0, 0, 0, 0), some (.istore_n 3, 1, 3, 0, 0, 0), some (.goto 35, 3, 109, 0, 0, 0), none, none, some (.aload_n 0, 1, 0, 0, 0, 0),
  some (.getfield 7, 3, 12, 0, 0, 0), none, none, some (.bipush 94, 2, 0, 0, 0, 94), none, some (.iload 5, 2, 5, 0, 0, 0),
  none, some (.iadd, 1, 0, 0, 0, 0), some (.iaload, 1, 0, 0, 0, 0), some (.ifCond .ne 22, 3, 109, 0, 0, 0), none, none,
  some (.iload 4, 2, 4, 0, 0, 0), none, some (.bipush 6, 2, 0, 0, 0, 6), none, some (.if_icmp .ge 15, 3, 109, 0, 0, 0), none,
  none, some (.aload_n 0, 1, 0, 0, 0, 0), some (.getfield 28, 3, 12, 9, 0, 0), none, none, some (.iload 4, 2, 4, 0, 0, 0),
  none, some (.iload 5, 2, 5, 0, 0, 0), none, some (.iastore, 1, 0, 0, 0, 0), some (.iinc 4 1, 3, 4, 0, 0, 1), none,
  none, some (.iinc 5 1, 3, 5, 0, 0, 1), none, none, some (.goto (-83), 3, 29, 0, 0, 0), none,
  none, some (.aload_n 0, 1, 0, 0, 0, 0), some (.iload_n 2, 1, 2, 0, 0, 0), some (.iload_n 3, 1, 3, 0, 0, 0), some (.iload 4, 2, 4, 0, 0, 0), none,
  some (.invokevirtual 193, 3, 192, 3, 0, 12), none, none, some (.ireturn, 1, 0, 0, 0, 0)
  ])
def mi_X12_readsTactic : am_MI := (yX12_readsTactic, cX12_readsTactic, 1, none, [
  some (.aload_n 0, 1, 0, 0, 0, 0), some (.invokevirtual 196, 3, 196, 0, 0, 12), none, none, some (.aload_n 0, 1, 0, 0, 0, 0), some (.getfield 44, 3, 12, 4, 0, 0),
  none, none, some (.ifCond .ne 29, 3, 37, 0, 0, 0), none, none, some (.aload_n 0, 1, 0, 0, 0, 0),
  some (.invokevirtual 48, 3, 125, 0, 0, 12), none, none, some (.bipush 59, 2, 0, 0, 0, 59), none, some (.if_icmp .ne 20, 3, 37, 0, 0, 0),
  none, none, some (.aload_n 0, 1, 0, 0, 0, 0), some (.dup, 1, 0, 0, 0, 0), some (.getfield 40, 3, 12, 3, 0, 0), none,
  none, some (.iconst 1, 1, 0, 0, 0, 1), some (.iadd, 1, 0, 0, 0, 0), some (.putfield 40, 3, 12, 3, 0, 0), none, none,
  some (.aload_n 0, 1, 0, 0, 0, 0), some (.invokevirtual 196, 3, 196, 0, 0, 12), none, none, some (.goto (-30), 3, 4, 0, 0, 0), none,
  none, some (.return_, 1, 0, 0, 0, 0)
  ])
def mi_X12_readsPiece : am_MI := (yX12_readsPiece, cX12_readsPiece, 1, none, [
  some (.aload_n 0, 1, 0, 0, 0, 0), some (.invokevirtual 199, 3, 197, 0, 0, 12), none, none, some (.aload_n 0, 1, 0, 0, 0, 0), some (.getfield 44, 3, 12, 4, 0, 0),
  none, none, some (.ifCond .ne 29, 3, 37, 0, 0, 0), none, none, some (.aload_n 0, 1, 0, 0, 0, 0),
  some (.invokevirtual 48, 3, 125, 0, 0, 12), none, none, some (.bipush 124, 2, 0, 0, 0, 124), none, some (.if_icmp .ne 20, 3, 37, 0, 0, 0),
  none, none, some (.aload_n 0, 1, 0, 0, 0, 0), some (.dup, 1, 0, 0, 0, 0), some (.getfield 40, 3, 12, 3, 0, 0), none,
  none, some (.iconst 1, 1, 0, 0, 0, 1), some (.iadd, 1, 0, 0, 0, 0), some (.putfield 40, 3, 12, 3, 0, 0), none, none,
  some (.aload_n 0, 1, 0, 0, 0, 0), some (.invokevirtual 199, 3, 197, 0, 0, 12), none, none, some (.goto (-30), 3, 4, 0, 0, 0), none,
  none, some (.return_, 1, 0, 0, 0, 0)
  ])
def mi_X12_readsTry : am_MI := (yX12_readsTry, cX12_readsTry, 2, none, [
  some (.aload_n 0, 1, 0, 0, 0, 0), some (.invokevirtual 48, 3, 125, 0, 0, 12), none, none, some (.istore_n 1, 1, 1, 0, 0, 0), some (.aload_n 0, 1, 0, 0, 0, 0),
  some (.getfield 44, 3, 12, 4, 0, 0), none, none, some (.ifCond .eq 4, 3, 13, 0, 0, 0), none, none,
  some (.return_, 1, 0, 0, 0, 0), some (.iload_n 1, 1, 1, 0, 0, 0), some (.bipush 48, 2, 0, 0, 0, 48), none, some (.bipush 55, 2, 0, 0, 0, 55), none,
  some (.invokestatic 34, 3, 120, 3, 0, 0), none, none, some (.ifCond .eq 16, 3, 37, 0, 0, 0), none, none,
  some (.aload_n 0, 1, 0, 0, 0, 0), some (.dup, 1, 0, 0, 0, 0), some (.getfield 40, 3, 12, 3, 0, 0), none, none, some (.iconst 1, 1, 0, 0, 0, 1),
  some (.iadd, 1, 0, 0, 0, 0), some (.putfield 40, 3, 12, 3, 0, 0), none, none, some (.goto 66, 3, 100, 0, 0, 0), none,
  none, some (.iload_n 1, 1, 1, 0, 0, 0), some (.bipush 40, 2, 0, 0, 0, 40), none, some (.if_icmp .ne 55, 3, 95, 0, 0, 0), none,
  none, some (.aload_n 0, 1, 0, 0, 0, 0), some (.getfield 202, 3, 12, 10, 0, 0), none, none, some (.bipush 6, 2, 0, 0, 0, 6),
  none, some (.if_icmp .ge 46, 3, 95, 0, 0, 0), none, none, some (.aload_n 0, 1, 0, 0, 0, 0), some (.dup, 1, 0, 0, 0, 0),
  some (.getfield 202, 3, 12, 10, 0, 0), none, none, some (.iconst 1, 1, 0, 0, 0, 1), some (.iadd, 1, 0, 0, 0, 0), some (.putfield 202, 3, 12, 10, 0, 0),
  none, none, some (.aload_n 0, 1, 0, 0, 0, 0), some (.dup, 1, 0, 0, 0, 0), some (.getfield 40, 3, 12, 3, 0, 0), none,
  none, some (.iconst 1, 1, 0, 0, 0, 1), some (.iadd, 1, 0, 0, 0, 0), some (.putfield 40, 3, 12, 3, 0, 0), none, none,
  some (.aload_n 0, 1, 0, 0, 0, 0), some (.invokevirtual 205, 3, 195, 0, 0, 12), none, none, some (.aload_n 0, 1, 0, 0, 0, 0), some (.bipush 41, 2, 0, 0, 0, 41),
  none, some (.invokevirtual 56, 3, 126, 1, 0, 12), none, none, some (.aload_n 0, 1, 0, 0, 0, 0), some (.dup, 1, 0, 0, 0, 0),
  some (.getfield 202, 3, 12, 10, 0, 0), none, none, some (.iconst 1, 1, 0, 0, 0, 1), some (.isub, 1, 0, 0, 0, 0), some (.putfield 202, 3, 12, 10, 0, 0),
  none, none, some (.goto 8, 3, 100, 0, 0, 0), none, none, some (.aload_n 0, 1, 0, 0, 0, 0),
  some (.iconst 1, 1, 0, 0, 0, 1), some (.putfield 44, 3, 12, 4, 0, 0), none, none, some (.aload_n 0, 1, 0, 0, 0, 0), some (.getfield 44, 3, 12, 4, 0, 0),
  none, none, some (.ifCond .ne 22, 3, 126, 0, 0, 0), none, none, some (.aload_n 0, 1, 0, 0, 0, 0),
  some (.invokevirtual 48, 3, 125, 0, 0, 12), none, none, some (.bipush 42, 2, 0, 0, 0, 42), none, some (.if_icmp .ne 13, 3, 126, 0, 0, 0),
  none, none, some (.aload_n 0, 1, 0, 0, 0, 0), some (.dup, 1, 0, 0, 0, 0), some (.getfield 40, 3, 12, 3, 0, 0), none,
  none, some (.iconst 1, 1, 0, 0, 0, 1), some (.iadd, 1, 0, 0, 0, 0), some (.putfield 40, 3, 12, 3, 0, 0), none, none,
  some (.return_, 1, 0, 0, 0, 0)
  ])
def mi_X12_tactic : am_MI := (yX12_tactic, cX12_tactic, 4, (some FieldType.int), [
  some (.aload_n 0, 1, 0, 0, 0, 0), some (.getfield 7, 3, 12, 0, 0, 0), none, none, some (.bipush 6, 2, 0, 0, 0, 6), none,
  some (.iaload, 1, 0, 0, 0, 0), some (.bipush 6, 2, 0, 0, 0, 6), none, some (.if_icmp .ne 6, 3, 15, 0, 0, 0), none, none,
  some (.bipush (-4), 2, 0, 0, 0, -4), none, some (.ireturn, 1, 0, 0, 0, 0), some (.aload_n 0, 1, 0, 0, 0, 0), some (.iconst 0, 1, 0, 0, 0, 0), some (.putfield 40, 3, 12, 3, 0, 0),
  none, none, some (.aload_n 0, 1, 0, 0, 0, 0), some (.iconst 0, 1, 0, 0, 0, 0), some (.putfield 202, 3, 12, 10, 0, 0), none,
  none, some (.aload_n 0, 1, 0, 0, 0, 0), some (.iconst 0, 1, 0, 0, 0, 0), some (.putfield 44, 3, 12, 4, 0, 0), none, none,
  some (.aload_n 0, 1, 0, 0, 0, 0), some (.invokevirtual 205, 3, 195, 0, 0, 12), none, none, some (.aload_n 0, 1, 0, 0, 0, 0), some (.getfield 44, 3, 12, 4, 0, 0),
  none, none, some (.ifCond .ne 21, 3, 59, 0, 0, 0), none, none, some (.aload_n 0, 1, 0, 0, 0, 0),
  some (.getfield 40, 3, 12, 3, 0, 0), none, none, some (.aload_n 0, 1, 0, 0, 0, 0), some (.getfield 7, 3, 12, 0, 0, 0), none,
  none, some (.bipush 8, 2, 0, 0, 0, 8), none, some (.iaload, 1, 0, 0, 0, 0), some (.if_icmp .ne 7, 3, 59, 0, 0, 0), none,
  none, some (.iconst 1, 1, 0, 0, 0, 1), some (.goto 4, 3, 60, 0, 0, 0), none, none, some (.iconst 0, 1, 0, 0, 0, 0),
  some (.istore_n 1, 1, 1, 0, 0, 0), some (.aload_n 0, 1, 0, 0, 0, 0), some (.getfield 7, 3, 12, 0, 0, 0), none, none, some (.bipush 8, 2, 0, 0, 0, 8),
  none, some (.iaload, 1, 0, 0, 0, 0), some (.istore_n 2, 1, 2, 0, 0, 0), some (.aload_n 0, 1, 0, 0, 0, 0), some (.getfield 7, 3, 12, 0, 0, 0), none,
  none, some (.bipush 8, 2, 0, 0, 0, 8), none, some (.iconst 0, 1, 0, 0, 0, 0), some (.iastore, 1, 0, 0, 0, 0), some (.iload_n 1, 1, 1, 0, 0, 0),
  some (.ifCond .ne 11, 3, 89, 0, 0, 0), none, none, some (.bipush (-10), 2, 0, 0, 0, -10), none, some (.aload_n 0, 1, 0, 0, 0, 0),
  some (.getfield 40, 3, 12, 3, 0, 0), none, none, some (.isub, 1, 0, 0, 0, 0), some (.ireturn, 1, 0, 0, 0, 0), some (.iconst 0, 1, 0, 0, 0, 0),
  some (.istore_n 3, 1, 3, 0, 0, 0), some (.iload_n 3, 1, 3, 0, 0, 0), some (.iload_n 2, 1, 2, 0, 0, 0), some (.if_icmp .ge 40, 3, 133, 0, 0, 0), none, none,
  some (.aload_n 0, 1, 0, 0, 0, 0), some (.getfield 7, 3, 12, 0, 0, 0), none, none, some (.sipush 1038, 3, 0, 0, 0, 1038), none,
  none, some (.bipush 120, 2, 0, 0, 0, 120), none, some (.aload_n 0, 1, 0, 0, 0, 0), some (.getfield 7, 3, 12, 0, 0, 0), none,
  none, some (.bipush 6, 2, 0, 0, 0, 6), none, some (.iaload, 1, 0, 0, 0, 0), some (.imul, 1, 0, 0, 0, 0), some (.iadd, 1, 0, 0, 0, 0),
  some (.iload_n 3, 1, 3, 0, 0, 0), some (.iadd, 1, 0, 0, 0, 0), some (.aload_n 0, 1, 0, 0, 0, 0), some (.getfield 7, 3, 12, 0, 0, 0), none, none,
  some (.sipush 2358, 3, 0, 0, 0, 2358), none, none, some (.iload_n 3, 1, 3, 0, 0, 0), some (.iadd, 1, 0, 0, 0, 0), some (.iaload, 1, 0, 0, 0, 0),
  some (.iastore, 1, 0, 0, 0, 0), some (.iinc 3 1, 3, 3, 0, 0, 1), none, none, some (.goto (-39), 3, 91, 0, 0, 0), none,
  none, some (.aload_n 0, 1, 0, 0, 0, 0), some (.getfield 7, 3, 12, 0, 0, 0), none, none, some (.sipush 1032, 3, 0, 0, 0, 1032),
  none, none, some (.aload_n 0, 1, 0, 0, 0, 0), some (.getfield 7, 3, 12, 0, 0, 0), none, none,
  some (.bipush 6, 2, 0, 0, 0, 6), none, some (.iaload, 1, 0, 0, 0, 0), some (.iadd, 1, 0, 0, 0, 0), some (.iload_n 2, 1, 2, 0, 0, 0), some (.iastore, 1, 0, 0, 0, 0),
  some (.aload_n 0, 1, 0, 0, 0, 0), some (.getfield 7, 3, 12, 0, 0, 0), none, none, some (.bipush 6, 2, 0, 0, 0, 6), none,
  some (.dup2, 1, 0, 0, 0, 0), some (.iaload, 1, 0, 0, 0, 0), some (.iconst 1, 1, 0, 0, 0, 1), some (.iadd, 1, 0, 0, 0, 0), some (.iastore, 1, 0, 0, 0, 0), some (.aload_n 0, 1, 0, 0, 0, 0),
  some (.getfield 7, 3, 12, 0, 0, 0), none, none, some (.bipush 6, 2, 0, 0, 0, 6), none, some (.iaload, 1, 0, 0, 0, 0),
  some (.iconst 1, 1, 0, 0, 0, 1), some (.isub, 1, 0, 0, 0, 0), some (.ireturn, 1, 0, 0, 0, 0)
  ])
def mi_X12_byteAt : am_MI := (yX12_byteAt, cX12_byteAt, 2, (some FieldType.int), [
  some (.iload_n 1, 1, 1, 0, 0, 0), some (.aload_n 0, 1, 0, 0, 0, 0), some (.getfield 7, 3, 12, 0, 0, 0), none, none, some (.sipush 1032, 3, 0, 0, 0, 1032),
  none, none, some (.aload_n 0, 1, 0, 0, 0, 0), some (.getfield 208, 3, 12, 11, 0, 0), none, none,
  some (.iadd, 1, 0, 0, 0, 0), some (.iaload, 1, 0, 0, 0, 0), some (.if_icmp .ge 24, 3, 38, 0, 0, 0), none, none, some (.aload_n 0, 1, 0, 0, 0, 0),
  some (.getfield 7, 3, 12, 0, 0, 0), none, none, some (.sipush 1038, 3, 0, 0, 0, 1038), none, none,
  some (.bipush 120, 2, 0, 0, 0, 120), none, some (.aload_n 0, 1, 0, 0, 0, 0), some (.getfield 208, 3, 12, 11, 0, 0), none, none,
  some (.imul, 1, 0, 0, 0, 0), some (.iadd, 1, 0, 0, 0, 0), some (.iload_n 1, 1, 1, 0, 0, 0), some (.iadd, 1, 0, 0, 0, 0), some (.iaload, 1, 0, 0, 0, 0), some (.goto 4, 3, 39, 0, 0, 0),
  none, none, some (.iconst (-1), 1, 0, 0, 0, -1), some (.ireturn, 1, 0, 0, 0, 0)
  ])
def mi_X12_runs : am_MI := (yX12_runs, cX12_runs, 7, (some FieldType.boolean), [
  some (.aload_n 0, 1, 0, 0, 0, 0), some (.iload_n 1, 1, 1, 0, 0, 0), some (.invokevirtual 82, 3, 136, 1, 0, 12), none, none, some (.ifCond .eq 14, 3, 19, 0, 0, 0),
  none, none, some (.aload_n 0, 1, 0, 0, 0, 0), some (.getfield 211, 3, 12, 13, 0, 0), none, none,
  some (.aload_n 0, 1, 0, 0, 0, 0), some (.getfield 214, 3, 12, 12, 0, 0), none, none, some (.if_icmp .ne 5, 3, 21, 0, 0, 0), none,
  none, some (.iconst 0, 1, 0, 0, 0, 0), some (.ireturn, 1, 0, 0, 0, 0), some (.aload_n 0, 1, 0, 0, 0, 0), some (.dup, 1, 0, 0, 0, 0), some (.getfield 211, 3, 12, 13, 0, 0),
  none, none, some (.iconst 1, 1, 0, 0, 0, 1), some (.iadd, 1, 0, 0, 0, 0), some (.putfield 211, 3, 12, 13, 0, 0), none,
  none, some (.aload_n 0, 1, 0, 0, 0, 0), some (.iload_n 1, 1, 1, 0, 0, 0), some (.aload_n 0, 1, 0, 0, 0, 0), some (.getfield 7, 3, 12, 0, 0, 0), none,
  none, some (.iconst 0, 1, 0, 0, 0, 0), some (.iaload, 1, 0, 0, 0, 0), some (.invokevirtual 92, 3, 139, 2, 0, 12), none, none,
  some (.istore_n 2, 1, 2, 0, 0, 0), some (.aload_n 0, 1, 0, 0, 0, 0), some (.iload_n 2, 1, 2, 0, 0, 0), some (.invokevirtual 76, 3, 133, 1, 0, 12), none, none,
  some (.istore_n 3, 1, 3, 0, 0, 0), some (.iconst 0, 1, 0, 0, 0, 0), some (.istore 4, 2, 4, 0, 0, 0), none, some (.iload 4, 2, 4, 0, 0, 0), none,
  some (.sipush 750, 3, 0, 0, 0, 750), none, none, some (.if_icmp .ge 17, 3, 74, 0, 0, 0), none, none,
  some (.aload_n 0, 1, 0, 0, 0, 0), some (.getfield 31, 3, 12, 14, 0, 0), none, none, some (.iload 4, 2, 4, 0, 0, 0), none,
  some (.iconst 0, 1, 0, 0, 0, 0), some (.iastore, 1, 0, 0, 0, 0), some (.iinc 4 1, 3, 4, 0, 0, 1), none, none, some (.goto (-19), 3, 52, 0, 0, 0),
  none, none, some (.iconst 0, 1, 0, 0, 0, 0), some (.istore 4, 2, 4, 0, 0, 0), none, some (.iload 4, 2, 4, 0, 0, 0),
  none, some (.sipush 625, 3, 0, 0, 0, 625), none, none, some (.if_icmp .ge 121, 3, 203, 0, 0, 0), none,
  none, some (.aload_n 0, 1, 0, 0, 0, 0), some (.iload 4, 2, 4, 0, 0, 0), none, some (.invokevirtual 111, 3, 145, 1, 0, 12), none,
  none, some (.aload_n 0, 1, 0, 0, 0, 0), some (.iload_n 3, 1, 3, 0, 0, 0), some (.invokevirtual 114, 3, 149, 1, 0, 12), none, none,
  some (.ifCond .eq 15, 3, 111, 0, 0, 0), none, none, some (.aload_n 0, 1, 0, 0, 0, 0), some (.iload_n 2, 1, 2, 0, 0, 0), some (.invokevirtual 121, 3, 148, 1, 0, 12),
  none, none, some (.ifCond .eq 7, 3, 111, 0, 0, 0), none, none, some (.iconst 1, 1, 0, 0, 0, 1),
  some (.goto 4, 3, 112, 0, 0, 0), none, none, some (.iconst 0, 1, 0, 0, 0, 0), some (.istore 5, 2, 5, 0, 0, 0), none,
  some (.iconst 0, 1, 0, 0, 0, 0), some (.istore 6, 2, 6, 0, 0, 0), none, some (.iload 6, 2, 6, 0, 0, 0), none, some (.aload_n 0, 1, 0, 0, 0, 0),
  some (.getfield 7, 3, 12, 0, 0, 0), none, none, some (.iload_n 2, 1, 2, 0, 0, 0), some (.iaload, 1, 0, 0, 0, 0), some (.if_icmp .ge 46, 3, 171, 0, 0, 0),
  none, none, some (.iload 5, 2, 5, 0, 0, 0), none, some (.ifCond .eq 41, 3, 171, 0, 0, 0), none,
  none, some (.aload_n 0, 1, 0, 0, 0, 0), some (.getfield 7, 3, 12, 0, 0, 0), none, none, some (.sipush 2478, 3, 0, 0, 0, 2478),
  none, none, some (.aload_n 0, 1, 0, 0, 0, 0), some (.iload_n 2, 1, 2, 0, 0, 0), some (.iconst 2, 1, 0, 0, 0, 2), some (.iadd, 1, 0, 0, 0, 0),
  some (.iconst 4, 1, 0, 0, 0, 4), some (.iload 6, 2, 6, 0, 0, 0), none, some (.imul, 1, 0, 0, 0, 0), some (.iadd, 1, 0, 0, 0, 0), some (.invokevirtual 104, 3, 147, 1, 0, 12),
  none, none, some (.iadd, 1, 0, 0, 0, 0), some (.iaload, 1, 0, 0, 0, 0), some (.iconst 1, 1, 0, 0, 0, 1), some (.if_icmp .ne 7, 3, 162, 0, 0, 0),
  none, none, some (.iconst 1, 1, 0, 0, 0, 1), some (.goto 4, 3, 163, 0, 0, 0), none, none,
  some (.iconst 0, 1, 0, 0, 0, 0), some (.istore 5, 2, 5, 0, 0, 0), none, some (.iinc 6 1, 3, 6, 0, 0, 1), none, none,
  some (.goto (-51), 3, 117, 0, 0, 0), none, none, some (.aload_n 0, 1, 0, 0, 0, 0), some (.getfield 31, 3, 12, 14, 0, 0), none,
  none, some (.aload_n 0, 1, 0, 0, 0, 0), some (.iload_n 2, 1, 2, 0, 0, 0), some (.bipush 26, 2, 0, 0, 0, 26), none, some (.iadd, 1, 0, 0, 0, 0),
  some (.invokevirtual 104, 3, 147, 1, 0, 12), none, none, some (.dup2, 1, 0, 0, 0, 0), some (.iaload, 1, 0, 0, 0, 0), some (.iload 5, 2, 5, 0, 0, 0),
  none, some (.ifCond .eq 7, 3, 194, 0, 0, 0), none, none, some (.iconst 1, 1, 0, 0, 0, 1), some (.goto 4, 3, 195, 0, 0, 0),
  none, none, some (.iconst 0, 1, 0, 0, 0, 0), some (.ior, 1, 0, 0, 0, 0), some (.iastore, 1, 0, 0, 0, 0), some (.iinc 4 1, 3, 4, 0, 0, 1),
  none, none, some (.goto (-123), 3, 77, 0, 0, 0), none, none, some (.iconst 0, 1, 0, 0, 0, 0),
  some (.istore 4, 2, 4, 0, 0, 0), none, some (.iconst 0, 1, 0, 0, 0, 0), some (.istore 5, 2, 5, 0, 0, 0), none, some (.iload 5, 2, 5, 0, 0, 0),
  none, some (.sipush 750, 3, 0, 0, 0, 750), none, none, some (.if_icmp .ge 67, 3, 281, 0, 0, 0), none,
  none, some (.iload 4, 2, 4, 0, 0, 0), none, some (.ifCond .ne 28, 3, 247, 0, 0, 0), none, none,
  some (.aload_n 0, 1, 0, 0, 0, 0), some (.getfield 31, 3, 12, 14, 0, 0), none, none, some (.iload 5, 2, 5, 0, 0, 0), none,
  some (.iaload, 1, 0, 0, 0, 0), some (.iconst 1, 1, 0, 0, 0, 1), some (.if_icmp .ne 21, 3, 251, 0, 0, 0), none, none, some (.aload_n 0, 1, 0, 0, 0, 0),
  some (.getfield 7, 3, 12, 0, 0, 0), none, none, some (.sipush 2478, 3, 0, 0, 0, 2478), none, none,
  some (.iload 5, 2, 5, 0, 0, 0), none, some (.iadd, 1, 0, 0, 0, 0), some (.iaload, 1, 0, 0, 0, 0), some (.ifCond .ne 7, 3, 251, 0, 0, 0), none,
  none, some (.iconst 1, 1, 0, 0, 0, 1), some (.goto 4, 3, 252, 0, 0, 0), none, none, some (.iconst 0, 1, 0, 0, 0, 0),
  some (.istore 4, 2, 4, 0, 0, 0), none, some (.aload_n 0, 1, 0, 0, 0, 0), some (.getfield 7, 3, 12, 0, 0, 0), none, none,
  some (.sipush 2478, 3, 0, 0, 0, 2478), none, none, some (.iload 5, 2, 5, 0, 0, 0), none, some (.iadd, 1, 0, 0, 0, 0),
  some (.dup2, 1, 0, 0, 0, 0), some (.iaload, 1, 0, 0, 0, 0), some (.aload_n 0, 1, 0, 0, 0, 0), some (.getfield 31, 3, 12, 14, 0, 0), none, none,
  some (.iload 5, 2, 5, 0, 0, 0), none, some (.iaload, 1, 0, 0, 0, 0), some (.ior, 1, 0, 0, 0, 0), some (.iastore, 1, 0, 0, 0, 0), some (.iinc 5 1, 3, 5, 0, 0, 1),
  none, none, some (.goto (-69), 3, 209, 0, 0, 0), none, none, some (.iload 4, 2, 4, 0, 0, 0),
  none, some (.ireturn, 1, 0, 0, 0, 0)
  ])
def mi_X12_behindTry : am_MI := (yX12_behindTry, cX12_behindTry, 4, (some FieldType.int), [
  some (.iload_n 1, 1, 1, 0, 0, 0), some (.istore_n 2, 1, 2, 0, 0, 0), some (.iconst 0, 1, 0, 0, 0, 0), some (.istore_n 3, 1, 3, 0, 0, 0), some (.iload_n 2, 1, 2, 0, 0, 0), some (.iload_n 1, 1, 1, 0, 0, 0),
  some (.if_icmp .eq 7, 3, 13, 0, 0, 0), none, none, some (.iload_n 3, 1, 3, 0, 0, 0), some (.ifCond .le 41, 3, 51, 0, 0, 0), none,
  none, some (.iload_n 3, 1, 3, 0, 0, 0), some (.aload_n 0, 1, 0, 0, 0, 0), some (.iload_n 2, 1, 2, 0, 0, 0), some (.invokevirtual 217, 3, 199, 1, 0, 12), none,
  none, some (.bipush 40, 2, 0, 0, 0, 40), none, some (.if_icmp .ne 7, 3, 28, 0, 0, 0), none, none,
  some (.iconst 1, 1, 0, 0, 0, 1), some (.goto 18, 3, 43, 0, 0, 0), none, none, some (.aload_n 0, 1, 0, 0, 0, 0), some (.iload_n 2, 1, 2, 0, 0, 0),
  some (.invokevirtual 217, 3, 199, 1, 0, 12), none, none, some (.bipush 41, 2, 0, 0, 0, 41), none, some (.if_icmp .ne 7, 3, 42, 0, 0, 0),
  none, none, some (.iconst (-1), 1, 0, 0, 0, -1), some (.goto 4, 3, 43, 0, 0, 0), none, none,
  some (.iconst 0, 1, 0, 0, 0, 0), some (.iadd, 1, 0, 0, 0, 0), some (.istore_n 3, 1, 3, 0, 0, 0), some (.iinc 2 1, 3, 2, 0, 0, 1), none, none,
  some (.goto (-44), 3, 4, 0, 0, 0), none, none, some (.aload_n 0, 1, 0, 0, 0, 0), some (.iload_n 2, 1, 2, 0, 0, 0), some (.invokevirtual 217, 3, 199, 1, 0, 12),
  none, none, some (.bipush 42, 2, 0, 0, 0, 42), none, some (.if_icmp .ne 9, 3, 67, 0, 0, 0), none,
  none, some (.iload_n 2, 1, 2, 0, 0, 0), some (.iconst 1, 1, 0, 0, 0, 1), some (.iadd, 1, 0, 0, 0, 0), some (.goto 4, 3, 68, 0, 0, 0), none,
  none, some (.iload_n 2, 1, 2, 0, 0, 0), some (.ireturn, 1, 0, 0, 0, 0)
  ])
def mi_X12_runsTry : am_MI := (yX12_runsTry, cX12_runsTry, 5, (some FieldType.boolean), [
  some (.aload_n 0, 1, 0, 0, 0, 0), some (.aload_n 0, 1, 0, 0, 0, 0), some (.iload_n 1, 1, 1, 0, 0, 0), some (.invokevirtual 220, 3, 201, 1, 0, 12), none, none,
  some (.iconst 1, 1, 0, 0, 0, 1), some (.isub, 1, 0, 0, 0, 0), some (.invokevirtual 217, 3, 199, 1, 0, 12), none, none, some (.bipush 42, 2, 0, 0, 0, 42),
  none, some (.if_icmp .ne 7, 3, 20, 0, 0, 0), none, none, some (.iconst 1, 1, 0, 0, 0, 1), some (.goto 4, 3, 21, 0, 0, 0),
  none, none, some (.iconst 0, 1, 0, 0, 0, 0), some (.istore_n 2, 1, 2, 0, 0, 0), some (.aload_n 0, 1, 0, 0, 0, 0), some (.iload_n 1, 1, 1, 0, 0, 0),
  some (.invokevirtual 223, 3, 203, 1, 0, 12), none, none, some (.istore_n 3, 1, 3, 0, 0, 0), some (.iload_n 3, 1, 3, 0, 0, 0), some (.ifCond .eq 11, 3, 40, 0, 0, 0),
  none, none, some (.iload_n 2, 1, 2, 0, 0, 0), some (.ifCond .eq 7, 3, 40, 0, 0, 0), none, none,
  some (.iconst 1, 1, 0, 0, 0, 1), some (.goto 4, 3, 41, 0, 0, 0), none, none, some (.iconst 0, 1, 0, 0, 0, 0), some (.istore 4, 2, 4, 0, 0, 0),
  none, some (.iload 4, 2, 4, 0, 0, 0), none, some (.ifCond .eq 13, 3, 58, 0, 0, 0), none, none,
  some (.aload_n 0, 1, 0, 0, 0, 0), some (.iload_n 1, 1, 1, 0, 0, 0), some (.invokevirtual 223, 3, 203, 1, 0, 12), none, none, some (.istore 4, 2, 4, 0, 0, 0),
  none, some (.goto (-12), 3, 43, 0, 0, 0), none, none, some (.iload_n 3, 1, 3, 0, 0, 0), some (.ireturn, 1, 0, 0, 0, 0)
  ])
def mi_X12_runsOnce : am_MI := (yX12_runsOnce, cX12_runsOnce, 2, (some FieldType.boolean), [
  some (.aload_n 0, 1, 0, 0, 0, 0), some (.iload_n 1, 1, 1, 0, 0, 0), some (.invokevirtual 217, 3, 199, 1, 0, 12), none, none, some (.bipush 40, 2, 0, 0, 0, 40),
  none, some (.if_icmp .ne 13, 3, 20, 0, 0, 0), none, none, some (.aload_n 0, 1, 0, 0, 0, 0), some (.iload_n 1, 1, 1, 0, 0, 0),
  some (.iconst 1, 1, 0, 0, 0, 1), some (.iadd, 1, 0, 0, 0, 0), some (.invokevirtual 226, 3, 204, 1, 0, 12), none, none, some (.goto 15, 3, 32, 0, 0, 0),
  none, none, some (.aload_n 0, 1, 0, 0, 0, 0), some (.aload_n 0, 1, 0, 0, 0, 0), some (.iload_n 1, 1, 1, 0, 0, 0), some (.invokevirtual 217, 3, 199, 1, 0, 12),
  none, none, some (.bipush 48, 2, 0, 0, 0, 48), none, some (.isub, 1, 0, 0, 0, 0), some (.invokevirtual 229, 3, 200, 1, 0, 12),
  none, none, some (.ireturn, 1, 0, 0, 0, 0)
  ])
def mi_X12_runsTactic : am_MI := (yX12_runsTactic, cX12_runsTactic, 6, (some FieldType.boolean), [
  some (.iconst 0, 1, 0, 0, 0, 0), some (.istore_n 2, 1, 2, 0, 0, 0), some (.iconst 0, 1, 0, 0, 0, 0), some (.istore_n 3, 1, 3, 0, 0, 0), some (.iload_n 1, 1, 1, 0, 0, 0), some (.istore 4, 2, 4, 0, 0, 0),
  none, some (.iconst 1, 1, 0, 0, 0, 1), some (.istore 5, 2, 5, 0, 0, 0), none, some (.iload 5, 2, 5, 0, 0, 0), none,
  some (.ifCond .eq 96, 3, 108, 0, 0, 0), none, none, some (.iload_n 3, 1, 3, 0, 0, 0), some (.ifCond .ne 12, 3, 28, 0, 0, 0), none,
  none, some (.aload_n 0, 1, 0, 0, 0, 0), some (.iload 4, 2, 4, 0, 0, 0), none, some (.invokevirtual 232, 3, 202, 1, 0, 12), none,
  none, some (.ifCond .ne 7, 3, 32, 0, 0, 0), none, none, some (.iload_n 3, 1, 3, 0, 0, 0), some (.ifCond .eq 7, 3, 36, 0, 0, 0),
  none, none, some (.iconst 1, 1, 0, 0, 0, 1), some (.goto 4, 3, 37, 0, 0, 0), none, none,
  some (.iconst 0, 1, 0, 0, 0, 0), some (.istore_n 3, 1, 3, 0, 0, 0), some (.aload_n 0, 1, 0, 0, 0, 0), some (.iload 4, 2, 4, 0, 0, 0), none, some (.invokevirtual 220, 3, 201, 1, 0, 12),
  none, none, some (.istore 4, 2, 4, 0, 0, 0), none, some (.aload_n 0, 1, 0, 0, 0, 0), some (.iload 4, 2, 4, 0, 0, 0),
  none, some (.invokevirtual 217, 3, 199, 1, 0, 12), none, none, some (.bipush 124, 2, 0, 0, 0, 124), none,
  some (.if_icmp .eq 19, 3, 73, 0, 0, 0), none, none, some (.iload_n 2, 1, 2, 0, 0, 0), some (.ifCond .ne 7, 3, 65, 0, 0, 0), none,
  none, some (.iload_n 3, 1, 3, 0, 0, 0), some (.ifCond .eq 7, 3, 69, 0, 0, 0), none, none, some (.iconst 1, 1, 0, 0, 0, 1),
  some (.goto 4, 3, 70, 0, 0, 0), none, none, some (.iconst 0, 1, 0, 0, 0, 0), some (.istore_n 2, 1, 2, 0, 0, 0), some (.iconst 0, 1, 0, 0, 0, 0),
  some (.istore_n 3, 1, 3, 0, 0, 0), some (.aload_n 0, 1, 0, 0, 0, 0), some (.iload 4, 2, 4, 0, 0, 0), none, some (.invokevirtual 217, 3, 199, 1, 0, 12), none,
  none, some (.bipush 124, 2, 0, 0, 0, 124), none, some (.if_icmp .eq 14, 3, 95, 0, 0, 0), none, none,
  some (.aload_n 0, 1, 0, 0, 0, 0), some (.iload 4, 2, 4, 0, 0, 0), none, some (.invokevirtual 217, 3, 199, 1, 0, 12), none, none,
  some (.bipush 59, 2, 0, 0, 0, 59), none, some (.if_icmp .ne 7, 3, 99, 0, 0, 0), none, none, some (.iconst 1, 1, 0, 0, 0, 1),
  some (.goto 4, 3, 100, 0, 0, 0), none, none, some (.iconst 0, 1, 0, 0, 0, 0), some (.istore 5, 2, 5, 0, 0, 0), none,
  some (.iinc 4 1, 3, 4, 0, 0, 1), none, none, some (.goto (-95), 3, 10, 0, 0, 0), none, none,
  some (.iload_n 2, 1, 2, 0, 0, 0), some (.ireturn, 1, 0, 0, 0, 0)
  ])
def mi_X12_run : am_MI := (yX12_run, cX12_run, 6, (some FieldType.int), [
  some (.iload_n 1, 1, 1, 0, 0, 0), some (.iconst 0, 1, 0, 0, 0, 0), some (.aload_n 0, 1, 0, 0, 0, 0), some (.getfield 7, 3, 12, 0, 0, 0), none, none,
  some (.bipush 6, 2, 0, 0, 0, 6), none, some (.iaload, 1, 0, 0, 0, 0), some (.iconst 1, 1, 0, 0, 0, 1), some (.isub, 1, 0, 0, 0, 0), some (.invokestatic 34, 3, 120, 3, 0, 0),
  none, none, some (.ifCond .eq 12, 3, 26, 0, 0, 0), none, none, some (.iload_n 3, 1, 3, 0, 0, 0),
  some (.iconst 0, 1, 0, 0, 0, 0), some (.iconst 1, 1, 0, 0, 0, 1), some (.invokestatic 34, 3, 120, 3, 0, 0), none, none, some (.ifCond .ne 5, 3, 28, 0, 0, 0),
  none, none, some (.iconst (-1), 1, 0, 0, 0, -1), some (.ireturn, 1, 0, 0, 0, 0), some (.iload_n 2, 1, 2, 0, 0, 0), some (.iconst 1, 1, 0, 0, 0, 1),
  some (.sipush 200, 3, 0, 0, 0, 200), none, none, some (.invokestatic 34, 3, 120, 3, 0, 0), none, none,
  some (.ifCond .ne 6, 3, 42, 0, 0, 0), none, none, some (.bipush (-2), 2, 0, 0, 0, -2), none, some (.ireturn, 1, 0, 0, 0, 0),
  some (.iconst 0, 1, 0, 0, 0, 0), some (.istore 4, 2, 4, 0, 0, 0), none, some (.iload 4, 2, 4, 0, 0, 0), none, some (.sipush 750, 3, 0, 0, 0, 750),
  none, none, some (.if_icmp .ge 21, 3, 71, 0, 0, 0), none, none, some (.aload_n 0, 1, 0, 0, 0, 0),
  some (.getfield 7, 3, 12, 0, 0, 0), none, none, some (.sipush 2478, 3, 0, 0, 0, 2478), none, none,
  some (.iload 4, 2, 4, 0, 0, 0), none, some (.iadd, 1, 0, 0, 0, 0), some (.iconst 0, 1, 0, 0, 0, 0), some (.iastore, 1, 0, 0, 0, 0), some (.iinc 4 1, 3, 4, 0, 0, 1),
  none, none, some (.goto (-23), 3, 45, 0, 0, 0), none, none, some (.iconst 0, 1, 0, 0, 0, 0),
  some (.istore 4, 2, 4, 0, 0, 0), none, some (.iload 4, 2, 4, 0, 0, 0), none, some (.aload_n 0, 1, 0, 0, 0, 0), some (.getfield 7, 3, 12, 0, 0, 0),
  none, none, some (.iconst 3, 1, 0, 0, 0, 3), some (.iaload, 1, 0, 0, 0, 0), some (.if_icmp .ge 43, 3, 125, 0, 0, 0), none,
  none, some (.aload_n 0, 1, 0, 0, 0, 0), some (.getfield 7, 3, 12, 0, 0, 0), none, none, some (.sipush 2478, 3, 0, 0, 0, 2478),
  none, none, some (.aload_n 0, 1, 0, 0, 0, 0), some (.getfield 7, 3, 12, 0, 0, 0), none, none,
  some (.bipush 54, 2, 0, 0, 0, 54), none, some (.iload 4, 2, 4, 0, 0, 0), none, some (.iadd, 1, 0, 0, 0, 0), some (.iaload, 1, 0, 0, 0, 0),
  some (.iadd, 1, 0, 0, 0, 0), some (.dup2, 1, 0, 0, 0, 0), some (.iaload, 1, 0, 0, 0, 0), some (.iconst 1, 1, 0, 0, 0, 1), some (.aload_n 0, 1, 0, 0, 0, 0), some (.getfield 7, 3, 12, 0, 0, 0),
  none, none, some (.bipush 94, 2, 0, 0, 0, 94), none, some (.iload 4, 2, 4, 0, 0, 0), none,
  some (.iadd, 1, 0, 0, 0, 0), some (.iaload, 1, 0, 0, 0, 0), some (.isub, 1, 0, 0, 0, 0), some (.ior, 1, 0, 0, 0, 0), some (.iastore, 1, 0, 0, 0, 0), some (.iinc 4 1, 3, 4, 0, 0, 1),
  none, none, some (.goto (-48), 3, 74, 0, 0, 0), none, none, some (.aload_n 0, 1, 0, 0, 0, 0),
  some (.iload_n 1, 1, 1, 0, 0, 0), some (.putfield 208, 3, 12, 11, 0, 0), none, none, some (.aload_n 0, 1, 0, 0, 0, 0), some (.iload_n 2, 1, 2, 0, 0, 0),
  some (.putfield 214, 3, 12, 12, 0, 0), none, none, some (.aload_n 0, 1, 0, 0, 0, 0), some (.iconst 0, 1, 0, 0, 0, 0), some (.putfield 211, 3, 12, 13, 0, 0),
  none, none, some (.aload_n 0, 1, 0, 0, 0, 0), some (.iconst 0, 1, 0, 0, 0, 0), some (.invokevirtual 226, 3, 204, 1, 0, 12), none,
  none, some (.pop, 1, 0, 0, 0, 0), some (.aload_n 0, 1, 0, 0, 0, 0), some (.getfield 7, 3, 12, 0, 0, 0), none, none,
  some (.bipush 9, 2, 0, 0, 0, 9), none, some (.iconst 1, 1, 0, 0, 0, 1), some (.iastore, 1, 0, 0, 0, 0), some (.iconst 0, 1, 0, 0, 0, 0), some (.istore 4, 2, 4, 0, 0, 0),
  none, some (.iconst 0, 1, 0, 0, 0, 0), some (.istore 5, 2, 5, 0, 0, 0), none, some (.iload 5, 2, 5, 0, 0, 0), none,
  some (.sipush 750, 3, 0, 0, 0, 750), none, none, some (.if_icmp .ge 25, 3, 190, 0, 0, 0), none, none,
  some (.iload 4, 2, 4, 0, 0, 0), none, some (.aload_n 0, 1, 0, 0, 0, 0), some (.getfield 7, 3, 12, 0, 0, 0), none, none,
  some (.sipush 2478, 3, 0, 0, 0, 2478), none, none, some (.iload 5, 2, 5, 0, 0, 0), none, some (.iadd, 1, 0, 0, 0, 0),
  some (.iaload, 1, 0, 0, 0, 0), some (.iadd, 1, 0, 0, 0, 0), some (.istore 4, 2, 4, 0, 0, 0), none, some (.iinc 5 1, 3, 5, 0, 0, 1), none,
  none, some (.goto (-27), 3, 160, 0, 0, 0), none, none, some (.iload_n 3, 1, 3, 0, 0, 0), some (.ifCond .ne 8, 3, 199, 0, 0, 0),
  none, none, some (.iload 4, 2, 4, 0, 0, 0), none, some (.goto 7, 3, 203, 0, 0, 0), none,
  none, some (.aload_n 0, 1, 0, 0, 0, 0), some (.getfield 211, 3, 12, 13, 0, 0), none, none, some (.ireturn, 1, 0, 0, 0, 0)
  ])
def mi_X12_found : am_MI := (yX12_found, cX12_found, 2, (some FieldType.int), [
  some (.iload_n 1, 1, 1, 0, 0, 0), some (.invokestatic 95, 3, 122, 1, 0, 0), none, none, some (.ifCond .ne 8, 3, 12, 0, 0, 0), none,
  none, some (.bipush (-2), 2, 0, 0, 0, -2), none, some (.goto 28, 3, 37, 0, 0, 0), none, none,
  some (.aload_n 0, 1, 0, 0, 0, 0), some (.getfield 7, 3, 12, 0, 0, 0), none, none, some (.bipush 9, 2, 0, 0, 0, 9), none,
  some (.iaload, 1, 0, 0, 0, 0), some (.ifCond .ne 8, 3, 27, 0, 0, 0), none, none, some (.bipush (-3), 2, 0, 0, 0, -3), none,
  some (.goto 13, 3, 37, 0, 0, 0), none, none, some (.aload_n 0, 1, 0, 0, 0, 0), some (.getfield 7, 3, 12, 0, 0, 0), none,
  none, some (.sipush 2478, 3, 0, 0, 0, 2478), none, none, some (.iload_n 1, 1, 1, 0, 0, 0), some (.iadd, 1, 0, 0, 0, 0),
  some (.iaload, 1, 0, 0, 0, 0), some (.ireturn, 1, 0, 0, 0, 0)
  ])
def mi_X12_image : am_MI := (yX12_image, cX12_image, 2, (some FieldType.int), [
  some (.iconst 0, 1, 0, 0, 0, 0), some (.istore_n 1, 1, 1, 0, 0, 0), some (.iload_n 1, 1, 1, 0, 0, 0), some (.sipush 3228, 3, 0, 0, 0, 3228), none, none,
  some (.if_icmp .ge 21, 3, 27, 0, 0, 0), none, none, some (.aload_n 0, 1, 0, 0, 0, 0), some (.getfield 13, 3, 12, 1, 0, 0), none,
  none, some (.iload_n 1, 1, 1, 0, 0, 0), some (.aload_n 0, 1, 0, 0, 0, 0), some (.getfield 7, 3, 12, 0, 0, 0), none, none,
  some (.iload_n 1, 1, 1, 0, 0, 0), some (.iaload, 1, 0, 0, 0, 0), some (.iastore, 1, 0, 0, 0, 0), some (.iinc 1 1, 3, 1, 0, 0, 1), none, none,
  some (.goto (-22), 3, 2, 0, 0, 0), none, none, some (.aload_n 0, 1, 0, 0, 0, 0), some (.iconst 1, 1, 0, 0, 0, 1), some (.putfield 235, 3, 12, 2, 0, 0),
  none, none, some (.aload_n 0, 1, 0, 0, 0, 0), some (.getfield 7, 3, 12, 0, 0, 0), none, none,
  some (.iconst 0, 1, 0, 0, 0, 0), some (.iaload, 1, 0, 0, 0, 0), some (.ireturn, 1, 0, 0, 0, 0)
  ])
def mi_X12_undo : am_MI := (yX12_undo, cX12_undo, 2, (some FieldType.int), [
  some (.aload_n 0, 1, 0, 0, 0, 0), some (.getfield 235, 3, 12, 2, 0, 0), none, none, some (.ifCond .ne 6, 3, 10, 0, 0, 0), none,
  none, some (.bipush (-3), 2, 0, 0, 0, -3), none, some (.ireturn, 1, 0, 0, 0, 0), some (.iconst 0, 1, 0, 0, 0, 0), some (.istore_n 1, 1, 1, 0, 0, 0),
  some (.iload_n 1, 1, 1, 0, 0, 0), some (.sipush 3228, 3, 0, 0, 0, 3228), none, none, some (.if_icmp .ge 21, 3, 37, 0, 0, 0), none,
  none, some (.aload_n 0, 1, 0, 0, 0, 0), some (.getfield 7, 3, 12, 0, 0, 0), none, none, some (.iload_n 1, 1, 1, 0, 0, 0),
  some (.aload_n 0, 1, 0, 0, 0, 0), some (.getfield 13, 3, 12, 1, 0, 0), none, none, some (.iload_n 1, 1, 1, 0, 0, 0), some (.iaload, 1, 0, 0, 0, 0),
  some (.iastore, 1, 0, 0, 0, 0), some (.iinc 1 1, 3, 1, 0, 0, 1), none, none, some (.goto (-22), 3, 12, 0, 0, 0), none,
  none, some (.aload_n 0, 1, 0, 0, 0, 0), some (.getfield 7, 3, 12, 0, 0, 0), none, none, some (.iconst 0, 1, 0, 0, 0, 0),
  some (.iaload, 1, 0, 0, 0, 0), some (.ireturn, 1, 0, 0, 0, 0)
  ])
def mi_X12_count : am_MI := (yX12_count, cX12_count, 2, (some FieldType.int), [
  some (.iload_n 1, 1, 1, 0, 0, 0), some (.iconst 0, 1, 0, 0, 0, 0), some (.bipush 6, 2, 0, 0, 0, 6), none, some (.invokestatic 34, 3, 120, 3, 0, 0), none,
  none, some (.ifCond .eq 12, 3, 19, 0, 0, 0), none, none, some (.aload_n 0, 1, 0, 0, 0, 0), some (.getfield 7, 3, 12, 0, 0, 0),
  none, none, some (.iload_n 1, 1, 1, 0, 0, 0), some (.iaload, 1, 0, 0, 0, 0), some (.goto 20, 3, 36, 0, 0, 0), none,
  none, some (.iload_n 1, 1, 1, 0, 0, 0), some (.bipush 7, 2, 0, 0, 0, 7), none, some (.if_icmp .ne 13, 3, 35, 0, 0, 0), none,
  none, some (.aload_n 0, 1, 0, 0, 0, 0), some (.getfield 7, 3, 12, 0, 0, 0), none, none, some (.bipush 8, 2, 0, 0, 0, 8),
  none, some (.iaload, 1, 0, 0, 0, 0), some (.goto 4, 3, 36, 0, 0, 0), none, none, some (.iconst (-1), 1, 0, 0, 0, -1),
  some (.ireturn, 1, 0, 0, 0, 0)
  ])
def mi_J6_bitCount_0f7a4 : am_MI := (yJ6_bitCount_0f7a4, cJ6_bitCount_0f7a4, 1, (some FieldType.int), [
  some (.iload_n 0, 1, 0, 0, 0, 0), some (.iload_n 0, 1, 0, 0, 0, 0), some (.iconst 1, 1, 0, 0, 0, 1), some (.iushr, 1, 0, 0, 0, 0), some (.ldc_w 265, 3, 0, 0, 0, 1431655765), none,
  none, some (.iand, 1, 0, 0, 0, 0), some (.isub, 1, 0, 0, 0, 0), some (.istore_n 0, 1, 0, 0, 0, 0), some (.iload_n 0, 1, 0, 0, 0, 0), some (.ldc_w 266, 3, 0, 0, 0, 858993459),
  none, none, some (.iand, 1, 0, 0, 0, 0), some (.iload_n 0, 1, 0, 0, 0, 0), some (.iconst 2, 1, 0, 0, 0, 2), some (.iushr, 1, 0, 0, 0, 0),
  some (.ldc_w 266, 3, 0, 0, 0, 858993459), none, none, some (.iand, 1, 0, 0, 0, 0), some (.iadd, 1, 0, 0, 0, 0), some (.istore_n 0, 1, 0, 0, 0, 0),
  some (.iload_n 0, 1, 0, 0, 0, 0), some (.iload_n 0, 1, 0, 0, 0, 0), some (.iconst 4, 1, 0, 0, 0, 4), some (.iushr, 1, 0, 0, 0, 0), some (.iadd, 1, 0, 0, 0, 0), some (.ldc_w 267, 3, 0, 0, 0, 252645135),
  none, none, some (.iand, 1, 0, 0, 0, 0), some (.istore_n 0, 1, 0, 0, 0, 0), some (.iload_n 0, 1, 0, 0, 0, 0), some (.iload_n 0, 1, 0, 0, 0, 0),
  some (.bipush 8, 2, 0, 0, 0, 8), none, some (.iushr, 1, 0, 0, 0, 0), some (.iadd, 1, 0, 0, 0, 0), some (.istore_n 0, 1, 0, 0, 0, 0), some (.iload_n 0, 1, 0, 0, 0, 0),
  some (.iload_n 0, 1, 0, 0, 0, 0), some (.bipush 16, 2, 0, 0, 0, 16), none, some (.iushr, 1, 0, 0, 0, 0), some (.iadd, 1, 0, 0, 0, 0), some (.istore_n 0, 1, 0, 0, 0, 0),
  some (.iload_n 0, 1, 0, 0, 0, 0), some (.bipush 63, 2, 0, 0, 0, 63), none, some (.iand, 1, 0, 0, 0, 0), some (.ireturn, 1, 0, 0, 0, 0)
  ])
def mi_J9_max_7cf53 : am_MI := (yJ9_max_7cf53, cJ9_max_7cf53, 2, (some FieldType.int), [
  some (.iload_n 0, 1, 0, 0, 0, 0), some (.iload_n 1, 1, 1, 0, 0, 0), some (.if_icmp .lt 7, 3, 9, 0, 0, 0), none, none, some (.iload_n 0, 1, 0, 0, 0, 0),
  some (.goto 4, 3, 10, 0, 0, 0), none, none, some (.iload_n 1, 1, 1, 0, 0, 0), some (.ireturn, 1, 0, 0, 0, 0)
  ])
def mi_J9_min_7cf53 : am_MI := (yJ9_min_7cf53, cJ9_min_7cf53, 2, (some FieldType.int), [
  some (.iload_n 0, 1, 0, 0, 0, 0), some (.iload_n 1, 1, 1, 0, 0, 0), some (.if_icmp .gt 7, 3, 9, 0, 0, 0), none, none, some (.iload_n 0, 1, 0, 0, 0, 0),
  some (.goto 4, 3, 10, 0, 0, 0), none, none, some (.iload_n 1, 1, 1, 0, 0, 0), some (.ireturn, 1, 0, 0, 0, 0)
  ])
def mi_J0_length_8abf5 : am_MI := (yJ0_length_8abf5, cJ0_length_8abf5, 1, (some FieldType.int), [
  ])
def mi_J0_charAt_5068e : am_MI := (yJ0_charAt_5068e, cJ0_charAt_5068e, 2, (some FieldType.char), [
  ])
def mi_J7_fill_53178 : am_MI := (yJ7_fill_53178, cJ7_fill_53178, 4, none, [
  some (.iconst 0, 1, 0, 0, 0, 0), some (.istore_n 2, 1, 2, 0, 0, 0), some (.aload_n 0, 1, 0, 0, 0, 0), some (.arraylength, 1, 0, 0, 0, 0), some (.istore_n 3, 1, 3, 0, 0, 0), some (.iload_n 2, 1, 2, 0, 0, 0),
  some (.iload_n 3, 1, 3, 0, 0, 0), some (.if_icmp .ge 13, 3, 20, 0, 0, 0), none, none, some (.aload_n 0, 1, 0, 0, 0, 0), some (.iload_n 2, 1, 2, 0, 0, 0),
  some (.iload_n 1, 1, 1, 0, 0, 0), some (.iastore, 1, 0, 0, 0, 0), some (.iinc 2 1, 3, 2, 0, 0, 1), none, none, some (.goto (-12), 3, 5, 0, 0, 0),
  none, none, some (.return_, 1, 0, 0, 0, 0)
  ])
def am_tabl : List am_MI := [mi_X0_init, mi_X0_become, mi_X0_has, mi_X0_hasStep, mi_X0_isTrue, mi_X0_changeOn, mi_X0_textOn, mi_X0_rowOf, mi_X0_takesHoles, mi_X0_takesEnds, mi_X0_endIn, mi_X0_isTitled, mi_X0_isTitleOf, mi_X0_isUsed, mi_X0_holesOf, mi_X0_countSources, mi_X0_placeOfHole, mi_X1_init, mi_X1_actEnds, mi_X2_init, mi_X2_weigh, mi_X2_lackOf, mi_X2_gives, mi_X2_factOfStep, mi_X2_factOfTerm, mi_X2_saidBy, mi_X2_papersUnder, mi_X2_papersUnderStep, mi_X3_init, mi_X3_actLeans, mi_X3_actShows, mi_X3_actEnds, mi_X4_init, mi_X4_actShows, mi_X4_actEnds, mi_X5_init, mi_X5_actLeans, mi_X6_init, mi_X6_has, mi_X6_begin, mi_X6_spread, mi_X6_bringLeast, mi_X6_useIn, mi_X6_useOnce, mi_X6_settleFrom, mi_X6_bind, mi_X6_bindArg, mi_X6_complete, mi_X6_conclude, mi_X6_arrive, mi_X7_init, mi_X7_read, mi_X7_readParts, mi_X7_readPart, mi_X7_readTerm, mi_X7_readTest, mi_X7_readArg, mi_X7_placeIn, mi_X7_skip, mi_X8_init, mi_X8_actShows, mi_X9_init, mi_X9_faultOf, mi_X9_play, mi_X9_signAt, mi_X9_playPieces, mi_X9_playTry, mi_X9_endOfTry, mi_X10_init, mi_X10_newValues, mi_X10_putLetters, mi_X10_hasInTerms, mi_X10_factOf, mi_X10_testsHold, mi_X10_become, mi_X11_init, mi_X11_day, mi_X11_feed, mi_X11_rule, mi_X11_change, mi_X11_told, mi_X11_paper, mi_X11_shown, mi_X11_of, mi_X11_follows, mi_X11_many, mi_X11_proof, mi_X11_step, mi_X11_lacks, mi_X11_says, mi_X11_check, mi_X11_leans, mi_X11_hole, mi_X11_fill, mi_X11_act, mi_X11_as, mi_X11_title, mi_X11_stand, mi_X11_fall, mi_X11_carry, mi_X11_clash, mi_X11_every, mi_X11_enough, mi_X11_could, mi_X11_tactic, mi_X11_run, mi_X11_found, mi_X11_image, mi_X11_undo, mi_X11_count, mi_X11_isDay, mi_X11_isFact, mi_X11_isPerson, mi_X11_isKind, mi_X11_readTape, mi_X11_followsToday, mi_X11_standsByProof, mi_X11_standingToday, mi_X11_fewest, mi_X12_init, mi_X12_in, mi_X12_isDay, mi_X12_isFact, mi_X12_day, mi_X12_feed, mi_X12_here, mi_X12_eats, mi_X12_shapeOf, mi_X12_argument, mi_X12_term, mi_X12_test, mi_X12_part, mi_X12_lettersIn, mi_X12_termLetters, mi_X12_reads, mi_X12_rule, mi_X12_isRule, mi_X12_change, mi_X12_changeOn, mi_X12_textOn, mi_X12_told, mi_X12_paper, mi_X12_isPaper, mi_X12_shown, mi_X12_of, mi_X12_sets, mi_X12_value, mi_X12_factAt, mi_X12_testsHold, mi_X12_isPlain, mi_X12_areBelow, mi_X12_begins, mi_X12_works, mi_X12_sizes, mi_X12_followsOn, mi_X12_follows, mi_X12_many, mi_X12_isProof, mi_X12_stepAt, mi_X12_proof, mi_X12_isUsed, mi_X12_step, mi_X12_saysOn, mi_X12_termOn, mi_X12_isFrom, mi_X12_lacksOn, mi_X12_holesOf, mi_X12_isTaken, mi_X12_isStep, mi_X12_lacks, mi_X12_says, mi_X12_check, mi_X12_usesEnds, mi_X12_leansOf, mi_X12_leans, mi_X12_hole, mi_X12_fill, mi_X12_aboveOf, mi_X12_leansFrom, mi_X12_showsFrom, mi_X12_endsFrom, mi_X12_act, mi_X12_as, mi_X12_isTitle, mi_X12_title, mi_X12_standsOn, mi_X12_stand, mi_X12_fall, mi_X12_carry, mi_X12_clash, mi_X12_every, mi_X12_many0, mi_X12_fewest, mi_X12_enough, mi_X12_could, mi_X12_readsTactic, mi_X12_readsPiece, mi_X12_readsTry, mi_X12_tactic, mi_X12_byteAt, mi_X12_runs, mi_X12_behindTry, mi_X12_runsTry, mi_X12_runsOnce, mi_X12_runsTactic, mi_X12_run, mi_X12_found, mi_X12_image, mi_X12_undo, mi_X12_count, mi_J6_bitCount_0f7a4, mi_J9_max_7cf53, mi_J9_min_7cf53, mi_J0_length_8abf5, mi_J0_charAt_5068e, mi_J7_fill_53178, mi_X0_init, mi_X3_actLeans, mi_X0_init, mi_X3_actLeans, mi_X5_actLeans, mi_X5_actLeans, mi_X0_init, mi_X0_init, mi_X3_actLeans, mi_X0_init, mi_X3_actShows, mi_X0_init, mi_X3_actShows, mi_X4_actShows, mi_X3_actShows, mi_X0_init, mi_X0_init, mi_X8_actShows, mi_X0_init, mi_X1_actEnds, mi_X0_init, mi_X3_actEnds, mi_X4_actEnds, mi_X3_actEnds, mi_X0_init, mi_X0_init, mi_X3_actEnds]
def am_tab (n : Nat) : am_MI := (am_nth am_tabl n).getD mi_X0_init
end
section
/-! the links, by their places in the tables -/
theorem am_m {w : Cond} (i : Nat) (h : tables_1[i]? = some w) (hg : am_good w = true) : w ∈ am_gt := List.mem_filter.mpr ⟨List.mem_append_right _ (List.mem_of_getElem? h), hg⟩
theorem am_mp {w : Cond} (i : Nat) (h : (k2_sels lw_privs)[i]? = some w) (hg : am_good w = true) : w ∈ am_gt := List.mem_filter.mpr ⟨List.mem_append_left _ (List.mem_of_getElem? h), hg⟩
def am_nm (n : Nat) : String := (am_nth [RX0, RX1, RX2, RX3, RX4, RX5, RX6, RX7, RX8, RX9, RX10, RX11, RX12, RJ6, RJ9, RJ7, RJ0] n).getD ""
theorem ml_X0_init : am_ML mi_X0_init 0 := ⟨(am_m 34 (by decide +kernel) rfl), (am_m 2 (by decide +kernel) rfl), ⟨by decide +kernel, by decide +kernel⟩, by decide +kernel, by decide⟩
theorem ml_X0_become : am_ML mi_X0_become 1 := ⟨(am_m 847 (by decide +kernel) rfl), (am_m 2 (by decide +kernel) rfl), ⟨by decide +kernel, by decide +kernel⟩, by decide +kernel, by decide⟩
theorem ml_X0_has : am_ML mi_X0_has 2 := ⟨(am_m 442 (by decide +kernel) rfl), (am_m 2 (by decide +kernel) rfl), ⟨by decide +kernel, by decide +kernel⟩, by decide +kernel, by decide⟩
theorem ml_X0_hasStep : am_ML mi_X0_hasStep 2 := ⟨(am_m 589 (by decide +kernel) rfl), (am_m 2 (by decide +kernel) rfl), ⟨by decide +kernel, by decide +kernel⟩, by decide +kernel, by decide⟩
theorem ml_X0_isTrue : am_ML mi_X0_isTrue 1 := ⟨(am_m 476 (by decide +kernel) rfl), (am_m 2 (by decide +kernel) rfl), ⟨by decide +kernel, by decide +kernel⟩, by decide +kernel, by decide⟩
theorem ml_X0_changeOn : am_ML mi_X0_changeOn 2 := ⟨(am_m 453 (by decide +kernel) rfl), (am_m 2 (by decide +kernel) rfl), ⟨by decide +kernel, by decide +kernel⟩, by decide +kernel, by decide⟩
theorem ml_X0_textOn : am_ML mi_X0_textOn 2 := ⟨(am_m 457 (by decide +kernel) rfl), (am_m 2 (by decide +kernel) rfl), ⟨by decide +kernel, by decide +kernel⟩, by decide +kernel, by decide⟩
theorem ml_X0_rowOf : am_ML mi_X0_rowOf 2 := ⟨(am_m 580 (by decide +kernel) rfl), (am_m 2 (by decide +kernel) rfl), ⟨by decide +kernel, by decide +kernel⟩, by decide +kernel, by decide⟩
theorem ml_X0_takesHoles : am_ML mi_X0_takesHoles 1 := ⟨(am_m 621 (by decide +kernel) rfl), (am_m 2 (by decide +kernel) rfl), ⟨by decide +kernel, by decide +kernel⟩, by decide +kernel, by decide⟩
theorem ml_X0_takesEnds : am_ML mi_X0_takesEnds 1 := ⟨(am_m 572 (by decide +kernel) rfl), (am_m 2 (by decide +kernel) rfl), ⟨by decide +kernel, by decide +kernel⟩, by decide +kernel, by decide⟩
theorem ml_X0_endIn : am_ML mi_X0_endIn 2 := ⟨(am_m 617 (by decide +kernel) rfl), (am_m 2 (by decide +kernel) rfl), ⟨by decide +kernel, by decide +kernel⟩, by decide +kernel, by decide⟩
theorem ml_X0_isTitled : am_ML mi_X0_isTitled 1 := ⟨(am_m 564 (by decide +kernel) rfl), (am_m 2 (by decide +kernel) rfl), ⟨by decide +kernel, by decide +kernel⟩, by decide +kernel, by decide⟩
theorem ml_X0_isTitleOf : am_ML mi_X0_isTitleOf 1 := ⟨(am_m 739 (by decide +kernel) rfl), (am_m 2 (by decide +kernel) rfl), ⟨by decide +kernel, by decide +kernel⟩, by decide +kernel, by decide⟩
theorem ml_X0_isUsed : am_ML mi_X0_isUsed 1 := ⟨(am_m 568 (by decide +kernel) rfl), (am_m 2 (by decide +kernel) rfl), ⟨by decide +kernel, by decide +kernel⟩, by decide +kernel, by decide⟩
theorem ml_X0_holesOf : am_ML mi_X0_holesOf 1 := ⟨(am_m 625 (by decide +kernel) rfl), (am_m 2 (by decide +kernel) rfl), ⟨by decide +kernel, by decide +kernel⟩, by decide +kernel, by decide⟩
theorem ml_X0_countSources : am_ML mi_X0_countSources 2 := ⟨(am_m 576 (by decide +kernel) rfl), (am_m 2 (by decide +kernel) rfl), ⟨by decide +kernel, by decide +kernel⟩, by decide +kernel, by decide⟩
theorem ml_X0_placeOfHole : am_ML mi_X0_placeOfHole 2 := ⟨(am_m 656 (by decide +kernel) rfl), (am_m 2 (by decide +kernel) rfl), ⟨by decide +kernel, by decide +kernel⟩, by decide +kernel, by decide⟩
theorem ml_X1_init : am_ML mi_X1_init 0 := ⟨(am_m 304 (by decide +kernel) rfl), (am_m 12 (by decide +kernel) rfl), ⟨by decide +kernel, by decide +kernel⟩, by decide +kernel, by decide⟩
theorem ml_X1_actEnds : am_ML mi_X1_actEnds 3 := ⟨(am_m 710 (by decide +kernel) rfl), (am_m 12 (by decide +kernel) rfl), ⟨by decide +kernel, by decide +kernel⟩, by decide +kernel, by decide⟩
theorem ml_X2_init : am_ML mi_X2_init 1 := ⟨(am_m 160 (by decide +kernel) rfl), (am_m 4 (by decide +kernel) rfl), ⟨by decide +kernel, by decide +kernel⟩, by decide +kernel, by decide⟩
theorem ml_X2_weigh : am_ML mi_X2_weigh 3 := ⟨(am_m 593 (by decide +kernel) rfl), (am_m 4 (by decide +kernel) rfl), ⟨by decide +kernel, by decide +kernel⟩, by decide +kernel, by decide⟩
theorem ml_X2_lackOf : am_ML mi_X2_lackOf 3 := ⟨(am_m 607 (by decide +kernel) rfl), (am_m 4 (by decide +kernel) rfl), ⟨by decide +kernel, by decide +kernel⟩, by decide +kernel, by decide⟩
theorem ml_X2_gives : am_ML mi_X2_gives 4 := ⟨(am_m 612 (by decide +kernel) rfl), (am_m 4 (by decide +kernel) rfl), ⟨by decide +kernel, by decide +kernel⟩, by decide +kernel, by decide⟩
theorem ml_X2_factOfStep : am_ML mi_X2_factOfStep 3 := ⟨(am_m 597 (by decide +kernel) rfl), (am_m 4 (by decide +kernel) rfl), ⟨by decide +kernel, by decide +kernel⟩, by decide +kernel, by decide⟩
theorem ml_X2_factOfTerm : am_ML mi_X2_factOfTerm 3 := ⟨(am_m 669 (by decide +kernel) rfl), (am_m 4 (by decide +kernel) rfl), ⟨by decide +kernel, by decide +kernel⟩, by decide +kernel, by decide⟩
theorem ml_X2_saidBy : am_ML mi_X2_saidBy 3 := ⟨(am_m 664 (by decide +kernel) rfl), (am_m 4 (by decide +kernel) rfl), ⟨by decide +kernel, by decide +kernel⟩, by decide +kernel, by decide⟩
theorem ml_X2_papersUnder : am_ML mi_X2_papersUnder 1 := ⟨(am_m 643 (by decide +kernel) rfl), (am_m 4 (by decide +kernel) rfl), ⟨by decide +kernel, by decide +kernel⟩, by decide +kernel, by decide⟩
theorem ml_X2_papersUnderStep : am_ML mi_X2_papersUnderStep 2 := ⟨(am_m 647 (by decide +kernel) rfl), (am_m 4 (by decide +kernel) rfl), ⟨by decide +kernel, by decide +kernel⟩, by decide +kernel, by decide⟩
theorem ml_X3_init : am_ML mi_X3_init 0 := ⟨(am_m 283 (by decide +kernel) rfl), (am_m 9 (by decide +kernel) rfl), ⟨by decide +kernel, by decide +kernel⟩, by decide +kernel, by decide⟩
theorem ml_X3_actLeans : am_ML mi_X3_actLeans 3 := ⟨(am_m 685 (by decide +kernel) rfl), (am_m 9 (by decide +kernel) rfl), ⟨by decide +kernel, by decide +kernel⟩, by decide +kernel, by decide⟩
theorem ml_X3_actShows : am_ML mi_X3_actShows 3 := ⟨(am_m 702 (by decide +kernel) rfl), (am_m 9 (by decide +kernel) rfl), ⟨by decide +kernel, by decide +kernel⟩, by decide +kernel, by decide⟩
theorem ml_X3_actEnds : am_ML mi_X3_actEnds 3 := ⟨(am_m 724 (by decide +kernel) rfl), (am_m 9 (by decide +kernel) rfl), ⟨by decide +kernel, by decide +kernel⟩, by decide +kernel, by decide⟩
theorem ml_X4_init : am_ML mi_X4_init 0 := ⟨(am_m 311 (by decide +kernel) rfl), (am_m 13 (by decide +kernel) rfl), ⟨by decide +kernel, by decide +kernel⟩, by decide +kernel, by decide⟩
theorem ml_X4_actShows : am_ML mi_X4_actShows 3 := ⟨(am_m 693 (by decide +kernel) rfl), (am_m 13 (by decide +kernel) rfl), ⟨by decide +kernel, by decide +kernel⟩, by decide +kernel, by decide⟩
theorem ml_X4_actEnds : am_ML mi_X4_actEnds 3 := ⟨(am_m 714 (by decide +kernel) rfl), (am_m 13 (by decide +kernel) rfl), ⟨by decide +kernel, by decide +kernel⟩, by decide +kernel, by decide⟩
theorem ml_X5_init : am_ML mi_X5_init 0 := ⟨(am_m 290 (by decide +kernel) rfl), (am_m 10 (by decide +kernel) rfl), ⟨by decide +kernel, by decide +kernel⟩, by decide +kernel, by decide⟩
theorem ml_X5_actLeans : am_ML mi_X5_actLeans 3 := ⟨(am_m 681 (by decide +kernel) rfl), (am_m 10 (by decide +kernel) rfl), ⟨by decide +kernel, by decide +kernel⟩, by decide +kernel, by decide⟩
theorem ml_X6_init : am_ML mi_X6_init 1 := ⟨(am_m 193 (by decide +kernel) rfl), (am_m 5 (by decide +kernel) rfl), ⟨by decide +kernel, by decide +kernel⟩, by decide +kernel, by decide⟩
theorem ml_X6_has : am_ML mi_X6_has 1 := ⟨(am_m 545 (by decide +kernel) rfl), (am_m 5 (by decide +kernel) rfl), ⟨by decide +kernel, by decide +kernel⟩, by decide +kernel, by decide⟩
theorem ml_X6_begin : am_ML mi_X6_begin 2 := ⟨(am_m 493 (by decide +kernel) rfl), (am_m 5 (by decide +kernel) rfl), ⟨by decide +kernel, by decide +kernel⟩, by decide +kernel, by decide⟩
theorem ml_X6_spread : am_ML mi_X6_spread 3 := ⟨(am_m 489 (by decide +kernel) rfl), (am_m 5 (by decide +kernel) rfl), ⟨by decide +kernel, by decide +kernel⟩, by decide +kernel, by decide⟩
theorem ml_X6_bringLeast : am_ML mi_X6_bringLeast 1 := ⟨(am_m 502 (by decide +kernel) rfl), (am_m 5 (by decide +kernel) rfl), ⟨by decide +kernel, by decide +kernel⟩, by decide +kernel, by decide⟩
theorem ml_X6_useIn : am_ML mi_X6_useIn 2 := ⟨(am_m 506 (by decide +kernel) rfl), (am_m 5 (by decide +kernel) rfl), ⟨by decide +kernel, by decide +kernel⟩, by decide +kernel, by decide⟩
theorem ml_X6_useOnce : am_ML mi_X6_useOnce 1 := ⟨(am_m 834 (by decide +kernel) rfl), (am_m 5 (by decide +kernel) rfl), ⟨by decide +kernel, by decide +kernel⟩, by decide +kernel, by decide⟩
theorem ml_X6_settleFrom : am_ML mi_X6_settleFrom 1 := ⟨(am_m 812 (by decide +kernel) rfl), (am_m 5 (by decide +kernel) rfl), ⟨by decide +kernel, by decide +kernel⟩, by decide +kernel, by decide⟩
theorem ml_X6_bind : am_ML mi_X6_bind 3 := ⟨(am_m 510 (by decide +kernel) rfl), (am_m 5 (by decide +kernel) rfl), ⟨by decide +kernel, by decide +kernel⟩, by decide +kernel, by decide⟩
theorem ml_X6_bindArg : am_ML mi_X6_bindArg 2 := ⟨(am_m 514 (by decide +kernel) rfl), (am_m 5 (by decide +kernel) rfl), ⟨by decide +kernel, by decide +kernel⟩, by decide +kernel, by decide⟩
theorem ml_X6_complete : am_ML mi_X6_complete 2 := ⟨(am_m 518 (by decide +kernel) rfl), (am_m 5 (by decide +kernel) rfl), ⟨by decide +kernel, by decide +kernel⟩, by decide +kernel, by decide⟩
theorem ml_X6_conclude : am_ML mi_X6_conclude 1 := ⟨(am_m 526 (by decide +kernel) rfl), (am_m 5 (by decide +kernel) rfl), ⟨by decide +kernel, by decide +kernel⟩, by decide +kernel, by decide⟩
theorem ml_X6_arrive : am_ML mi_X6_arrive 2 := ⟨(am_m 497 (by decide +kernel) rfl), (am_m 5 (by decide +kernel) rfl), ⟨by decide +kernel, by decide +kernel⟩, by decide +kernel, by decide⟩
theorem ml_X7_init : am_ML mi_X7_init 0 := ⟨(am_m 258 (by decide +kernel) rfl), (am_m 8 (by decide +kernel) rfl), ⟨by decide +kernel, by decide +kernel⟩, by decide +kernel, by decide⟩
theorem ml_X7_read : am_ML mi_X7_read 3 := ⟨(am_m 355 (by decide +kernel) rfl), (am_m 8 (by decide +kernel) rfl), ⟨by decide +kernel, by decide +kernel⟩, by decide +kernel, by decide⟩
theorem ml_X7_readParts : am_ML mi_X7_readParts 0 := ⟨(am_m 359 (by decide +kernel) rfl), (am_m 8 (by decide +kernel) rfl), ⟨by decide +kernel, by decide +kernel⟩, by decide +kernel, by decide⟩
theorem ml_X7_readPart : am_ML mi_X7_readPart 0 := ⟨(am_m 363 (by decide +kernel) rfl), (am_m 8 (by decide +kernel) rfl), ⟨by decide +kernel, by decide +kernel⟩, by decide +kernel, by decide⟩
theorem ml_X7_readTerm : am_ML mi_X7_readTerm 1 := ⟨(am_m 420 (by decide +kernel) rfl), (am_m 8 (by decide +kernel) rfl), ⟨by decide +kernel, by decide +kernel⟩, by decide +kernel, by decide⟩
theorem ml_X7_readTest : am_ML mi_X7_readTest 1 := ⟨(am_m 433 (by decide +kernel) rfl), (am_m 8 (by decide +kernel) rfl), ⟨by decide +kernel, by decide +kernel⟩, by decide +kernel, by decide⟩
theorem ml_X7_readArg : am_ML mi_X7_readArg 1 := ⟨(am_m 428 (by decide +kernel) rfl), (am_m 8 (by decide +kernel) rfl), ⟨by decide +kernel, by decide +kernel⟩, by decide +kernel, by decide⟩
theorem ml_X7_placeIn : am_ML mi_X7_placeIn 1 := ⟨(am_m 368 (by decide +kernel) rfl), (am_m 8 (by decide +kernel) rfl), ⟨by decide +kernel, by decide +kernel⟩, by decide +kernel, by decide⟩
theorem ml_X7_skip : am_ML mi_X7_skip 1 := ⟨(am_m 424 (by decide +kernel) rfl), (am_m 8 (by decide +kernel) rfl), ⟨by decide +kernel, by decide +kernel⟩, by decide +kernel, by decide⟩
theorem ml_X8_init : am_ML mi_X8_init 0 := ⟨(am_m 297 (by decide +kernel) rfl), (am_m 11 (by decide +kernel) rfl), ⟨by decide +kernel, by decide +kernel⟩, by decide +kernel, by decide⟩
theorem ml_X8_actShows : am_ML mi_X8_actShows 3 := ⟨(am_m 700 (by decide +kernel) rfl), (am_m 11 (by decide +kernel) rfl), ⟨by decide +kernel, by decide +kernel⟩, by decide +kernel, by decide⟩
theorem ml_X9_init : am_ML mi_X9_init 2 := ⟨(am_m 232 (by decide +kernel) rfl), (am_m 7 (by decide +kernel) rfl), ⟨by decide +kernel, by decide +kernel⟩, by decide +kernel, by decide⟩
theorem ml_X9_faultOf : am_ML mi_X9_faultOf 2 := ⟨(am_m 796 (by decide +kernel) rfl), (am_m 7 (by decide +kernel) rfl), ⟨by decide +kernel, by decide +kernel⟩, by decide +kernel, by decide⟩
theorem ml_X9_play : am_ML mi_X9_play 2 := ⟨(am_m 807 (by decide +kernel) rfl), (am_m 7 (by decide +kernel) rfl), ⟨by decide +kernel, by decide +kernel⟩, by decide +kernel, by decide⟩
theorem ml_X9_signAt : am_ML mi_X9_signAt 1 := ⟨(am_m 824 (by decide +kernel) rfl), (am_m 7 (by decide +kernel) rfl), ⟨by decide +kernel, by decide +kernel⟩, by decide +kernel, by decide⟩
theorem ml_X9_playPieces : am_ML mi_X9_playPieces 2 := ⟨(am_m 816 (by decide +kernel) rfl), (am_m 7 (by decide +kernel) rfl), ⟨by decide +kernel, by decide +kernel⟩, by decide +kernel, by decide⟩
theorem ml_X9_playTry : am_ML mi_X9_playTry 3 := ⟨(am_m 828 (by decide +kernel) rfl), (am_m 7 (by decide +kernel) rfl), ⟨by decide +kernel, by decide +kernel⟩, by decide +kernel, by decide⟩
theorem ml_X9_endOfTry : am_ML mi_X9_endOfTry 1 := ⟨(am_m 820 (by decide +kernel) rfl), (am_m 7 (by decide +kernel) rfl), ⟨by decide +kernel, by decide +kernel⟩, by decide +kernel, by decide⟩
theorem ml_X10_init : am_ML mi_X10_init 0 := ⟨(am_m 41 (by decide +kernel) rfl), (am_m 3 (by decide +kernel) rfl), ⟨by decide +kernel, by decide +kernel⟩, by decide +kernel, by decide⟩
theorem ml_X10_newValues : am_ML mi_X10_newValues 0 := ⟨(am_m 164 (by decide +kernel) rfl), (am_m 3 (by decide +kernel) rfl), ⟨by decide +kernel, by decide +kernel⟩, by decide +kernel, by decide⟩
theorem ml_X10_putLetters : am_ML mi_X10_putLetters 2 := ⟨(am_m 601 (by decide +kernel) rfl), (am_m 3 (by decide +kernel) rfl), ⟨by decide +kernel, by decide +kernel⟩, by decide +kernel, by decide⟩
theorem ml_X10_hasInTerms : am_ML mi_X10_hasInTerms 1 := ⟨(am_m 522 (by decide +kernel) rfl), (am_m 3 (by decide +kernel) rfl), ⟨by decide +kernel, by decide +kernel⟩, by decide +kernel, by decide⟩
theorem ml_X10_factOf : am_ML mi_X10_factOf 2 := ⟨(am_m 534 (by decide +kernel) rfl), (am_m 3 (by decide +kernel) rfl), ⟨by decide +kernel, by decide +kernel⟩, by decide +kernel, by decide⟩
theorem ml_X10_testsHold : am_ML mi_X10_testsHold 1 := ⟨(am_m 530 (by decide +kernel) rfl), (am_m 3 (by decide +kernel) rfl), ⟨by decide +kernel, by decide +kernel⟩, by decide +kernel, by decide⟩
theorem ml_X10_become : am_ML mi_X10_become 1 := ⟨(am_m 852 (by decide +kernel) rfl), (am_m 3 (by decide +kernel) rfl), ⟨by decide +kernel, by decide +kernel⟩, by decide +kernel, by decide⟩
theorem ml_X11_isDay : am_ML mi_X11_isDay 1 := ⟨(am_m 449 (by decide +kernel) rfl), (am_m 1 (by decide +kernel) rfl), ⟨by decide +kernel, by decide +kernel⟩, by decide +kernel, by decide⟩
theorem ml_X11_isFact : am_ML mi_X11_isFact 1 := ⟨(am_m 468 (by decide +kernel) rfl), (am_m 1 (by decide +kernel) rfl), ⟨by decide +kernel, by decide +kernel⟩, by decide +kernel, by decide⟩
theorem ml_X11_isPerson : am_ML mi_X11_isPerson 1 := ⟨(am_m 465 (by decide +kernel) rfl), (am_m 1 (by decide +kernel) rfl), ⟨by decide +kernel, by decide +kernel⟩, by decide +kernel, by decide⟩
theorem ml_X11_isKind : am_ML mi_X11_isKind 1 := ⟨(am_m 556 (by decide +kernel) rfl), (am_m 1 (by decide +kernel) rfl), ⟨by decide +kernel, by decide +kernel⟩, by decide +kernel, by decide⟩
theorem ml_X11_readTape : am_ML mi_X11_readTape 1 := ⟨(am_m 351 (by decide +kernel) rfl), (am_m 1 (by decide +kernel) rfl), ⟨by decide +kernel, by decide +kernel⟩, by decide +kernel, by decide⟩
theorem ml_X11_followsToday : am_ML mi_X11_followsToday 2 := ⟨(am_m 771 (by decide +kernel) rfl), (am_m 1 (by decide +kernel) rfl), ⟨by decide +kernel, by decide +kernel⟩, by decide +kernel, by decide⟩
theorem ml_X11_standsByProof : am_ML mi_X11_standsByProof 2 := ⟨(am_m 747 (by decide +kernel) rfl), (am_m 1 (by decide +kernel) rfl), ⟨by decide +kernel, by decide +kernel⟩, by decide +kernel, by decide⟩
theorem ml_X11_standingToday : am_ML mi_X11_standingToday 1 := ⟨(am_m 755 (by decide +kernel) rfl), (am_m 1 (by decide +kernel) rfl), ⟨by decide +kernel, by decide +kernel⟩, by decide +kernel, by decide⟩
theorem ml_X11_fewest : am_ML mi_X11_fewest 3 := ⟨(am_m 785 (by decide +kernel) rfl), (am_m 1 (by decide +kernel) rfl), ⟨by decide +kernel, by decide +kernel⟩, by decide +kernel, by decide⟩
theorem ml_X12_in : am_ML mi_X12_in 3 := ⟨(am_m 920 (by decide +kernel) rfl), (am_m 14 (by decide +kernel) rfl), ⟨by decide +kernel, by decide +kernel⟩, by decide +kernel, by decide⟩
theorem ml_X12_isDay : am_ML mi_X12_isDay 1 := ⟨(am_m 983 (by decide +kernel) rfl), (am_m 14 (by decide +kernel) rfl), ⟨by decide +kernel, by decide +kernel⟩, by decide +kernel, by decide⟩
theorem ml_X12_isFact : am_ML mi_X12_isFact 1 := ⟨(am_m 998 (by decide +kernel) rfl), (am_m 14 (by decide +kernel) rfl), ⟨by decide +kernel, by decide +kernel⟩, by decide +kernel, by decide⟩
theorem ml_X12_here : am_ML mi_X12_here 0 := ⟨(am_m 941 (by decide +kernel) rfl), (am_m 14 (by decide +kernel) rfl), ⟨by decide +kernel, by decide +kernel⟩, by decide +kernel, by decide⟩
theorem ml_X12_eats : am_ML mi_X12_eats 1 := ⟨(am_m 952 (by decide +kernel) rfl), (am_m 14 (by decide +kernel) rfl), ⟨by decide +kernel, by decide +kernel⟩, by decide +kernel, by decide⟩
theorem ml_X12_shapeOf : am_ML mi_X12_shapeOf 1 := ⟨(am_m 944 (by decide +kernel) rfl), (am_m 14 (by decide +kernel) rfl), ⟨by decide +kernel, by decide +kernel⟩, by decide +kernel, by decide⟩
theorem ml_X12_argument : am_ML mi_X12_argument 0 := ⟨(am_m 956 (by decide +kernel) rfl), (am_m 14 (by decide +kernel) rfl), ⟨by decide +kernel, by decide +kernel⟩, by decide +kernel, by decide⟩
theorem ml_X12_term : am_ML mi_X12_term 1 := ⟨(am_m 948 (by decide +kernel) rfl), (am_m 14 (by decide +kernel) rfl), ⟨by decide +kernel, by decide +kernel⟩, by decide +kernel, by decide⟩
theorem ml_X12_test : am_ML mi_X12_test 1 := ⟨(am_m 960 (by decide +kernel) rfl), (am_m 14 (by decide +kernel) rfl), ⟨by decide +kernel, by decide +kernel⟩, by decide +kernel, by decide⟩
theorem ml_X12_part : am_ML mi_X12_part 1 := ⟨(am_m 937 (by decide +kernel) rfl), (am_m 14 (by decide +kernel) rfl), ⟨by decide +kernel, by decide +kernel⟩, by decide +kernel, by decide⟩
theorem ml_X12_lettersIn : am_ML mi_X12_lettersIn 2 := ⟨(am_m 964 (by decide +kernel) rfl), (am_m 14 (by decide +kernel) rfl), ⟨by decide +kernel, by decide +kernel⟩, by decide +kernel, by decide⟩
theorem ml_X12_termLetters : am_ML mi_X12_termLetters 1 := ⟨(am_m 968 (by decide +kernel) rfl), (am_m 14 (by decide +kernel) rfl), ⟨by decide +kernel, by decide +kernel⟩, by decide +kernel, by decide⟩
theorem ml_X12_reads : am_ML mi_X12_reads 0 := ⟨(am_m 933 (by decide +kernel) rfl), (am_m 14 (by decide +kernel) rfl), ⟨by decide +kernel, by decide +kernel⟩, by decide +kernel, by decide⟩
theorem ml_X12_isRule : am_ML mi_X12_isRule 1 := ⟨(am_m 976 (by decide +kernel) rfl), (am_m 14 (by decide +kernel) rfl), ⟨by decide +kernel, by decide +kernel⟩, by decide +kernel, by decide⟩
theorem ml_X12_changeOn : am_ML mi_X12_changeOn 2 := ⟨(am_m 987 (by decide +kernel) rfl), (am_m 14 (by decide +kernel) rfl), ⟨by decide +kernel, by decide +kernel⟩, by decide +kernel, by decide⟩
theorem ml_X12_textOn : am_ML mi_X12_textOn 2 := ⟨(am_m 991 (by decide +kernel) rfl), (am_m 14 (by decide +kernel) rfl), ⟨by decide +kernel, by decide +kernel⟩, by decide +kernel, by decide⟩
theorem ml_X12_isPaper : am_ML mi_X12_isPaper 1 := ⟨(am_m 1006 (by decide +kernel) rfl), (am_m 14 (by decide +kernel) rfl), ⟨by decide +kernel, by decide +kernel⟩, by decide +kernel, by decide⟩
theorem ml_X12_sets : am_ML mi_X12_sets 1 := ⟨(am_m 1027 (by decide +kernel) rfl), (am_m 14 (by decide +kernel) rfl), ⟨by decide +kernel, by decide +kernel⟩, by decide +kernel, by decide⟩
theorem ml_X12_value : am_ML mi_X12_value 1 := ⟨(am_m 1043 (by decide +kernel) rfl), (am_m 14 (by decide +kernel) rfl), ⟨by decide +kernel, by decide +kernel⟩, by decide +kernel, by decide⟩
theorem ml_X12_factAt : am_ML mi_X12_factAt 1 := ⟨(am_m 1039 (by decide +kernel) rfl), (am_m 14 (by decide +kernel) rfl), ⟨by decide +kernel, by decide +kernel⟩, by decide +kernel, by decide⟩
theorem ml_X12_testsHold : am_ML mi_X12_testsHold 1 := ⟨(am_m 1047 (by decide +kernel) rfl), (am_m 14 (by decide +kernel) rfl), ⟨by decide +kernel, by decide +kernel⟩, by decide +kernel, by decide⟩
theorem ml_X12_isPlain : am_ML mi_X12_isPlain 1 := ⟨(am_m 1031 (by decide +kernel) rfl), (am_m 14 (by decide +kernel) rfl), ⟨by decide +kernel, by decide +kernel⟩, by decide +kernel, by decide⟩
theorem ml_X12_areBelow : am_ML mi_X12_areBelow 2 := ⟨(am_m 1035 (by decide +kernel) rfl), (am_m 14 (by decide +kernel) rfl), ⟨by decide +kernel, by decide +kernel⟩, by decide +kernel, by decide⟩
theorem ml_X12_begins : am_ML mi_X12_begins 0 := ⟨(am_m 1022 (by decide +kernel) rfl), (am_m 14 (by decide +kernel) rfl), ⟨by decide +kernel, by decide +kernel⟩, by decide +kernel, by decide⟩
theorem ml_X12_works : am_ML mi_X12_works 1 := ⟨(am_m 1018 (by decide +kernel) rfl), (am_m 14 (by decide +kernel) rfl), ⟨by decide +kernel, by decide +kernel⟩, by decide +kernel, by decide⟩
theorem ml_X12_sizes : am_ML mi_X12_sizes 1 := ⟨(am_m 1051 (by decide +kernel) rfl), (am_m 14 (by decide +kernel) rfl), ⟨by decide +kernel, by decide +kernel⟩, by decide +kernel, by decide⟩
theorem ml_X12_followsOn : am_ML mi_X12_followsOn 2 := ⟨(am_m 1177 (by decide +kernel) rfl), (am_m 14 (by decide +kernel) rfl), ⟨by decide +kernel, by decide +kernel⟩, by decide +kernel, by decide⟩
theorem ml_X12_isProof : am_ML mi_X12_isProof 1 := ⟨(am_m 1067 (by decide +kernel) rfl), (am_m 14 (by decide +kernel) rfl), ⟨by decide +kernel, by decide +kernel⟩, by decide +kernel, by decide⟩
theorem ml_X12_stepAt : am_ML mi_X12_stepAt 2 := ⟨(am_m 1078 (by decide +kernel) rfl), (am_m 14 (by decide +kernel) rfl), ⟨by decide +kernel, by decide +kernel⟩, by decide +kernel, by decide⟩
theorem ml_X12_isUsed : am_ML mi_X12_isUsed 1 := ⟨(am_m 1071 (by decide +kernel) rfl), (am_m 14 (by decide +kernel) rfl), ⟨by decide +kernel, by decide +kernel⟩, by decide +kernel, by decide⟩
theorem ml_X12_saysOn : am_ML mi_X12_saysOn 3 := ⟨(am_m 1102 (by decide +kernel) rfl), (am_m 14 (by decide +kernel) rfl), ⟨by decide +kernel, by decide +kernel⟩, by decide +kernel, by decide⟩
theorem ml_X12_termOn : am_ML mi_X12_termOn 4 := ⟨(am_m 1098 (by decide +kernel) rfl), (am_m 14 (by decide +kernel) rfl), ⟨by decide +kernel, by decide +kernel⟩, by decide +kernel, by decide⟩
theorem ml_X12_isFrom : am_ML mi_X12_isFrom 4 := ⟨(am_m 1094 (by decide +kernel) rfl), (am_m 14 (by decide +kernel) rfl), ⟨by decide +kernel, by decide +kernel⟩, by decide +kernel, by decide⟩
theorem ml_X12_lacksOn : am_ML mi_X12_lacksOn 3 := ⟨(am_m 1090 (by decide +kernel) rfl), (am_m 14 (by decide +kernel) rfl), ⟨by decide +kernel, by decide +kernel⟩, by decide +kernel, by decide⟩
theorem ml_X12_holesOf : am_ML mi_X12_holesOf 2 := ⟨(am_m 1110 (by decide +kernel) rfl), (am_m 14 (by decide +kernel) rfl), ⟨by decide +kernel, by decide +kernel⟩, by decide +kernel, by decide⟩
theorem ml_X12_isTaken : am_ML mi_X12_isTaken 2 := ⟨(am_m 1106 (by decide +kernel) rfl), (am_m 14 (by decide +kernel) rfl), ⟨by decide +kernel, by decide +kernel⟩, by decide +kernel, by decide⟩
theorem ml_X12_isStep : am_ML mi_X12_isStep 2 := ⟨(am_m 1086 (by decide +kernel) rfl), (am_m 14 (by decide +kernel) rfl), ⟨by decide +kernel, by decide +kernel⟩, by decide +kernel, by decide⟩
theorem ml_X12_usesEnds : am_ML mi_X12_usesEnds 1 := ⟨(am_m 1075 (by decide +kernel) rfl), (am_m 14 (by decide +kernel) rfl), ⟨by decide +kernel, by decide +kernel⟩, by decide +kernel, by decide⟩
theorem ml_X12_leansOf : am_ML mi_X12_leansOf 1 := ⟨(am_m 1126 (by decide +kernel) rfl), (am_m 14 (by decide +kernel) rfl), ⟨by decide +kernel, by decide +kernel⟩, by decide +kernel, by decide⟩
theorem ml_X12_aboveOf : am_ML mi_X12_aboveOf 1 := ⟨(am_m 1145 (by decide +kernel) rfl), (am_m 14 (by decide +kernel) rfl), ⟨by decide +kernel, by decide +kernel⟩, by decide +kernel, by decide⟩
theorem ml_X12_leansFrom : am_ML mi_X12_leansFrom 3 := ⟨(am_m 1142 (by decide +kernel) rfl), (am_m 14 (by decide +kernel) rfl), ⟨by decide +kernel, by decide +kernel⟩, by decide +kernel, by decide⟩
theorem ml_X12_showsFrom : am_ML mi_X12_showsFrom 3 := ⟨(am_m 1149 (by decide +kernel) rfl), (am_m 14 (by decide +kernel) rfl), ⟨by decide +kernel, by decide +kernel⟩, by decide +kernel, by decide⟩
theorem ml_X12_endsFrom : am_ML mi_X12_endsFrom 3 := ⟨(am_m 1153 (by decide +kernel) rfl), (am_m 14 (by decide +kernel) rfl), ⟨by decide +kernel, by decide +kernel⟩, by decide +kernel, by decide⟩
theorem ml_X12_isTitle : am_ML mi_X12_isTitle 1 := ⟨(am_m 1169 (by decide +kernel) rfl), (am_m 14 (by decide +kernel) rfl), ⟨by decide +kernel, by decide +kernel⟩, by decide +kernel, by decide⟩
theorem ml_X12_standsOn : am_ML mi_X12_standsOn 2 := ⟨(am_m 1173 (by decide +kernel) rfl), (am_m 14 (by decide +kernel) rfl), ⟨by decide +kernel, by decide +kernel⟩, by decide +kernel, by decide⟩
theorem ml_X12_many0 : am_ML mi_X12_many0 1 := ⟨(am_m 1200 (by decide +kernel) rfl), (am_m 14 (by decide +kernel) rfl), ⟨by decide +kernel, by decide +kernel⟩, by decide +kernel, by decide⟩
theorem ml_X12_fewest : am_ML mi_X12_fewest 3 := ⟨(am_m 1204 (by decide +kernel) rfl), (am_m 14 (by decide +kernel) rfl), ⟨by decide +kernel, by decide +kernel⟩, by decide +kernel, by decide⟩
theorem ml_X12_readsTactic : am_ML mi_X12_readsTactic 0 := ⟨(am_m 1216 (by decide +kernel) rfl), (am_m 14 (by decide +kernel) rfl), ⟨by decide +kernel, by decide +kernel⟩, by decide +kernel, by decide⟩
theorem ml_X12_readsPiece : am_ML mi_X12_readsPiece 0 := ⟨(am_m 1220 (by decide +kernel) rfl), (am_m 14 (by decide +kernel) rfl), ⟨by decide +kernel, by decide +kernel⟩, by decide +kernel, by decide⟩
theorem ml_X12_readsTry : am_ML mi_X12_readsTry 0 := ⟨(am_m 1224 (by decide +kernel) rfl), (am_m 14 (by decide +kernel) rfl), ⟨by decide +kernel, by decide +kernel⟩, by decide +kernel, by decide⟩
theorem ml_X12_byteAt : am_ML mi_X12_byteAt 1 := ⟨(am_m 1244 (by decide +kernel) rfl), (am_m 14 (by decide +kernel) rfl), ⟨by decide +kernel, by decide +kernel⟩, by decide +kernel, by decide⟩
theorem ml_X12_runs : am_ML mi_X12_runs 1 := ⟨(am_m 1252 (by decide +kernel) rfl), (am_m 14 (by decide +kernel) rfl), ⟨by decide +kernel, by decide +kernel⟩, by decide +kernel, by decide⟩
theorem ml_X12_behindTry : am_ML mi_X12_behindTry 1 := ⟨(am_m 1240 (by decide +kernel) rfl), (am_m 14 (by decide +kernel) rfl), ⟨by decide +kernel, by decide +kernel⟩, by decide +kernel, by decide⟩
theorem ml_X12_runsTry : am_ML mi_X12_runsTry 1 := ⟨(am_m 1236 (by decide +kernel) rfl), (am_m 14 (by decide +kernel) rfl), ⟨by decide +kernel, by decide +kernel⟩, by decide +kernel, by decide⟩
theorem ml_X12_runsOnce : am_ML mi_X12_runsOnce 1 := ⟨(am_m 1248 (by decide +kernel) rfl), (am_m 14 (by decide +kernel) rfl), ⟨by decide +kernel, by decide +kernel⟩, by decide +kernel, by decide⟩
theorem ml_X12_runsTactic : am_ML mi_X12_runsTactic 1 := ⟨(am_m 1232 (by decide +kernel) rfl), (am_m 14 (by decide +kernel) rfl), ⟨by decide +kernel, by decide +kernel⟩, by decide +kernel, by decide⟩
theorem ml_J6_bitCount_0f7a4 : am_ML mi_J6_bitCount_0f7a4 1 := ⟨(am_m 778 (by decide +kernel) rfl), (am_m 20 (by decide +kernel) rfl), ⟨by decide +kernel, by decide +kernel⟩, by decide +kernel, by decide⟩
theorem ml_J9_max_7cf53 : am_ML mi_J9_max_7cf53 2 := ⟨(am_m 537 (by decide +kernel) rfl), (am_m 19 (by decide +kernel) rfl), ⟨by decide +kernel, by decide +kernel⟩, by decide +kernel, by decide⟩
theorem ml_J9_min_7cf53 : am_ML mi_J9_min_7cf53 2 := ⟨(am_m 541 (by decide +kernel) rfl), (am_m 19 (by decide +kernel) rfl), ⟨by decide +kernel, by decide +kernel⟩, by decide +kernel, by decide⟩
theorem ml_J0_length_8abf5 : am_ML mi_J0_length_8abf5 0 := ⟨(am_m 372 (by decide +kernel) rfl), (am_m 15 (by decide +kernel) rfl), ⟨by decide +kernel, by decide +kernel⟩, by decide +kernel, by decide⟩
theorem ml_J0_charAt_5068e : am_ML mi_J0_charAt_5068e 1 := ⟨(am_m 382 (by decide +kernel) rfl), (am_m 15 (by decide +kernel) rfl), ⟨by decide +kernel, by decide +kernel⟩, by decide +kernel, by decide⟩
theorem ml_J7_fill_53178 : am_ML mi_J7_fill_53178 2 := ⟨(am_m 199 (by decide +kernel) rfl), (am_m 6 (by decide +kernel) rfl), ⟨by decide +kernel, by decide +kernel⟩, by decide +kernel, by decide⟩
end
section
/-! links -/
theorem lf_0 : am_FL (am_nm 0) 9 0 0 := ⟨(RX0, TX0, 18), rfl, by decide, Or.inl (am_m 72 (by decide +kernel) rfl)⟩
theorem lf_1 : am_FL (am_nm 0) 15 0 1 := ⟨(RX0, TX0, 18), rfl, by decide, Or.inl (am_m 77 (by decide +kernel) rfl)⟩
theorem lf_2 : am_FL (am_nm 0) 21 0 2 := ⟨(RX0, TX0, 18), rfl, by decide, Or.inl (am_m 79 (by decide +kernel) rfl)⟩
theorem lf_3 : am_FL (am_nm 0) 25 0 3 := ⟨(RX0, TX0, 18), rfl, by decide, Or.inl (am_m 81 (by decide +kernel) rfl)⟩
theorem lf_4 : am_FL (am_nm 0) 28 0 4 := ⟨(RX0, TX0, 18), rfl, by decide, Or.inl (am_m 83 (by decide +kernel) rfl)⟩
theorem lf_5 : am_FL (am_nm 0) 31 0 5 := ⟨(RX0, TX0, 18), rfl, by decide, Or.inl (am_m 85 (by decide +kernel) rfl)⟩
theorem lf_6 : am_FL (am_nm 0) 34 0 6 := ⟨(RX0, TX0, 18), rfl, by decide, Or.inl (am_m 89 (by decide +kernel) rfl)⟩
theorem lf_7 : am_FL (am_nm 0) 37 0 7 := ⟨(RX0, TX0, 18), rfl, by decide, Or.inl (am_m 91 (by decide +kernel) rfl)⟩
theorem lf_8 : am_FL (am_nm 0) 41 0 8 := ⟨(RX0, TX0, 18), rfl, by decide, Or.inl (am_m 94 (by decide +kernel) rfl)⟩
theorem lf_9 : am_FL (am_nm 0) 44 0 9 := ⟨(RX0, TX0, 18), rfl, by decide, Or.inl (am_m 97 (by decide +kernel) rfl)⟩
theorem lf_10 : am_FL (am_nm 0) 47 0 10 := ⟨(RX0, TX0, 18), rfl, by decide, Or.inl (am_m 100 (by decide +kernel) rfl)⟩
theorem lf_11 : am_FL (am_nm 0) 50 0 11 := ⟨(RX0, TX0, 18), rfl, by decide, Or.inl (am_m 103 (by decide +kernel) rfl)⟩
theorem lf_12 : am_FL (am_nm 0) 53 0 12 := ⟨(RX0, TX0, 18), rfl, by decide, Or.inl (am_m 105 (by decide +kernel) rfl)⟩
theorem lf_13 : am_FL (am_nm 0) 56 0 13 := ⟨(RX0, TX0, 18), rfl, by decide, Or.inl (am_m 107 (by decide +kernel) rfl)⟩
theorem lf_14 : am_FL (am_nm 0) 59 0 14 := ⟨(RX0, TX0, 18), rfl, by decide, Or.inl (am_m 109 (by decide +kernel) rfl)⟩
theorem lf_15 : am_FL (am_nm 0) 62 0 15 := ⟨(RX0, TX0, 18), rfl, by decide, Or.inl (am_m 112 (by decide +kernel) rfl)⟩
theorem lf_16 : am_FL (am_nm 0) 65 0 16 := ⟨(RX0, TX0, 18), rfl, by decide, Or.inl (am_m 115 (by decide +kernel) rfl)⟩
theorem lf_17 : am_FL (am_nm 0) 69 0 17 := ⟨(RX0, TX0, 18), rfl, by decide, Or.inl (am_m 117 (by decide +kernel) rfl)⟩
theorem lf_18 : am_FL (am_nm 2) 9 2 1 := ⟨(RX2, TX2, 7), rfl, by decide, Or.inl (am_m 166 (by decide +kernel) rfl)⟩
theorem lf_19 : am_FL (am_nm 2) 15 2 2 := ⟨(RX2, TX2, 7), rfl, by decide, Or.inl (am_m 168 (by decide +kernel) rfl)⟩
theorem lf_20 : am_FL (am_nm 2) 18 2 3 := ⟨(RX2, TX2, 7), rfl, by decide, Or.inl (am_m 169 (by decide +kernel) rfl)⟩
theorem lf_21 : am_FL (am_nm 2) 22 2 4 := ⟨(RX2, TX2, 7), rfl, by decide, Or.inl (am_m 171 (by decide +kernel) rfl)⟩
theorem lf_22 : am_FL (am_nm 2) 31 2 5 := ⟨(RX2, TX2, 7), rfl, by decide, Or.inl (am_m 172 (by decide +kernel) rfl)⟩
theorem lf_23 : am_FL (am_nm 2) 34 2 6 := ⟨(RX2, TX2, 7), rfl, by decide, Or.inl (am_m 173 (by decide +kernel) rfl)⟩
theorem lf_24 : am_FL (am_nm 2) 38 2 0 := ⟨(RX2, TX2, 7), rfl, by decide, Or.inl (am_m 165 (by decide +kernel) rfl)⟩
theorem lf_25 : am_FL (am_nm 2) 42 0 9 := ⟨(RX0, TX0, 18), rfl, by decide, Or.inr ⟨"DeedProofs", (am_m 98 (by decide +kernel) rfl)⟩⟩
theorem lf_26 : am_FL (am_nm 2) 54 0 8 := ⟨(RX0, TX0, 18), rfl, by decide, Or.inr ⟨"DeedProofs", (am_m 95 (by decide +kernel) rfl)⟩⟩
theorem lf_27 : am_FL (am_nm 2) 65 0 10 := ⟨(RX0, TX0, 18), rfl, by decide, Or.inr ⟨"DeedProofs", (am_m 101 (by decide +kernel) rfl)⟩⟩
theorem lf_28 : am_FL (am_nm 2) 72 10 0 := ⟨(RX10, TX10, 5), rfl, by decide, Or.inr ⟨"DeedProofs", (am_m 45 (by decide +kernel) rfl)⟩⟩
theorem lf_29 : am_FL (am_nm 2) 95 0 5 := ⟨(RX0, TX0, 18), rfl, by decide, Or.inr ⟨"DeedProofs", (am_m 87 (by decide +kernel) rfl)⟩⟩
theorem lf_30 : am_FL (am_nm 2) 105 0 0 := ⟨(RX0, TX0, 18), rfl, by decide, Or.inr ⟨"DeedProofs", (am_m 75 (by decide +kernel) rfl)⟩⟩
theorem lf_31 : am_FL (am_nm 6) 9 6 1 := ⟨(RX6, TX6, 8), rfl, by decide, Or.inl (am_m 201 (by decide +kernel) rfl)⟩
theorem lf_32 : am_FL (am_nm 6) 15 6 2 := ⟨(RX6, TX6, 8), rfl, by decide, Or.inl (am_m 203 (by decide +kernel) rfl)⟩
theorem lf_33 : am_FL (am_nm 6) 18 6 3 := ⟨(RX6, TX6, 8), rfl, by decide, Or.inl (am_m 204 (by decide +kernel) rfl)⟩
theorem lf_34 : am_FL (am_nm 6) 22 6 4 := ⟨(RX6, TX6, 8), rfl, by decide, Or.inl (am_m 207 (by decide +kernel) rfl)⟩
theorem lf_35 : am_FL (am_nm 6) 26 6 5 := ⟨(RX6, TX6, 8), rfl, by decide, Or.inl (am_m 208 (by decide +kernel) rfl)⟩
theorem lf_36 : am_FL (am_nm 6) 32 6 6 := ⟨(RX6, TX6, 8), rfl, by decide, Or.inl (am_m 209 (by decide +kernel) rfl)⟩
theorem lf_37 : am_FL (am_nm 6) 40 6 7 := ⟨(RX6, TX6, 8), rfl, by decide, Or.inl (am_m 210 (by decide +kernel) rfl)⟩
theorem lf_38 : am_FL (am_nm 6) 43 6 0 := ⟨(RX6, TX6, 8), rfl, by decide, Or.inl (am_m 200 (by decide +kernel) rfl)⟩
theorem lf_39 : am_FL (am_nm 6) 53 0 0 := ⟨(RX0, TX0, 18), rfl, by decide, Or.inr ⟨"DeedProofs", (am_m 74 (by decide +kernel) rfl)⟩⟩
theorem lf_40 : am_FL (am_nm 6) 58 0 5 := ⟨(RX0, TX0, 18), rfl, by decide, Or.inr ⟨"DeedProofs", (am_m 86 (by decide +kernel) rfl)⟩⟩
theorem lf_41 : am_FL (am_nm 6) 81 10 0 := ⟨(RX10, TX10, 5), rfl, by decide, Or.inr ⟨"DeedProofs", (am_m 46 (by decide +kernel) rfl)⟩⟩
theorem lf_42 : am_FL (am_nm 6) 94 10 3 := ⟨(RX10, TX10, 5), rfl, by decide, Or.inr ⟨"DeedProofs", (am_m 55 (by decide +kernel) rfl)⟩⟩
theorem lf_43 : am_FL (am_nm 7) 9 7 0 := ⟨(RX7, TX7, 5), rfl, by decide, Or.inl (am_m 262 (by decide +kernel) rfl)⟩
theorem lf_44 : am_FL (am_nm 7) 15 7 1 := ⟨(RX7, TX7, 5), rfl, by decide, Or.inl (am_m 263 (by decide +kernel) rfl)⟩
theorem lf_45 : am_FL (am_nm 7) 19 7 2 := ⟨(RX7, TX7, 5), rfl, by decide, Or.inl (am_m 264 (by decide +kernel) rfl)⟩
theorem lf_46 : am_FL (am_nm 7) 25 7 3 := ⟨(RX7, TX7, 5), rfl, by decide, Or.inl (am_m 265 (by decide +kernel) rfl)⟩
theorem lf_47 : am_FL (am_nm 7) 29 7 4 := ⟨(RX7, TX7, 5), rfl, by decide, Or.inl (am_m 266 (by decide +kernel) rfl)⟩
theorem lf_48 : am_FL (am_nm 7) 32 10 0 := ⟨(RX10, TX10, 5), rfl, by decide, Or.inr ⟨"DeedProofs", (am_m 44 (by decide +kernel) rfl)⟩⟩
theorem lf_49 : am_FL (am_nm 7) 35 10 1 := ⟨(RX10, TX10, 5), rfl, by decide, Or.inr ⟨"DeedProofs", (am_m 49 (by decide +kernel) rfl)⟩⟩
theorem lf_50 : am_FL (am_nm 7) 38 10 2 := ⟨(RX10, TX10, 5), rfl, by decide, Or.inr ⟨"DeedProofs", (am_m 52 (by decide +kernel) rfl)⟩⟩
theorem lf_51 : am_FL (am_nm 7) 67 10 3 := ⟨(RX10, TX10, 5), rfl, by decide, Or.inr ⟨"DeedProofs", (am_m 54 (by decide +kernel) rfl)⟩⟩
theorem lf_52 : am_FL (am_nm 7) 77 10 4 := ⟨(RX10, TX10, 5), rfl, by decide, Or.inr ⟨"DeedProofs", (am_m 57 (by decide +kernel) rfl)⟩⟩
theorem lf_53 : am_FL (am_nm 9) 9 9 2 := ⟨(RX9, TX9, 6), rfl, by decide, Or.inl (am_m 236 (by decide +kernel) rfl)⟩
theorem lf_54 : am_FL (am_nm 9) 15 9 3 := ⟨(RX9, TX9, 6), rfl, by decide, Or.inl (am_m 238 (by decide +kernel) rfl)⟩
theorem lf_55 : am_FL (am_nm 9) 18 9 4 := ⟨(RX9, TX9, 6), rfl, by decide, Or.inl (am_m 239 (by decide +kernel) rfl)⟩
theorem lf_56 : am_FL (am_nm 9) 21 9 5 := ⟨(RX9, TX9, 6), rfl, by decide, Or.inl (am_m 240 (by decide +kernel) rfl)⟩
theorem lf_57 : am_FL (am_nm 9) 24 9 0 := ⟨(RX9, TX9, 6), rfl, by decide, Or.inl (am_m 234 (by decide +kernel) rfl)⟩
theorem lf_58 : am_FL (am_nm 9) 28 9 1 := ⟨(RX9, TX9, 6), rfl, by decide, Or.inl (am_m 235 (by decide +kernel) rfl)⟩
theorem lf_59 : am_FL (am_nm 9) 32 0 7 := ⟨(RX0, TX0, 18), rfl, by decide, Or.inr ⟨"DeedProofs", (am_m 92 (by decide +kernel) rfl)⟩⟩
theorem lf_60 : am_FL (am_nm 9) 47 0 14 := ⟨(RX0, TX0, 18), rfl, by decide, Or.inr ⟨"DeedProofs", (am_m 110 (by decide +kernel) rfl)⟩⟩
theorem lf_61 : am_FL (am_nm 9) 55 0 15 := ⟨(RX0, TX0, 18), rfl, by decide, Or.inr ⟨"DeedProofs", (am_m 113 (by decide +kernel) rfl)⟩⟩
theorem lf_62 : am_FL (am_nm 9) 70 6 3 := ⟨(RX6, TX6, 8), rfl, by decide, Or.inr ⟨"DeedProofs", (am_m 205 (by decide +kernel) rfl)⟩⟩
theorem lf_63 : am_FL (am_nm 9) 75 0 0 := ⟨(RX0, TX0, 18), rfl, by decide, Or.inr ⟨"DeedProofs", (am_m 76 (by decide +kernel) rfl)⟩⟩
theorem lf_64 : am_FL (am_nm 10) 9 10 0 := ⟨(RX10, TX10, 5), rfl, by decide, Or.inl (am_m 43 (by decide +kernel) rfl)⟩
theorem lf_65 : am_FL (am_nm 10) 15 10 1 := ⟨(RX10, TX10, 5), rfl, by decide, Or.inl (am_m 48 (by decide +kernel) rfl)⟩
theorem lf_66 : am_FL (am_nm 10) 18 10 2 := ⟨(RX10, TX10, 5), rfl, by decide, Or.inl (am_m 51 (by decide +kernel) rfl)⟩
theorem lf_67 : am_FL (am_nm 10) 21 10 3 := ⟨(RX10, TX10, 5), rfl, by decide, Or.inl (am_m 53 (by decide +kernel) rfl)⟩
theorem lf_68 : am_FL (am_nm 10) 25 10 4 := ⟨(RX10, TX10, 5), rfl, by decide, Or.inl (am_m 56 (by decide +kernel) rfl)⟩
theorem lf_69 : am_FL (am_nm 11) 10 11 0 := ⟨(RX11, TX11, 7), rfl, by decide, Or.inl (am_m 314 (by decide +kernel) rfl)⟩
theorem lf_70 : am_FL (am_nm 11) 21 11 1 := ⟨(RX11, TX11, 7), rfl, by decide, Or.inl (am_m 315 (by decide +kernel) rfl)⟩
theorem lf_71 : am_FL (am_nm 11) 28 11 2 := ⟨(RX11, TX11, 7), rfl, by decide, Or.inl (am_m 316 (by decide +kernel) rfl)⟩
theorem lf_72 : am_FL (am_nm 11) 37 11 3 := ⟨(RX11, TX11, 7), rfl, by decide, Or.inl (am_m 317 (by decide +kernel) rfl)⟩
theorem lf_73 : am_FL (am_nm 11) 44 11 4 := ⟨(RX11, TX11, 7), rfl, by decide, Or.inl (am_m 318 (by decide +kernel) rfl)⟩
theorem lf_74 : am_FL (am_nm 11) 63 11 5 := ⟨(RX11, TX11, 7), rfl, by decide, Or.inl (am_m 319 (by decide +kernel) rfl)⟩
theorem lf_75 : am_FL (am_nm 11) 67 11 6 := ⟨(RX11, TX11, 7), rfl, by decide, Or.inl (am_m 320 (by decide +kernel) rfl)⟩
theorem lf_76 : am_FL (am_nm 11) 70 0 0 := ⟨(RX0, TX0, 18), rfl, by decide, Or.inr ⟨"DeedProofs", (am_m 73 (by decide +kernel) rfl)⟩⟩
theorem lf_77 : am_FL (am_nm 11) 74 0 1 := ⟨(RX0, TX0, 18), rfl, by decide, Or.inr ⟨"DeedProofs", (am_m 78 (by decide +kernel) rfl)⟩⟩
theorem lf_78 : am_FL (am_nm 11) 78 0 2 := ⟨(RX0, TX0, 18), rfl, by decide, Or.inr ⟨"DeedProofs", (am_m 80 (by decide +kernel) rfl)⟩⟩
theorem lf_79 : am_FL (am_nm 11) 90 0 3 := ⟨(RX0, TX0, 18), rfl, by decide, Or.inr ⟨"DeedProofs", (am_m 82 (by decide +kernel) rfl)⟩⟩
theorem lf_80 : am_FL (am_nm 11) 93 0 4 := ⟨(RX0, TX0, 18), rfl, by decide, Or.inr ⟨"DeedProofs", (am_m 84 (by decide +kernel) rfl)⟩⟩
theorem lf_81 : am_FL (am_nm 11) 108 10 0 := ⟨(RX10, TX10, 5), rfl, by decide, Or.inr ⟨"DeedProofs", (am_m 47 (by decide +kernel) rfl)⟩⟩
theorem lf_82 : am_FL (am_nm 11) 114 10 1 := ⟨(RX10, TX10, 5), rfl, by decide, Or.inr ⟨"DeedProofs", (am_m 50 (by decide +kernel) rfl)⟩⟩
theorem lf_83 : am_FL (am_nm 11) 123 0 5 := ⟨(RX0, TX0, 18), rfl, by decide, Or.inr ⟨"DeedProofs", (am_m 88 (by decide +kernel) rfl)⟩⟩
theorem lf_84 : am_FL (am_nm 11) 126 0 6 := ⟨(RX0, TX0, 18), rfl, by decide, Or.inr ⟨"DeedProofs", (am_m 90 (by decide +kernel) rfl)⟩⟩
theorem lf_85 : am_FL (am_nm 11) 129 0 7 := ⟨(RX0, TX0, 18), rfl, by decide, Or.inr ⟨"DeedProofs", (am_m 93 (by decide +kernel) rfl)⟩⟩
theorem lf_86 : am_FL (am_nm 11) 141 6 1 := ⟨(RX6, TX6, 8), rfl, by decide, Or.inr ⟨"DeedProofs", (am_m 202 (by decide +kernel) rfl)⟩⟩
theorem lf_87 : am_FL (am_nm 11) 144 6 3 := ⟨(RX6, TX6, 8), rfl, by decide, Or.inr ⟨"DeedProofs", (am_m 206 (by decide +kernel) rfl)⟩⟩
theorem lf_88 : am_FL (am_nm 11) 150 0 8 := ⟨(RX0, TX0, 18), rfl, by decide, Or.inr ⟨"DeedProofs", (am_m 96 (by decide +kernel) rfl)⟩⟩
theorem lf_89 : am_FL (am_nm 11) 153 0 9 := ⟨(RX0, TX0, 18), rfl, by decide, Or.inr ⟨"DeedProofs", (am_m 99 (by decide +kernel) rfl)⟩⟩
theorem lf_90 : am_FL (am_nm 11) 165 0 10 := ⟨(RX0, TX0, 18), rfl, by decide, Or.inr ⟨"DeedProofs", (am_m 102 (by decide +kernel) rfl)⟩⟩
theorem lf_91 : am_FL (am_nm 11) 175 2 1 := ⟨(RX2, TX2, 7), rfl, by decide, Or.inr ⟨"DeedProofs", (am_m 167 (by decide +kernel) rfl)⟩⟩
theorem lf_92 : am_FL (am_nm 11) 182 2 3 := ⟨(RX2, TX2, 7), rfl, by decide, Or.inr ⟨"DeedProofs", (am_m 170 (by decide +kernel) rfl)⟩⟩
theorem lf_93 : am_FL (am_nm 11) 217 0 11 := ⟨(RX0, TX0, 18), rfl, by decide, Or.inr ⟨"DeedProofs", (am_m 104 (by decide +kernel) rfl)⟩⟩
theorem lf_94 : am_FL (am_nm 11) 220 0 12 := ⟨(RX0, TX0, 18), rfl, by decide, Or.inr ⟨"DeedProofs", (am_m 106 (by decide +kernel) rfl)⟩⟩
theorem lf_95 : am_FL (am_nm 11) 223 0 13 := ⟨(RX0, TX0, 18), rfl, by decide, Or.inr ⟨"DeedProofs", (am_m 108 (by decide +kernel) rfl)⟩⟩
theorem lf_96 : am_FL (am_nm 11) 247 0 15 := ⟨(RX0, TX0, 18), rfl, by decide, Or.inr ⟨"DeedProofs", (am_m 114 (by decide +kernel) rfl)⟩⟩
theorem lf_97 : am_FL (am_nm 11) 256 0 14 := ⟨(RX0, TX0, 18), rfl, by decide, Or.inr ⟨"DeedProofs", (am_m 111 (by decide +kernel) rfl)⟩⟩
theorem lf_98 : am_FL (am_nm 11) 263 0 16 := ⟨(RX0, TX0, 18), rfl, by decide, Or.inr ⟨"DeedProofs", (am_m 116 (by decide +kernel) rfl)⟩⟩
theorem lf_99 : am_FL (am_nm 11) 266 0 17 := ⟨(RX0, TX0, 18), rfl, by decide, Or.inr ⟨"DeedProofs", (am_m 118 (by decide +kernel) rfl)⟩⟩
theorem lf_100 : am_FL (am_nm 11) 270 9 2 := ⟨(RX9, TX9, 6), rfl, by decide, Or.inr ⟨"DeedProofs", (am_m 237 (by decide +kernel) rfl)⟩⟩
theorem lf_101 : am_FL (am_nm 12) 7 12 0 := ⟨(RX12, TX12, 15), rfl, by decide, Or.inl (am_m 868 (by decide +kernel) rfl)⟩
theorem lf_102 : am_FL (am_nm 12) 13 12 1 := ⟨(RX12, TX12, 15), rfl, by decide, Or.inl (am_m 869 (by decide +kernel) rfl)⟩
theorem lf_103 : am_FL (am_nm 12) 16 12 5 := ⟨(RX12, TX12, 15), rfl, by decide, Or.inl (am_m 873 (by decide +kernel) rfl)⟩
theorem lf_104 : am_FL (am_nm 12) 19 12 6 := ⟨(RX12, TX12, 15), rfl, by decide, Or.inl (am_m 874 (by decide +kernel) rfl)⟩
theorem lf_105 : am_FL (am_nm 12) 22 12 7 := ⟨(RX12, TX12, 15), rfl, by decide, Or.inl (am_m 875 (by decide +kernel) rfl)⟩
theorem lf_106 : am_FL (am_nm 12) 25 12 8 := ⟨(RX12, TX12, 15), rfl, by decide, Or.inl (am_m 876 (by decide +kernel) rfl)⟩
theorem lf_107 : am_FL (am_nm 12) 28 12 9 := ⟨(RX12, TX12, 15), rfl, by decide, Or.inl (am_m 877 (by decide +kernel) rfl)⟩
theorem lf_108 : am_FL (am_nm 12) 31 12 14 := ⟨(RX12, TX12, 15), rfl, by decide, Or.inl (am_m 882 (by decide +kernel) rfl)⟩
theorem lf_109 : am_FL (am_nm 12) 40 12 3 := ⟨(RX12, TX12, 15), rfl, by decide, Or.inl (am_m 871 (by decide +kernel) rfl)⟩
theorem lf_110 : am_FL (am_nm 12) 44 12 4 := ⟨(RX12, TX12, 15), rfl, by decide, Or.inl (am_m 872 (by decide +kernel) rfl)⟩
theorem lf_111 : am_FL (am_nm 12) 202 12 10 := ⟨(RX12, TX12, 15), rfl, by decide, Or.inl (am_m 878 (by decide +kernel) rfl)⟩
theorem lf_112 : am_FL (am_nm 12) 208 12 11 := ⟨(RX12, TX12, 15), rfl, by decide, Or.inl (am_m 879 (by decide +kernel) rfl)⟩
theorem lf_113 : am_FL (am_nm 12) 211 12 13 := ⟨(RX12, TX12, 15), rfl, by decide, Or.inl (am_m 881 (by decide +kernel) rfl)⟩
theorem lf_114 : am_FL (am_nm 12) 214 12 12 := ⟨(RX12, TX12, 15), rfl, by decide, Or.inl (am_m 880 (by decide +kernel) rfl)⟩
theorem lf_115 : am_FL (am_nm 12) 235 12 2 := ⟨(RX12, TX12, 15), rfl, by decide, Or.inl (am_m 870 (by decide +kernel) rfl)⟩
def am_lkF_0 : List (Nat × Nat × Nat × Nat) := [(0, 9, 0, 0), (0, 15, 0, 1), (0, 21, 0, 2), (0, 25, 0, 3), (0, 28, 0, 4), (0, 31, 0, 5), (0, 34, 0, 6), (0, 37, 0, 7), (0, 41, 0, 8), (0, 44, 0, 9), (0, 47, 0, 10), (0, 50, 0, 11), (0, 53, 0, 12), (0, 56, 0, 13), (0, 59, 0, 14), (0, 62, 0, 15)]
theorem am_lkF_ok0 : ∀ q ∈ am_lkF_0, am_FL (am_nm q.1) q.2.1 q.2.2.1 q.2.2.2 := List.forall_mem_cons.mpr ⟨lf_0, List.forall_mem_cons.mpr ⟨lf_1, List.forall_mem_cons.mpr ⟨lf_2, List.forall_mem_cons.mpr ⟨lf_3, List.forall_mem_cons.mpr ⟨lf_4, List.forall_mem_cons.mpr ⟨lf_5, List.forall_mem_cons.mpr ⟨lf_6, List.forall_mem_cons.mpr ⟨lf_7, List.forall_mem_cons.mpr ⟨lf_8, List.forall_mem_cons.mpr ⟨lf_9, List.forall_mem_cons.mpr ⟨lf_10, List.forall_mem_cons.mpr ⟨lf_11, List.forall_mem_cons.mpr ⟨lf_12, List.forall_mem_cons.mpr ⟨lf_13, List.forall_mem_cons.mpr ⟨lf_14, List.forall_mem_cons.mpr ⟨lf_15, fun _ h => absurd h List.not_mem_nil⟩⟩⟩⟩⟩⟩⟩⟩⟩⟩⟩⟩⟩⟩⟩⟩
def am_lkF_1 : List (Nat × Nat × Nat × Nat) := [(0, 65, 0, 16), (0, 69, 0, 17), (2, 9, 2, 1), (2, 15, 2, 2), (2, 18, 2, 3), (2, 22, 2, 4), (2, 31, 2, 5), (2, 34, 2, 6), (2, 38, 2, 0), (2, 42, 0, 9), (2, 54, 0, 8), (2, 65, 0, 10), (2, 72, 10, 0), (2, 95, 0, 5), (2, 105, 0, 0), (6, 9, 6, 1)]
theorem am_lkF_ok1 : ∀ q ∈ am_lkF_1, am_FL (am_nm q.1) q.2.1 q.2.2.1 q.2.2.2 := List.forall_mem_cons.mpr ⟨lf_16, List.forall_mem_cons.mpr ⟨lf_17, List.forall_mem_cons.mpr ⟨lf_18, List.forall_mem_cons.mpr ⟨lf_19, List.forall_mem_cons.mpr ⟨lf_20, List.forall_mem_cons.mpr ⟨lf_21, List.forall_mem_cons.mpr ⟨lf_22, List.forall_mem_cons.mpr ⟨lf_23, List.forall_mem_cons.mpr ⟨lf_24, List.forall_mem_cons.mpr ⟨lf_25, List.forall_mem_cons.mpr ⟨lf_26, List.forall_mem_cons.mpr ⟨lf_27, List.forall_mem_cons.mpr ⟨lf_28, List.forall_mem_cons.mpr ⟨lf_29, List.forall_mem_cons.mpr ⟨lf_30, List.forall_mem_cons.mpr ⟨lf_31, fun _ h => absurd h List.not_mem_nil⟩⟩⟩⟩⟩⟩⟩⟩⟩⟩⟩⟩⟩⟩⟩⟩
def am_lkF_2 : List (Nat × Nat × Nat × Nat) := [(6, 15, 6, 2), (6, 18, 6, 3), (6, 22, 6, 4), (6, 26, 6, 5), (6, 32, 6, 6), (6, 40, 6, 7), (6, 43, 6, 0), (6, 53, 0, 0), (6, 58, 0, 5), (6, 81, 10, 0), (6, 94, 10, 3), (7, 9, 7, 0), (7, 15, 7, 1), (7, 19, 7, 2), (7, 25, 7, 3), (7, 29, 7, 4)]
theorem am_lkF_ok2 : ∀ q ∈ am_lkF_2, am_FL (am_nm q.1) q.2.1 q.2.2.1 q.2.2.2 := List.forall_mem_cons.mpr ⟨lf_32, List.forall_mem_cons.mpr ⟨lf_33, List.forall_mem_cons.mpr ⟨lf_34, List.forall_mem_cons.mpr ⟨lf_35, List.forall_mem_cons.mpr ⟨lf_36, List.forall_mem_cons.mpr ⟨lf_37, List.forall_mem_cons.mpr ⟨lf_38, List.forall_mem_cons.mpr ⟨lf_39, List.forall_mem_cons.mpr ⟨lf_40, List.forall_mem_cons.mpr ⟨lf_41, List.forall_mem_cons.mpr ⟨lf_42, List.forall_mem_cons.mpr ⟨lf_43, List.forall_mem_cons.mpr ⟨lf_44, List.forall_mem_cons.mpr ⟨lf_45, List.forall_mem_cons.mpr ⟨lf_46, List.forall_mem_cons.mpr ⟨lf_47, fun _ h => absurd h List.not_mem_nil⟩⟩⟩⟩⟩⟩⟩⟩⟩⟩⟩⟩⟩⟩⟩⟩
def am_lkF_3 : List (Nat × Nat × Nat × Nat) := [(7, 32, 10, 0), (7, 35, 10, 1), (7, 38, 10, 2), (7, 67, 10, 3), (7, 77, 10, 4), (9, 9, 9, 2), (9, 15, 9, 3), (9, 18, 9, 4), (9, 21, 9, 5), (9, 24, 9, 0), (9, 28, 9, 1), (9, 32, 0, 7), (9, 47, 0, 14), (9, 55, 0, 15), (9, 70, 6, 3), (9, 75, 0, 0)]
theorem am_lkF_ok3 : ∀ q ∈ am_lkF_3, am_FL (am_nm q.1) q.2.1 q.2.2.1 q.2.2.2 := List.forall_mem_cons.mpr ⟨lf_48, List.forall_mem_cons.mpr ⟨lf_49, List.forall_mem_cons.mpr ⟨lf_50, List.forall_mem_cons.mpr ⟨lf_51, List.forall_mem_cons.mpr ⟨lf_52, List.forall_mem_cons.mpr ⟨lf_53, List.forall_mem_cons.mpr ⟨lf_54, List.forall_mem_cons.mpr ⟨lf_55, List.forall_mem_cons.mpr ⟨lf_56, List.forall_mem_cons.mpr ⟨lf_57, List.forall_mem_cons.mpr ⟨lf_58, List.forall_mem_cons.mpr ⟨lf_59, List.forall_mem_cons.mpr ⟨lf_60, List.forall_mem_cons.mpr ⟨lf_61, List.forall_mem_cons.mpr ⟨lf_62, List.forall_mem_cons.mpr ⟨lf_63, fun _ h => absurd h List.not_mem_nil⟩⟩⟩⟩⟩⟩⟩⟩⟩⟩⟩⟩⟩⟩⟩⟩
def am_lkF_4 : List (Nat × Nat × Nat × Nat) := [(10, 9, 10, 0), (10, 15, 10, 1), (10, 18, 10, 2), (10, 21, 10, 3), (10, 25, 10, 4), (11, 10, 11, 0), (11, 21, 11, 1), (11, 28, 11, 2), (11, 37, 11, 3), (11, 44, 11, 4), (11, 63, 11, 5), (11, 67, 11, 6), (11, 70, 0, 0), (11, 74, 0, 1), (11, 78, 0, 2), (11, 90, 0, 3)]
theorem am_lkF_ok4 : ∀ q ∈ am_lkF_4, am_FL (am_nm q.1) q.2.1 q.2.2.1 q.2.2.2 := List.forall_mem_cons.mpr ⟨lf_64, List.forall_mem_cons.mpr ⟨lf_65, List.forall_mem_cons.mpr ⟨lf_66, List.forall_mem_cons.mpr ⟨lf_67, List.forall_mem_cons.mpr ⟨lf_68, List.forall_mem_cons.mpr ⟨lf_69, List.forall_mem_cons.mpr ⟨lf_70, List.forall_mem_cons.mpr ⟨lf_71, List.forall_mem_cons.mpr ⟨lf_72, List.forall_mem_cons.mpr ⟨lf_73, List.forall_mem_cons.mpr ⟨lf_74, List.forall_mem_cons.mpr ⟨lf_75, List.forall_mem_cons.mpr ⟨lf_76, List.forall_mem_cons.mpr ⟨lf_77, List.forall_mem_cons.mpr ⟨lf_78, List.forall_mem_cons.mpr ⟨lf_79, fun _ h => absurd h List.not_mem_nil⟩⟩⟩⟩⟩⟩⟩⟩⟩⟩⟩⟩⟩⟩⟩⟩
def am_lkF_5 : List (Nat × Nat × Nat × Nat) := [(11, 93, 0, 4), (11, 108, 10, 0), (11, 114, 10, 1), (11, 123, 0, 5), (11, 126, 0, 6), (11, 129, 0, 7), (11, 141, 6, 1), (11, 144, 6, 3), (11, 150, 0, 8), (11, 153, 0, 9), (11, 165, 0, 10), (11, 175, 2, 1), (11, 182, 2, 3), (11, 217, 0, 11), (11, 220, 0, 12), (11, 223, 0, 13)]
theorem am_lkF_ok5 : ∀ q ∈ am_lkF_5, am_FL (am_nm q.1) q.2.1 q.2.2.1 q.2.2.2 := List.forall_mem_cons.mpr ⟨lf_80, List.forall_mem_cons.mpr ⟨lf_81, List.forall_mem_cons.mpr ⟨lf_82, List.forall_mem_cons.mpr ⟨lf_83, List.forall_mem_cons.mpr ⟨lf_84, List.forall_mem_cons.mpr ⟨lf_85, List.forall_mem_cons.mpr ⟨lf_86, List.forall_mem_cons.mpr ⟨lf_87, List.forall_mem_cons.mpr ⟨lf_88, List.forall_mem_cons.mpr ⟨lf_89, List.forall_mem_cons.mpr ⟨lf_90, List.forall_mem_cons.mpr ⟨lf_91, List.forall_mem_cons.mpr ⟨lf_92, List.forall_mem_cons.mpr ⟨lf_93, List.forall_mem_cons.mpr ⟨lf_94, List.forall_mem_cons.mpr ⟨lf_95, fun _ h => absurd h List.not_mem_nil⟩⟩⟩⟩⟩⟩⟩⟩⟩⟩⟩⟩⟩⟩⟩⟩
def am_lkF_6 : List (Nat × Nat × Nat × Nat) := [(11, 247, 0, 15), (11, 256, 0, 14), (11, 263, 0, 16), (11, 266, 0, 17), (11, 270, 9, 2), (12, 7, 12, 0), (12, 13, 12, 1), (12, 16, 12, 5), (12, 19, 12, 6), (12, 22, 12, 7), (12, 25, 12, 8), (12, 28, 12, 9), (12, 31, 12, 14), (12, 40, 12, 3), (12, 44, 12, 4), (12, 202, 12, 10)]
theorem am_lkF_ok6 : ∀ q ∈ am_lkF_6, am_FL (am_nm q.1) q.2.1 q.2.2.1 q.2.2.2 := List.forall_mem_cons.mpr ⟨lf_96, List.forall_mem_cons.mpr ⟨lf_97, List.forall_mem_cons.mpr ⟨lf_98, List.forall_mem_cons.mpr ⟨lf_99, List.forall_mem_cons.mpr ⟨lf_100, List.forall_mem_cons.mpr ⟨lf_101, List.forall_mem_cons.mpr ⟨lf_102, List.forall_mem_cons.mpr ⟨lf_103, List.forall_mem_cons.mpr ⟨lf_104, List.forall_mem_cons.mpr ⟨lf_105, List.forall_mem_cons.mpr ⟨lf_106, List.forall_mem_cons.mpr ⟨lf_107, List.forall_mem_cons.mpr ⟨lf_108, List.forall_mem_cons.mpr ⟨lf_109, List.forall_mem_cons.mpr ⟨lf_110, List.forall_mem_cons.mpr ⟨lf_111, fun _ h => absurd h List.not_mem_nil⟩⟩⟩⟩⟩⟩⟩⟩⟩⟩⟩⟩⟩⟩⟩⟩
def am_lkF_7 : List (Nat × Nat × Nat × Nat) := [(12, 208, 12, 11), (12, 211, 12, 13), (12, 214, 12, 12), (12, 235, 12, 2)]
theorem am_lkF_ok7 : ∀ q ∈ am_lkF_7, am_FL (am_nm q.1) q.2.1 q.2.2.1 q.2.2.2 := List.forall_mem_cons.mpr ⟨lf_112, List.forall_mem_cons.mpr ⟨lf_113, List.forall_mem_cons.mpr ⟨lf_114, List.forall_mem_cons.mpr ⟨lf_115, fun _ h => absurd h List.not_mem_nil⟩⟩⟩⟩
def am_lkF : List (Nat × Nat × Nat × Nat) := am_lkF_0 ++ (am_lkF_1 ++ (am_lkF_2 ++ (am_lkF_3 ++ (am_lkF_4 ++ (am_lkF_5 ++ (am_lkF_6 ++ (am_lkF_7)))))))
theorem am_lkF_ok : ∀ q ∈ am_lkF, am_FL (am_nm q.1) q.2.1 q.2.2.1 q.2.2.2 := List.forall_mem_append.mpr ⟨am_lkF_ok0, List.forall_mem_append.mpr ⟨am_lkF_ok1, List.forall_mem_append.mpr ⟨am_lkF_ok2, List.forall_mem_append.mpr ⟨am_lkF_ok3, List.forall_mem_append.mpr ⟨am_lkF_ok4, List.forall_mem_append.mpr ⟨am_lkF_ok5, List.forall_mem_append.mpr ⟨am_lkF_ok6, am_lkF_ok7⟩⟩⟩⟩⟩⟩⟩
theorem lp_0 : ∀ name : String, (true = true → name = "<init>") → am_FP (am_nm 0) name 9 0 0 := fun _ h => ⟨(RX0, TX0, 18), rfl, by decide, Or.inr ⟨rfl, (am_m 72 (by decide +kernel) rfl), h rfl, rfl⟩⟩
theorem lp_1 : ∀ name : String, (true = true → name = "<init>") → am_FP (am_nm 0) name 15 0 1 := fun _ h => ⟨(RX0, TX0, 18), rfl, by decide, Or.inr ⟨rfl, (am_m 77 (by decide +kernel) rfl), h rfl, rfl⟩⟩
theorem lp_2 : ∀ name : String, (true = true → name = "<init>") → am_FP (am_nm 0) name 21 0 2 := fun _ h => ⟨(RX0, TX0, 18), rfl, by decide, Or.inr ⟨rfl, (am_m 79 (by decide +kernel) rfl), h rfl, rfl⟩⟩
theorem lp_3 : ∀ name : String, (true = true → name = "<init>") → am_FP (am_nm 0) name 25 0 3 := fun _ h => ⟨(RX0, TX0, 18), rfl, by decide, Or.inr ⟨rfl, (am_m 81 (by decide +kernel) rfl), h rfl, rfl⟩⟩
theorem lp_4 : ∀ name : String, (true = true → name = "<init>") → am_FP (am_nm 0) name 28 0 4 := fun _ h => ⟨(RX0, TX0, 18), rfl, by decide, Or.inr ⟨rfl, (am_m 83 (by decide +kernel) rfl), h rfl, rfl⟩⟩
theorem lp_5 : ∀ name : String, (true = true → name = "<init>") → am_FP (am_nm 0) name 31 0 5 := fun _ h => ⟨(RX0, TX0, 18), rfl, by decide, Or.inr ⟨rfl, (am_m 85 (by decide +kernel) rfl), h rfl, rfl⟩⟩
theorem lp_6 : ∀ name : String, (true = true → name = "<init>") → am_FP (am_nm 0) name 34 0 6 := fun _ h => ⟨(RX0, TX0, 18), rfl, by decide, Or.inr ⟨rfl, (am_m 89 (by decide +kernel) rfl), h rfl, rfl⟩⟩
theorem lp_7 : ∀ name : String, (false = true → name = "<init>") → am_FP (am_nm 0) name 37 0 7 := fun _ _ => ⟨(RX0, TX0, 18), rfl, by decide, Or.inl ⟨rfl, Or.inl (am_m 91 (by decide +kernel) rfl)⟩⟩
theorem lp_8 : ∀ name : String, (true = true → name = "<init>") → am_FP (am_nm 0) name 37 0 7 := fun _ _ => ⟨(RX0, TX0, 18), rfl, by decide, Or.inl ⟨rfl, Or.inl (am_m 91 (by decide +kernel) rfl)⟩⟩
theorem lp_9 : ∀ name : String, (true = true → name = "<init>") → am_FP (am_nm 0) name 41 0 8 := fun _ h => ⟨(RX0, TX0, 18), rfl, by decide, Or.inr ⟨rfl, (am_m 94 (by decide +kernel) rfl), h rfl, rfl⟩⟩
theorem lp_10 : ∀ name : String, (true = true → name = "<init>") → am_FP (am_nm 0) name 44 0 9 := fun _ h => ⟨(RX0, TX0, 18), rfl, by decide, Or.inr ⟨rfl, (am_m 97 (by decide +kernel) rfl), h rfl, rfl⟩⟩
theorem lp_11 : ∀ name : String, (true = true → name = "<init>") → am_FP (am_nm 0) name 47 0 10 := fun _ h => ⟨(RX0, TX0, 18), rfl, by decide, Or.inr ⟨rfl, (am_m 100 (by decide +kernel) rfl), h rfl, rfl⟩⟩
theorem lp_12 : ∀ name : String, (true = true → name = "<init>") → am_FP (am_nm 0) name 50 0 11 := fun _ h => ⟨(RX0, TX0, 18), rfl, by decide, Or.inr ⟨rfl, (am_m 103 (by decide +kernel) rfl), h rfl, rfl⟩⟩
theorem lp_13 : ∀ name : String, (true = true → name = "<init>") → am_FP (am_nm 0) name 53 0 12 := fun _ h => ⟨(RX0, TX0, 18), rfl, by decide, Or.inr ⟨rfl, (am_m 105 (by decide +kernel) rfl), h rfl, rfl⟩⟩
theorem lp_14 : ∀ name : String, (true = true → name = "<init>") → am_FP (am_nm 0) name 56 0 13 := fun _ h => ⟨(RX0, TX0, 18), rfl, by decide, Or.inr ⟨rfl, (am_m 107 (by decide +kernel) rfl), h rfl, rfl⟩⟩
theorem lp_15 : ∀ name : String, (true = true → name = "<init>") → am_FP (am_nm 0) name 59 0 14 := fun _ h => ⟨(RX0, TX0, 18), rfl, by decide, Or.inr ⟨rfl, (am_m 109 (by decide +kernel) rfl), h rfl, rfl⟩⟩
theorem lp_16 : ∀ name : String, (true = true → name = "<init>") → am_FP (am_nm 0) name 62 0 15 := fun _ h => ⟨(RX0, TX0, 18), rfl, by decide, Or.inr ⟨rfl, (am_m 112 (by decide +kernel) rfl), h rfl, rfl⟩⟩
theorem lp_17 : ∀ name : String, (true = true → name = "<init>") → am_FP (am_nm 0) name 65 0 16 := fun _ h => ⟨(RX0, TX0, 18), rfl, by decide, Or.inr ⟨rfl, (am_m 115 (by decide +kernel) rfl), h rfl, rfl⟩⟩
theorem lp_18 : ∀ name : String, (false = true → name = "<init>") → am_FP (am_nm 0) name 69 0 17 := fun _ _ => ⟨(RX0, TX0, 18), rfl, by decide, Or.inl ⟨rfl, Or.inl (am_m 117 (by decide +kernel) rfl)⟩⟩
theorem lp_19 : ∀ name : String, (true = true → name = "<init>") → am_FP (am_nm 0) name 69 0 17 := fun _ _ => ⟨(RX0, TX0, 18), rfl, by decide, Or.inl ⟨rfl, Or.inl (am_m 117 (by decide +kernel) rfl)⟩⟩
theorem lp_20 : ∀ name : String, (true = true → name = "<init>") → am_FP (am_nm 2) name 9 2 1 := fun _ h => ⟨(RX2, TX2, 7), rfl, by decide, Or.inr ⟨rfl, (am_m 166 (by decide +kernel) rfl), h rfl, rfl⟩⟩
theorem lp_21 : ∀ name : String, (true = true → name = "<init>") → am_FP (am_nm 2) name 15 2 2 := fun _ h => ⟨(RX2, TX2, 7), rfl, by decide, Or.inr ⟨rfl, (am_m 168 (by decide +kernel) rfl), h rfl, rfl⟩⟩
theorem lp_22 : ∀ name : String, (true = true → name = "<init>") → am_FP (am_nm 2) name 18 2 3 := fun _ h => ⟨(RX2, TX2, 7), rfl, by decide, Or.inr ⟨rfl, (am_m 169 (by decide +kernel) rfl), h rfl, rfl⟩⟩
theorem lp_23 : ∀ name : String, (true = true → name = "<init>") → am_FP (am_nm 2) name 22 2 4 := fun _ h => ⟨(RX2, TX2, 7), rfl, by decide, Or.inr ⟨rfl, (am_m 171 (by decide +kernel) rfl), h rfl, rfl⟩⟩
theorem lp_24 : ∀ name : String, (true = true → name = "<init>") → am_FP (am_nm 2) name 31 2 5 := fun _ h => ⟨(RX2, TX2, 7), rfl, by decide, Or.inr ⟨rfl, (am_m 172 (by decide +kernel) rfl), h rfl, rfl⟩⟩
theorem lp_25 : ∀ name : String, (false = true → name = "<init>") → am_FP (am_nm 2) name 34 2 6 := fun _ _ => ⟨(RX2, TX2, 7), rfl, by decide, Or.inl ⟨rfl, Or.inl (am_m 173 (by decide +kernel) rfl)⟩⟩
theorem lp_26 : ∀ name : String, (true = true → name = "<init>") → am_FP (am_nm 2) name 34 2 6 := fun _ _ => ⟨(RX2, TX2, 7), rfl, by decide, Or.inl ⟨rfl, Or.inl (am_m 173 (by decide +kernel) rfl)⟩⟩
theorem lp_27 : ∀ name : String, (true = true → name = "<init>") → am_FP (am_nm 2) name 38 2 0 := fun _ h => ⟨(RX2, TX2, 7), rfl, by decide, Or.inr ⟨rfl, (am_m 165 (by decide +kernel) rfl), h rfl, rfl⟩⟩
theorem lp_28 : ∀ name : String, (true = true → name = "<init>") → am_FP (am_nm 6) name 9 6 1 := fun _ h => ⟨(RX6, TX6, 8), rfl, by decide, Or.inr ⟨rfl, (am_m 201 (by decide +kernel) rfl), h rfl, rfl⟩⟩
theorem lp_29 : ∀ name : String, (true = true → name = "<init>") → am_FP (am_nm 6) name 15 6 2 := fun _ h => ⟨(RX6, TX6, 8), rfl, by decide, Or.inr ⟨rfl, (am_m 203 (by decide +kernel) rfl), h rfl, rfl⟩⟩
theorem lp_30 : ∀ name : String, (false = true → name = "<init>") → am_FP (am_nm 6) name 18 6 3 := fun _ _ => ⟨(RX6, TX6, 8), rfl, by decide, Or.inl ⟨rfl, Or.inl (am_m 204 (by decide +kernel) rfl)⟩⟩
theorem lp_31 : ∀ name : String, (true = true → name = "<init>") → am_FP (am_nm 6) name 18 6 3 := fun _ _ => ⟨(RX6, TX6, 8), rfl, by decide, Or.inl ⟨rfl, Or.inl (am_m 204 (by decide +kernel) rfl)⟩⟩
theorem lp_32 : ∀ name : String, (true = true → name = "<init>") → am_FP (am_nm 6) name 22 6 4 := fun _ h => ⟨(RX6, TX6, 8), rfl, by decide, Or.inr ⟨rfl, (am_m 207 (by decide +kernel) rfl), h rfl, rfl⟩⟩
theorem lp_33 : ∀ name : String, (false = true → name = "<init>") → am_FP (am_nm 6) name 26 6 5 := fun _ _ => ⟨(RX6, TX6, 8), rfl, by decide, Or.inl ⟨rfl, Or.inl (am_m 208 (by decide +kernel) rfl)⟩⟩
theorem lp_34 : ∀ name : String, (true = true → name = "<init>") → am_FP (am_nm 6) name 26 6 5 := fun _ _ => ⟨(RX6, TX6, 8), rfl, by decide, Or.inl ⟨rfl, Or.inl (am_m 208 (by decide +kernel) rfl)⟩⟩
theorem lp_35 : ∀ name : String, (true = true → name = "<init>") → am_FP (am_nm 6) name 32 6 6 := fun _ h => ⟨(RX6, TX6, 8), rfl, by decide, Or.inr ⟨rfl, (am_m 209 (by decide +kernel) rfl), h rfl, rfl⟩⟩
theorem lp_36 : ∀ name : String, (true = true → name = "<init>") → am_FP (am_nm 6) name 40 6 7 := fun _ h => ⟨(RX6, TX6, 8), rfl, by decide, Or.inr ⟨rfl, (am_m 210 (by decide +kernel) rfl), h rfl, rfl⟩⟩
theorem lp_37 : ∀ name : String, (true = true → name = "<init>") → am_FP (am_nm 6) name 43 6 0 := fun _ h => ⟨(RX6, TX6, 8), rfl, by decide, Or.inr ⟨rfl, (am_m 200 (by decide +kernel) rfl), h rfl, rfl⟩⟩
theorem lp_38 : ∀ name : String, (false = true → name = "<init>") → am_FP (am_nm 7) name 9 7 0 := fun _ _ => ⟨(RX7, TX7, 5), rfl, by decide, Or.inl ⟨rfl, Or.inl (am_m 262 (by decide +kernel) rfl)⟩⟩
theorem lp_39 : ∀ name : String, (true = true → name = "<init>") → am_FP (am_nm 7) name 9 7 0 := fun _ _ => ⟨(RX7, TX7, 5), rfl, by decide, Or.inl ⟨rfl, Or.inl (am_m 262 (by decide +kernel) rfl)⟩⟩
theorem lp_40 : ∀ name : String, (false = true → name = "<init>") → am_FP (am_nm 7) name 15 7 1 := fun _ _ => ⟨(RX7, TX7, 5), rfl, by decide, Or.inl ⟨rfl, Or.inl (am_m 263 (by decide +kernel) rfl)⟩⟩
theorem lp_41 : ∀ name : String, (true = true → name = "<init>") → am_FP (am_nm 7) name 15 7 1 := fun _ _ => ⟨(RX7, TX7, 5), rfl, by decide, Or.inl ⟨rfl, Or.inl (am_m 263 (by decide +kernel) rfl)⟩⟩
theorem lp_42 : ∀ name : String, (false = true → name = "<init>") → am_FP (am_nm 7) name 19 7 2 := fun _ _ => ⟨(RX7, TX7, 5), rfl, by decide, Or.inl ⟨rfl, Or.inl (am_m 264 (by decide +kernel) rfl)⟩⟩
theorem lp_43 : ∀ name : String, (true = true → name = "<init>") → am_FP (am_nm 7) name 19 7 2 := fun _ _ => ⟨(RX7, TX7, 5), rfl, by decide, Or.inl ⟨rfl, Or.inl (am_m 264 (by decide +kernel) rfl)⟩⟩
theorem lp_44 : ∀ name : String, (false = true → name = "<init>") → am_FP (am_nm 7) name 25 7 3 := fun _ _ => ⟨(RX7, TX7, 5), rfl, by decide, Or.inl ⟨rfl, Or.inl (am_m 265 (by decide +kernel) rfl)⟩⟩
theorem lp_45 : ∀ name : String, (true = true → name = "<init>") → am_FP (am_nm 7) name 25 7 3 := fun _ _ => ⟨(RX7, TX7, 5), rfl, by decide, Or.inl ⟨rfl, Or.inl (am_m 265 (by decide +kernel) rfl)⟩⟩
theorem lp_46 : ∀ name : String, (false = true → name = "<init>") → am_FP (am_nm 7) name 29 7 4 := fun _ _ => ⟨(RX7, TX7, 5), rfl, by decide, Or.inl ⟨rfl, Or.inl (am_m 266 (by decide +kernel) rfl)⟩⟩
theorem lp_47 : ∀ name : String, (true = true → name = "<init>") → am_FP (am_nm 7) name 29 7 4 := fun _ _ => ⟨(RX7, TX7, 5), rfl, by decide, Or.inl ⟨rfl, Or.inl (am_m 266 (by decide +kernel) rfl)⟩⟩
theorem lp_48 : ∀ name : String, (false = true → name = "<init>") → am_FP (am_nm 7) name 32 10 0 := fun _ _ => ⟨(RX10, TX10, 5), rfl, by decide, Or.inl ⟨rfl, Or.inr ⟨"DeedProofs", (am_m 44 (by decide +kernel) rfl)⟩⟩⟩
theorem lp_49 : ∀ name : String, (false = true → name = "<init>") → am_FP (am_nm 7) name 35 10 1 := fun _ _ => ⟨(RX10, TX10, 5), rfl, by decide, Or.inl ⟨rfl, Or.inr ⟨"DeedProofs", (am_m 49 (by decide +kernel) rfl)⟩⟩⟩
theorem lp_50 : ∀ name : String, (false = true → name = "<init>") → am_FP (am_nm 7) name 38 10 2 := fun _ _ => ⟨(RX10, TX10, 5), rfl, by decide, Or.inl ⟨rfl, Or.inr ⟨"DeedProofs", (am_m 52 (by decide +kernel) rfl)⟩⟩⟩
theorem lp_51 : ∀ name : String, (false = true → name = "<init>") → am_FP (am_nm 9) name 9 9 2 := fun _ _ => ⟨(RX9, TX9, 6), rfl, by decide, Or.inl ⟨rfl, Or.inl (am_m 236 (by decide +kernel) rfl)⟩⟩
theorem lp_52 : ∀ name : String, (true = true → name = "<init>") → am_FP (am_nm 9) name 9 9 2 := fun _ _ => ⟨(RX9, TX9, 6), rfl, by decide, Or.inl ⟨rfl, Or.inl (am_m 236 (by decide +kernel) rfl)⟩⟩
theorem lp_53 : ∀ name : String, (false = true → name = "<init>") → am_FP (am_nm 9) name 15 9 3 := fun _ _ => ⟨(RX9, TX9, 6), rfl, by decide, Or.inl ⟨rfl, Or.inl (am_m 238 (by decide +kernel) rfl)⟩⟩
theorem lp_54 : ∀ name : String, (true = true → name = "<init>") → am_FP (am_nm 9) name 15 9 3 := fun _ _ => ⟨(RX9, TX9, 6), rfl, by decide, Or.inl ⟨rfl, Or.inl (am_m 238 (by decide +kernel) rfl)⟩⟩
theorem lp_55 : ∀ name : String, (false = true → name = "<init>") → am_FP (am_nm 9) name 18 9 4 := fun _ _ => ⟨(RX9, TX9, 6), rfl, by decide, Or.inl ⟨rfl, Or.inl (am_m 239 (by decide +kernel) rfl)⟩⟩
theorem lp_56 : ∀ name : String, (true = true → name = "<init>") → am_FP (am_nm 9) name 18 9 4 := fun _ _ => ⟨(RX9, TX9, 6), rfl, by decide, Or.inl ⟨rfl, Or.inl (am_m 239 (by decide +kernel) rfl)⟩⟩
theorem lp_57 : ∀ name : String, (false = true → name = "<init>") → am_FP (am_nm 9) name 21 9 5 := fun _ _ => ⟨(RX9, TX9, 6), rfl, by decide, Or.inl ⟨rfl, Or.inl (am_m 240 (by decide +kernel) rfl)⟩⟩
theorem lp_58 : ∀ name : String, (true = true → name = "<init>") → am_FP (am_nm 9) name 21 9 5 := fun _ _ => ⟨(RX9, TX9, 6), rfl, by decide, Or.inl ⟨rfl, Or.inl (am_m 240 (by decide +kernel) rfl)⟩⟩
theorem lp_59 : ∀ name : String, (true = true → name = "<init>") → am_FP (am_nm 9) name 24 9 0 := fun _ h => ⟨(RX9, TX9, 6), rfl, by decide, Or.inr ⟨rfl, (am_m 234 (by decide +kernel) rfl), h rfl, rfl⟩⟩
theorem lp_60 : ∀ name : String, (true = true → name = "<init>") → am_FP (am_nm 9) name 28 9 1 := fun _ h => ⟨(RX9, TX9, 6), rfl, by decide, Or.inr ⟨rfl, (am_m 235 (by decide +kernel) rfl), h rfl, rfl⟩⟩
theorem lp_61 : ∀ name : String, (false = true → name = "<init>") → am_FP (am_nm 10) name 9 10 0 := fun _ _ => ⟨(RX10, TX10, 5), rfl, by decide, Or.inl ⟨rfl, Or.inl (am_m 43 (by decide +kernel) rfl)⟩⟩
theorem lp_62 : ∀ name : String, (true = true → name = "<init>") → am_FP (am_nm 10) name 9 10 0 := fun _ _ => ⟨(RX10, TX10, 5), rfl, by decide, Or.inl ⟨rfl, Or.inl (am_m 43 (by decide +kernel) rfl)⟩⟩
theorem lp_63 : ∀ name : String, (false = true → name = "<init>") → am_FP (am_nm 10) name 15 10 1 := fun _ _ => ⟨(RX10, TX10, 5), rfl, by decide, Or.inl ⟨rfl, Or.inl (am_m 48 (by decide +kernel) rfl)⟩⟩
theorem lp_64 : ∀ name : String, (true = true → name = "<init>") → am_FP (am_nm 10) name 15 10 1 := fun _ _ => ⟨(RX10, TX10, 5), rfl, by decide, Or.inl ⟨rfl, Or.inl (am_m 48 (by decide +kernel) rfl)⟩⟩
theorem lp_65 : ∀ name : String, (false = true → name = "<init>") → am_FP (am_nm 10) name 18 10 2 := fun _ _ => ⟨(RX10, TX10, 5), rfl, by decide, Or.inl ⟨rfl, Or.inl (am_m 51 (by decide +kernel) rfl)⟩⟩
theorem lp_66 : ∀ name : String, (true = true → name = "<init>") → am_FP (am_nm 10) name 18 10 2 := fun _ _ => ⟨(RX10, TX10, 5), rfl, by decide, Or.inl ⟨rfl, Or.inl (am_m 51 (by decide +kernel) rfl)⟩⟩
theorem lp_67 : ∀ name : String, (true = true → name = "<init>") → am_FP (am_nm 10) name 21 10 3 := fun _ h => ⟨(RX10, TX10, 5), rfl, by decide, Or.inr ⟨rfl, (am_m 53 (by decide +kernel) rfl), h rfl, rfl⟩⟩
theorem lp_68 : ∀ name : String, (true = true → name = "<init>") → am_FP (am_nm 10) name 25 10 4 := fun _ h => ⟨(RX10, TX10, 5), rfl, by decide, Or.inr ⟨rfl, (am_m 56 (by decide +kernel) rfl), h rfl, rfl⟩⟩
theorem lp_69 : ∀ name : String, (true = true → name = "<init>") → am_FP (am_nm 11) name 10 11 0 := fun _ h => ⟨(RX11, TX11, 7), rfl, by decide, Or.inr ⟨rfl, (am_m 314 (by decide +kernel) rfl), h rfl, rfl⟩⟩
theorem lp_70 : ∀ name : String, (true = true → name = "<init>") → am_FP (am_nm 11) name 21 11 1 := fun _ h => ⟨(RX11, TX11, 7), rfl, by decide, Or.inr ⟨rfl, (am_m 315 (by decide +kernel) rfl), h rfl, rfl⟩⟩
theorem lp_71 : ∀ name : String, (true = true → name = "<init>") → am_FP (am_nm 11) name 28 11 2 := fun _ h => ⟨(RX11, TX11, 7), rfl, by decide, Or.inr ⟨rfl, (am_m 316 (by decide +kernel) rfl), h rfl, rfl⟩⟩
theorem lp_72 : ∀ name : String, (true = true → name = "<init>") → am_FP (am_nm 11) name 37 11 3 := fun _ h => ⟨(RX11, TX11, 7), rfl, by decide, Or.inr ⟨rfl, (am_m 317 (by decide +kernel) rfl), h rfl, rfl⟩⟩
theorem lp_73 : ∀ name : String, (true = true → name = "<init>") → am_FP (am_nm 11) name 44 11 4 := fun _ h => ⟨(RX11, TX11, 7), rfl, by decide, Or.inr ⟨rfl, (am_m 318 (by decide +kernel) rfl), h rfl, rfl⟩⟩
theorem lp_74 : ∀ name : String, (true = true → name = "<init>") → am_FP (am_nm 11) name 63 11 5 := fun _ h => ⟨(RX11, TX11, 7), rfl, by decide, Or.inr ⟨rfl, (am_m 319 (by decide +kernel) rfl), h rfl, rfl⟩⟩
theorem lp_75 : ∀ name : String, (false = true → name = "<init>") → am_FP (am_nm 11) name 67 11 6 := fun _ _ => ⟨(RX11, TX11, 7), rfl, by decide, Or.inl ⟨rfl, Or.inl (am_m 320 (by decide +kernel) rfl)⟩⟩
theorem lp_76 : ∀ name : String, (true = true → name = "<init>") → am_FP (am_nm 11) name 67 11 6 := fun _ _ => ⟨(RX11, TX11, 7), rfl, by decide, Or.inl ⟨rfl, Or.inl (am_m 320 (by decide +kernel) rfl)⟩⟩
theorem lp_77 : ∀ name : String, (false = true → name = "<init>") → am_FP (am_nm 11) name 129 0 7 := fun _ _ => ⟨(RX0, TX0, 18), rfl, by decide, Or.inl ⟨rfl, Or.inr ⟨"DeedProofs", (am_m 93 (by decide +kernel) rfl)⟩⟩⟩
theorem lp_78 : ∀ name : String, (false = true → name = "<init>") → am_FP (am_nm 11) name 266 0 17 := fun _ _ => ⟨(RX0, TX0, 18), rfl, by decide, Or.inl ⟨rfl, Or.inr ⟨"DeedProofs", (am_m 118 (by decide +kernel) rfl)⟩⟩⟩
theorem lp_79 : ∀ name : String, (true = true → name = "<init>") → am_FP (am_nm 12) name 7 12 0 := fun _ h => ⟨(RX12, TX12, 15), rfl, by decide, Or.inr ⟨rfl, (am_m 868 (by decide +kernel) rfl), h rfl, rfl⟩⟩
theorem lp_80 : ∀ name : String, (true = true → name = "<init>") → am_FP (am_nm 12) name 13 12 1 := fun _ h => ⟨(RX12, TX12, 15), rfl, by decide, Or.inr ⟨rfl, (am_m 869 (by decide +kernel) rfl), h rfl, rfl⟩⟩
theorem lp_81 : ∀ name : String, (true = true → name = "<init>") → am_FP (am_nm 12) name 16 12 5 := fun _ h => ⟨(RX12, TX12, 15), rfl, by decide, Or.inr ⟨rfl, (am_m 873 (by decide +kernel) rfl), h rfl, rfl⟩⟩
theorem lp_82 : ∀ name : String, (true = true → name = "<init>") → am_FP (am_nm 12) name 19 12 6 := fun _ h => ⟨(RX12, TX12, 15), rfl, by decide, Or.inr ⟨rfl, (am_m 874 (by decide +kernel) rfl), h rfl, rfl⟩⟩
theorem lp_83 : ∀ name : String, (true = true → name = "<init>") → am_FP (am_nm 12) name 22 12 7 := fun _ h => ⟨(RX12, TX12, 15), rfl, by decide, Or.inr ⟨rfl, (am_m 875 (by decide +kernel) rfl), h rfl, rfl⟩⟩
theorem lp_84 : ∀ name : String, (true = true → name = "<init>") → am_FP (am_nm 12) name 25 12 8 := fun _ h => ⟨(RX12, TX12, 15), rfl, by decide, Or.inr ⟨rfl, (am_m 876 (by decide +kernel) rfl), h rfl, rfl⟩⟩
theorem lp_85 : ∀ name : String, (true = true → name = "<init>") → am_FP (am_nm 12) name 28 12 9 := fun _ h => ⟨(RX12, TX12, 15), rfl, by decide, Or.inr ⟨rfl, (am_m 877 (by decide +kernel) rfl), h rfl, rfl⟩⟩
theorem lp_86 : ∀ name : String, (true = true → name = "<init>") → am_FP (am_nm 12) name 31 12 14 := fun _ h => ⟨(RX12, TX12, 15), rfl, by decide, Or.inr ⟨rfl, (am_m 882 (by decide +kernel) rfl), h rfl, rfl⟩⟩
theorem lp_87 : ∀ name : String, (false = true → name = "<init>") → am_FP (am_nm 12) name 40 12 3 := fun _ _ => ⟨(RX12, TX12, 15), rfl, by decide, Or.inl ⟨rfl, Or.inl (am_m 871 (by decide +kernel) rfl)⟩⟩
theorem lp_88 : ∀ name : String, (false = true → name = "<init>") → am_FP (am_nm 12) name 44 12 4 := fun _ _ => ⟨(RX12, TX12, 15), rfl, by decide, Or.inl ⟨rfl, Or.inl (am_m 872 (by decide +kernel) rfl)⟩⟩
theorem lp_89 : ∀ name : String, (false = true → name = "<init>") → am_FP (am_nm 12) name 202 12 10 := fun _ _ => ⟨(RX12, TX12, 15), rfl, by decide, Or.inl ⟨rfl, Or.inl (am_m 878 (by decide +kernel) rfl)⟩⟩
theorem lp_90 : ∀ name : String, (false = true → name = "<init>") → am_FP (am_nm 12) name 208 12 11 := fun _ _ => ⟨(RX12, TX12, 15), rfl, by decide, Or.inl ⟨rfl, Or.inl (am_m 879 (by decide +kernel) rfl)⟩⟩
theorem lp_91 : ∀ name : String, (false = true → name = "<init>") → am_FP (am_nm 12) name 211 12 13 := fun _ _ => ⟨(RX12, TX12, 15), rfl, by decide, Or.inl ⟨rfl, Or.inl (am_m 881 (by decide +kernel) rfl)⟩⟩
theorem lp_92 : ∀ name : String, (false = true → name = "<init>") → am_FP (am_nm 12) name 214 12 12 := fun _ _ => ⟨(RX12, TX12, 15), rfl, by decide, Or.inl ⟨rfl, Or.inl (am_m 880 (by decide +kernel) rfl)⟩⟩
theorem lp_93 : ∀ name : String, (false = true → name = "<init>") → am_FP (am_nm 12) name 235 12 2 := fun _ _ => ⟨(RX12, TX12, 15), rfl, by decide, Or.inl ⟨rfl, Or.inl (am_m 870 (by decide +kernel) rfl)⟩⟩
def am_lkP_0 : List (Nat × Nat × Nat × Nat × Bool) := [(0, 9, 0, 0, true), (0, 15, 0, 1, true), (0, 21, 0, 2, true), (0, 25, 0, 3, true), (0, 28, 0, 4, true), (0, 31, 0, 5, true), (0, 34, 0, 6, true), (0, 37, 0, 7, false), (0, 37, 0, 7, true), (0, 41, 0, 8, true), (0, 44, 0, 9, true), (0, 47, 0, 10, true), (0, 50, 0, 11, true), (0, 53, 0, 12, true), (0, 56, 0, 13, true), (0, 59, 0, 14, true)]
theorem am_lkP_ok0 : ∀ q ∈ am_lkP_0, ∀ name : String, (q.2.2.2.2 = true → name = "<init>") → am_FP (am_nm q.1) name q.2.1 q.2.2.1 q.2.2.2.1 := List.forall_mem_cons.mpr ⟨lp_0, List.forall_mem_cons.mpr ⟨lp_1, List.forall_mem_cons.mpr ⟨lp_2, List.forall_mem_cons.mpr ⟨lp_3, List.forall_mem_cons.mpr ⟨lp_4, List.forall_mem_cons.mpr ⟨lp_5, List.forall_mem_cons.mpr ⟨lp_6, List.forall_mem_cons.mpr ⟨lp_7, List.forall_mem_cons.mpr ⟨lp_8, List.forall_mem_cons.mpr ⟨lp_9, List.forall_mem_cons.mpr ⟨lp_10, List.forall_mem_cons.mpr ⟨lp_11, List.forall_mem_cons.mpr ⟨lp_12, List.forall_mem_cons.mpr ⟨lp_13, List.forall_mem_cons.mpr ⟨lp_14, List.forall_mem_cons.mpr ⟨lp_15, fun _ h => absurd h List.not_mem_nil⟩⟩⟩⟩⟩⟩⟩⟩⟩⟩⟩⟩⟩⟩⟩⟩
def am_lkP_1 : List (Nat × Nat × Nat × Nat × Bool) := [(0, 62, 0, 15, true), (0, 65, 0, 16, true), (0, 69, 0, 17, false), (0, 69, 0, 17, true), (2, 9, 2, 1, true), (2, 15, 2, 2, true), (2, 18, 2, 3, true), (2, 22, 2, 4, true), (2, 31, 2, 5, true), (2, 34, 2, 6, false), (2, 34, 2, 6, true), (2, 38, 2, 0, true), (6, 9, 6, 1, true), (6, 15, 6, 2, true), (6, 18, 6, 3, false), (6, 18, 6, 3, true)]
theorem am_lkP_ok1 : ∀ q ∈ am_lkP_1, ∀ name : String, (q.2.2.2.2 = true → name = "<init>") → am_FP (am_nm q.1) name q.2.1 q.2.2.1 q.2.2.2.1 := List.forall_mem_cons.mpr ⟨lp_16, List.forall_mem_cons.mpr ⟨lp_17, List.forall_mem_cons.mpr ⟨lp_18, List.forall_mem_cons.mpr ⟨lp_19, List.forall_mem_cons.mpr ⟨lp_20, List.forall_mem_cons.mpr ⟨lp_21, List.forall_mem_cons.mpr ⟨lp_22, List.forall_mem_cons.mpr ⟨lp_23, List.forall_mem_cons.mpr ⟨lp_24, List.forall_mem_cons.mpr ⟨lp_25, List.forall_mem_cons.mpr ⟨lp_26, List.forall_mem_cons.mpr ⟨lp_27, List.forall_mem_cons.mpr ⟨lp_28, List.forall_mem_cons.mpr ⟨lp_29, List.forall_mem_cons.mpr ⟨lp_30, List.forall_mem_cons.mpr ⟨lp_31, fun _ h => absurd h List.not_mem_nil⟩⟩⟩⟩⟩⟩⟩⟩⟩⟩⟩⟩⟩⟩⟩⟩
def am_lkP_2 : List (Nat × Nat × Nat × Nat × Bool) := [(6, 22, 6, 4, true), (6, 26, 6, 5, false), (6, 26, 6, 5, true), (6, 32, 6, 6, true), (6, 40, 6, 7, true), (6, 43, 6, 0, true), (7, 9, 7, 0, false), (7, 9, 7, 0, true), (7, 15, 7, 1, false), (7, 15, 7, 1, true), (7, 19, 7, 2, false), (7, 19, 7, 2, true), (7, 25, 7, 3, false), (7, 25, 7, 3, true), (7, 29, 7, 4, false), (7, 29, 7, 4, true)]
theorem am_lkP_ok2 : ∀ q ∈ am_lkP_2, ∀ name : String, (q.2.2.2.2 = true → name = "<init>") → am_FP (am_nm q.1) name q.2.1 q.2.2.1 q.2.2.2.1 := List.forall_mem_cons.mpr ⟨lp_32, List.forall_mem_cons.mpr ⟨lp_33, List.forall_mem_cons.mpr ⟨lp_34, List.forall_mem_cons.mpr ⟨lp_35, List.forall_mem_cons.mpr ⟨lp_36, List.forall_mem_cons.mpr ⟨lp_37, List.forall_mem_cons.mpr ⟨lp_38, List.forall_mem_cons.mpr ⟨lp_39, List.forall_mem_cons.mpr ⟨lp_40, List.forall_mem_cons.mpr ⟨lp_41, List.forall_mem_cons.mpr ⟨lp_42, List.forall_mem_cons.mpr ⟨lp_43, List.forall_mem_cons.mpr ⟨lp_44, List.forall_mem_cons.mpr ⟨lp_45, List.forall_mem_cons.mpr ⟨lp_46, List.forall_mem_cons.mpr ⟨lp_47, fun _ h => absurd h List.not_mem_nil⟩⟩⟩⟩⟩⟩⟩⟩⟩⟩⟩⟩⟩⟩⟩⟩
def am_lkP_3 : List (Nat × Nat × Nat × Nat × Bool) := [(7, 32, 10, 0, false), (7, 35, 10, 1, false), (7, 38, 10, 2, false), (9, 9, 9, 2, false), (9, 9, 9, 2, true), (9, 15, 9, 3, false), (9, 15, 9, 3, true), (9, 18, 9, 4, false), (9, 18, 9, 4, true), (9, 21, 9, 5, false), (9, 21, 9, 5, true), (9, 24, 9, 0, true), (9, 28, 9, 1, true), (10, 9, 10, 0, false), (10, 9, 10, 0, true), (10, 15, 10, 1, false)]
theorem am_lkP_ok3 : ∀ q ∈ am_lkP_3, ∀ name : String, (q.2.2.2.2 = true → name = "<init>") → am_FP (am_nm q.1) name q.2.1 q.2.2.1 q.2.2.2.1 := List.forall_mem_cons.mpr ⟨lp_48, List.forall_mem_cons.mpr ⟨lp_49, List.forall_mem_cons.mpr ⟨lp_50, List.forall_mem_cons.mpr ⟨lp_51, List.forall_mem_cons.mpr ⟨lp_52, List.forall_mem_cons.mpr ⟨lp_53, List.forall_mem_cons.mpr ⟨lp_54, List.forall_mem_cons.mpr ⟨lp_55, List.forall_mem_cons.mpr ⟨lp_56, List.forall_mem_cons.mpr ⟨lp_57, List.forall_mem_cons.mpr ⟨lp_58, List.forall_mem_cons.mpr ⟨lp_59, List.forall_mem_cons.mpr ⟨lp_60, List.forall_mem_cons.mpr ⟨lp_61, List.forall_mem_cons.mpr ⟨lp_62, List.forall_mem_cons.mpr ⟨lp_63, fun _ h => absurd h List.not_mem_nil⟩⟩⟩⟩⟩⟩⟩⟩⟩⟩⟩⟩⟩⟩⟩⟩
def am_lkP_4 : List (Nat × Nat × Nat × Nat × Bool) := [(10, 15, 10, 1, true), (10, 18, 10, 2, false), (10, 18, 10, 2, true), (10, 21, 10, 3, true), (10, 25, 10, 4, true), (11, 10, 11, 0, true), (11, 21, 11, 1, true), (11, 28, 11, 2, true), (11, 37, 11, 3, true), (11, 44, 11, 4, true), (11, 63, 11, 5, true), (11, 67, 11, 6, false), (11, 67, 11, 6, true), (11, 129, 0, 7, false), (11, 266, 0, 17, false), (12, 7, 12, 0, true)]
theorem am_lkP_ok4 : ∀ q ∈ am_lkP_4, ∀ name : String, (q.2.2.2.2 = true → name = "<init>") → am_FP (am_nm q.1) name q.2.1 q.2.2.1 q.2.2.2.1 := List.forall_mem_cons.mpr ⟨lp_64, List.forall_mem_cons.mpr ⟨lp_65, List.forall_mem_cons.mpr ⟨lp_66, List.forall_mem_cons.mpr ⟨lp_67, List.forall_mem_cons.mpr ⟨lp_68, List.forall_mem_cons.mpr ⟨lp_69, List.forall_mem_cons.mpr ⟨lp_70, List.forall_mem_cons.mpr ⟨lp_71, List.forall_mem_cons.mpr ⟨lp_72, List.forall_mem_cons.mpr ⟨lp_73, List.forall_mem_cons.mpr ⟨lp_74, List.forall_mem_cons.mpr ⟨lp_75, List.forall_mem_cons.mpr ⟨lp_76, List.forall_mem_cons.mpr ⟨lp_77, List.forall_mem_cons.mpr ⟨lp_78, List.forall_mem_cons.mpr ⟨lp_79, fun _ h => absurd h List.not_mem_nil⟩⟩⟩⟩⟩⟩⟩⟩⟩⟩⟩⟩⟩⟩⟩⟩
def am_lkP_5 : List (Nat × Nat × Nat × Nat × Bool) := [(12, 13, 12, 1, true), (12, 16, 12, 5, true), (12, 19, 12, 6, true), (12, 22, 12, 7, true), (12, 25, 12, 8, true), (12, 28, 12, 9, true), (12, 31, 12, 14, true), (12, 40, 12, 3, false), (12, 44, 12, 4, false), (12, 202, 12, 10, false), (12, 208, 12, 11, false), (12, 211, 12, 13, false), (12, 214, 12, 12, false), (12, 235, 12, 2, false)]
theorem am_lkP_ok5 : ∀ q ∈ am_lkP_5, ∀ name : String, (q.2.2.2.2 = true → name = "<init>") → am_FP (am_nm q.1) name q.2.1 q.2.2.1 q.2.2.2.1 := List.forall_mem_cons.mpr ⟨lp_80, List.forall_mem_cons.mpr ⟨lp_81, List.forall_mem_cons.mpr ⟨lp_82, List.forall_mem_cons.mpr ⟨lp_83, List.forall_mem_cons.mpr ⟨lp_84, List.forall_mem_cons.mpr ⟨lp_85, List.forall_mem_cons.mpr ⟨lp_86, List.forall_mem_cons.mpr ⟨lp_87, List.forall_mem_cons.mpr ⟨lp_88, List.forall_mem_cons.mpr ⟨lp_89, List.forall_mem_cons.mpr ⟨lp_90, List.forall_mem_cons.mpr ⟨lp_91, List.forall_mem_cons.mpr ⟨lp_92, List.forall_mem_cons.mpr ⟨lp_93, fun _ h => absurd h List.not_mem_nil⟩⟩⟩⟩⟩⟩⟩⟩⟩⟩⟩⟩⟩⟩
def am_lkP : List (Nat × Nat × Nat × Nat × Bool) := am_lkP_0 ++ (am_lkP_1 ++ (am_lkP_2 ++ (am_lkP_3 ++ (am_lkP_4 ++ (am_lkP_5)))))
theorem am_lkP_ok : ∀ q ∈ am_lkP, ∀ name : String, (q.2.2.2.2 = true → name = "<init>") → am_FP (am_nm q.1) name q.2.1 q.2.2.1 q.2.2.2.1 := List.forall_mem_append.mpr ⟨am_lkP_ok0, List.forall_mem_append.mpr ⟨am_lkP_ok1, List.forall_mem_append.mpr ⟨am_lkP_ok2, List.forall_mem_append.mpr ⟨am_lkP_ok3, List.forall_mem_append.mpr ⟨am_lkP_ok4, am_lkP_ok5⟩⟩⟩⟩⟩
theorem lk_0 : Cond.constant (am_nm 6) 123 100000 ∈ am_gt := (am_m 538 (by decide +kernel) rfl)
theorem lk_1 : Cond.constant (am_nm 12) 107 100000 ∈ am_gt := (am_m 1023 (by decide +kernel) rfl)
theorem lk_2 : Cond.constant (am_nm 13) 265 1431655765 ∈ am_gt := (am_m 779 (by decide +kernel) rfl)
theorem lk_3 : Cond.constant (am_nm 13) 266 858993459 ∈ am_gt := (am_m 780 (by decide +kernel) rfl)
theorem lk_4 : Cond.constant (am_nm 13) 267 252645135 ∈ am_gt := (am_m 781 (by decide +kernel) rfl)
def am_lkK_0 : List (Nat × Nat × Int32) := [(6, 123, 100000), (12, 107, 100000), (13, 265, 1431655765), (13, 266, 858993459), (13, 267, 252645135)]
theorem am_lkK_ok0 : ∀ q ∈ am_lkK_0, Cond.constant (am_nm q.1) q.2.1 q.2.2 ∈ am_gt := List.forall_mem_cons.mpr ⟨lk_0, List.forall_mem_cons.mpr ⟨lk_1, List.forall_mem_cons.mpr ⟨lk_2, List.forall_mem_cons.mpr ⟨lk_3, List.forall_mem_cons.mpr ⟨lk_4, fun _ h => absurd h List.not_mem_nil⟩⟩⟩⟩⟩
def am_lkK : List (Nat × Nat × Int32) := am_lkK_0
theorem am_lkK_ok : ∀ q ∈ am_lkK, Cond.constant (am_nm q.1) q.2.1 q.2.2 ∈ am_gt := am_lkK_ok0
theorem ln_0 : ∃ q : vw_C, am_cls[10]? = some q ∧ Cond.classLink (am_nm 0) 19 q.1 ∈ am_gt ∧ Cond.instantiable q.1 q.2.2 ∈ am_gt ∧ Cond.initialized q.1 ∈ am_gt := ⟨(RX10, TX10, 5), rfl, (am_m 36 (by decide +kernel) rfl), (am_m 38 (by decide +kernel) rfl), (am_m 3 (by decide +kernel) rfl)⟩
theorem ln_1 : ∃ q : vw_C, am_cls[10]? = some q ∧ Cond.classLink (am_nm 7) 22 q.1 ∈ am_gt ∧ Cond.instantiable q.1 q.2.2 ∈ am_gt ∧ Cond.initialized q.1 ∈ am_gt := ⟨(RX10, TX10, 5), rfl, (am_m 260 (by decide +kernel) rfl), (am_m 38 (by decide +kernel) rfl), (am_m 3 (by decide +kernel) rfl)⟩
theorem ln_2 : ∃ q : vw_C, am_cls[0]? = some q ∧ Cond.classLink (am_nm 11) 7 q.1 ∈ am_gt ∧ Cond.instantiable q.1 q.2.2 ∈ am_gt ∧ Cond.initialized q.1 ∈ am_gt := ⟨(RX0, TX0, 18), rfl, (am_m 30 (by decide +kernel) rfl), (am_m 31 (by decide +kernel) rfl), (am_m 2 (by decide +kernel) rfl)⟩
theorem ln_3 : ∃ q : vw_C, am_cls[2]? = some q ∧ Cond.classLink (am_nm 11) 16 q.1 ∈ am_gt ∧ Cond.instantiable q.1 q.2.2 ∈ am_gt ∧ Cond.initialized q.1 ∈ am_gt := ⟨(RX2, TX2, 7), rfl, (am_m 156 (by decide +kernel) rfl), (am_m 157 (by decide +kernel) rfl), (am_m 4 (by decide +kernel) rfl)⟩
theorem ln_4 : ∃ q : vw_C, am_cls[6]? = some q ∧ Cond.classLink (am_nm 11) 25 q.1 ∈ am_gt ∧ Cond.instantiable q.1 q.2.2 ∈ am_gt ∧ Cond.initialized q.1 ∈ am_gt := ⟨(RX6, TX6, 8), rfl, (am_m 189 (by decide +kernel) rfl), (am_m 190 (by decide +kernel) rfl), (am_m 5 (by decide +kernel) rfl)⟩
theorem ln_5 : ∃ q : vw_C, am_cls[9]? = some q ∧ Cond.classLink (am_nm 11) 32 q.1 ∈ am_gt ∧ Cond.instantiable q.1 q.2.2 ∈ am_gt ∧ Cond.initialized q.1 ∈ am_gt := ⟨(RX9, TX9, 6), rfl, (am_m 228 (by decide +kernel) rfl), (am_m 229 (by decide +kernel) rfl), (am_m 7 (by decide +kernel) rfl)⟩
theorem ln_6 : ∃ q : vw_C, am_cls[7]? = some q ∧ Cond.classLink (am_nm 11) 41 q.1 ∈ am_gt ∧ Cond.instantiable q.1 q.2.2 ∈ am_gt ∧ Cond.initialized q.1 ∈ am_gt := ⟨(RX7, TX7, 5), rfl, (am_m 254 (by decide +kernel) rfl), (am_m 255 (by decide +kernel) rfl), (am_m 8 (by decide +kernel) rfl)⟩
theorem ln_7 : ∃ q : vw_C, am_cls[3]? = some q ∧ Cond.classLink (am_nm 11) 48 q.1 ∈ am_gt ∧ Cond.instantiable q.1 q.2.2 ∈ am_gt ∧ Cond.initialized q.1 ∈ am_gt := ⟨(RX3, TX3, 0), rfl, (am_m 278 (by decide +kernel) rfl), (am_m 280 (by decide +kernel) rfl), (am_m 9 (by decide +kernel) rfl)⟩
theorem ln_8 : ∃ q : vw_C, am_cls[5]? = some q ∧ Cond.classLink (am_nm 11) 51 q.1 ∈ am_gt ∧ Cond.instantiable q.1 q.2.2 ∈ am_gt ∧ Cond.initialized q.1 ∈ am_gt := ⟨(RX5, TX5, 0), rfl, (am_m 286 (by decide +kernel) rfl), (am_m 287 (by decide +kernel) rfl), (am_m 10 (by decide +kernel) rfl)⟩
theorem ln_9 : ∃ q : vw_C, am_cls[8]? = some q ∧ Cond.classLink (am_nm 11) 54 q.1 ∈ am_gt ∧ Cond.instantiable q.1 q.2.2 ∈ am_gt ∧ Cond.initialized q.1 ∈ am_gt := ⟨(RX8, TX8, 0), rfl, (am_m 293 (by decide +kernel) rfl), (am_m 294 (by decide +kernel) rfl), (am_m 11 (by decide +kernel) rfl)⟩
theorem ln_10 : ∃ q : vw_C, am_cls[1]? = some q ∧ Cond.classLink (am_nm 11) 57 q.1 ∈ am_gt ∧ Cond.instantiable q.1 q.2.2 ∈ am_gt ∧ Cond.initialized q.1 ∈ am_gt := ⟨(RX1, TX1, 0), rfl, (am_m 300 (by decide +kernel) rfl), (am_m 301 (by decide +kernel) rfl), (am_m 12 (by decide +kernel) rfl)⟩
theorem ln_11 : ∃ q : vw_C, am_cls[4]? = some q ∧ Cond.classLink (am_nm 11) 60 q.1 ∈ am_gt ∧ Cond.instantiable q.1 q.2.2 ∈ am_gt ∧ Cond.initialized q.1 ∈ am_gt := ⟨(RX4, TX4, 0), rfl, (am_m 307 (by decide +kernel) rfl), (am_m 308 (by decide +kernel) rfl), (am_m 13 (by decide +kernel) rfl)⟩
def am_lkN_0 : List (Nat × Nat × Nat) := [(0, 19, 10), (7, 22, 10), (11, 7, 0), (11, 16, 2), (11, 25, 6), (11, 32, 9), (11, 41, 7), (11, 48, 3), (11, 51, 5), (11, 54, 8), (11, 57, 1), (11, 60, 4)]
theorem am_lkN_ok0 : ∀ q ∈ am_lkN_0, ∃ p : vw_C, am_cls[q.2.2]? = some p ∧ Cond.classLink (am_nm q.1) q.2.1 p.1 ∈ am_gt ∧ Cond.instantiable p.1 p.2.2 ∈ am_gt ∧ Cond.initialized p.1 ∈ am_gt := List.forall_mem_cons.mpr ⟨ln_0, List.forall_mem_cons.mpr ⟨ln_1, List.forall_mem_cons.mpr ⟨ln_2, List.forall_mem_cons.mpr ⟨ln_3, List.forall_mem_cons.mpr ⟨ln_4, List.forall_mem_cons.mpr ⟨ln_5, List.forall_mem_cons.mpr ⟨ln_6, List.forall_mem_cons.mpr ⟨ln_7, List.forall_mem_cons.mpr ⟨ln_8, List.forall_mem_cons.mpr ⟨ln_9, List.forall_mem_cons.mpr ⟨ln_10, List.forall_mem_cons.mpr ⟨ln_11, fun _ h => absurd h List.not_mem_nil⟩⟩⟩⟩⟩⟩⟩⟩⟩⟩⟩⟩
def am_lkN : List (Nat × Nat × Nat) := am_lkN_0
theorem am_lkN_ok : ∀ q ∈ am_lkN, ∃ p : vw_C, am_cls[q.2.2]? = some p ∧ Cond.classLink (am_nm q.1) q.2.1 p.1 ∈ am_gt ∧ Cond.instantiable p.1 p.2.2 ∈ am_gt ∧ Cond.initialized p.1 ∈ am_gt := am_lkN_ok0
theorem lq_0 : 3 = 3 ∧ Cond.classLink (am_nm 0) 19 "DeedProofs$Text" ∈ am_gt ∨ 3 = 4 ∧ Cond.classLink (am_nm 0) 19 "DeedProofs$Line" ∈ am_gt := Or.inl ⟨rfl, (am_m 36 (by decide +kernel) rfl)⟩
theorem lq_1 : 3 = 3 ∧ Cond.classLink (am_nm 6) 30 "DeedProofs$Text" ∈ am_gt ∨ 3 = 4 ∧ Cond.classLink (am_nm 6) 30 "DeedProofs$Line" ∈ am_gt := Or.inl ⟨rfl, (am_m 195 (by decide +kernel) rfl)⟩
theorem lq_2 : 4 = 3 ∧ Cond.classLink (am_nm 11) 48 "DeedProofs$Text" ∈ am_gt ∨ 4 = 4 ∧ Cond.classLink (am_nm 11) 48 "DeedProofs$Line" ∈ am_gt := Or.inr ⟨rfl, (am_m 278 (by decide +kernel) rfl)⟩
def am_lkQ_0 : List (Nat × Nat × Nat) := [(0, 19, 3), (6, 30, 3), (11, 48, 4)]
theorem am_lkQ_ok0 : ∀ q ∈ am_lkQ_0, q.2.2 = 3 ∧ Cond.classLink (am_nm q.1) q.2.1 "DeedProofs$Text" ∈ am_gt ∨ q.2.2 = 4 ∧ Cond.classLink (am_nm q.1) q.2.1 "DeedProofs$Line" ∈ am_gt := List.forall_mem_cons.mpr ⟨lq_0, List.forall_mem_cons.mpr ⟨lq_1, List.forall_mem_cons.mpr ⟨lq_2, fun _ h => absurd h List.not_mem_nil⟩⟩⟩
def am_lkQ : List (Nat × Nat × Nat) := am_lkQ_0
theorem am_lkQ_ok : ∀ q ∈ am_lkQ, q.2.2 = 3 ∧ Cond.classLink (am_nm q.1) q.2.1 "DeedProofs$Text" ∈ am_gt ∨ q.2.2 = 4 ∧ Cond.classLink (am_nm q.1) q.2.1 "DeedProofs$Line" ∈ am_gt := am_lkQ_ok0
def am_okV (own : String) (ix a b c : Nat) (k : Int32) : Prop := match c with
  | 0 => am_ML (am_tab a) b ∧ ∃ q : vw_C, am_cls[k.toInt.toNat]? = some q ∧ Cond.methodLink own ix (am_y (am_tab a)) ∈ am_gt ∧ Cond.instanceMethod (am_y (am_tab a)) ∈ am_gt ∧ Cond.selects q.1 (am_y (am_tab a)) (am_y (am_tab a)) ∈ am_gt
  | 1 => am_ML (am_tab a) b ∧ ∃ (q : vw_C) (host : String), am_cls[k.toInt.toNat]? = some q ∧ Cond.methodLinkNest own ix (am_y (am_tab a)) host ∈ am_gt ∧ Cond.instanceMethod (am_y (am_tab a)) ∈ am_gt ∧ Cond.selects q.1 (am_y (am_tab a)) (am_y (am_tab a)) ∈ am_gt
  | 2 => am_ML (am_tab a) b ∧ Cond.methodLink own ix (am_y (am_tab a)) ∈ am_gt ∧ Cond.instanceMethod (am_y (am_tab a)) ∈ am_gt ∧ Cond.selects "java/lang/String" (am_y (am_tab a)) (am_y (am_tab a)) ∈ am_gt
  | 3 => ∀ ci, (ci = 1 ∨ ci = 3 ∨ ci = 4 ∨ ci = 5 ∨ ci = 8) → ∃ q : vw_C, am_cls[ci]? = some q ∧ am_VU am_tab own ix (am_sel a ci) b q
  | _ => ∃ q : vw_C, am_cls[k.toInt.toNat]? = some q ∧ am_VU am_tab own ix a b q
def am_okS (own : String) (ix a b c : Nat) : Prop := match c with
  | 2 => a < 3 ∧ Cond.methodLink own ix arraycopyName ∈ am_gt
  | 1 => am_ML (am_tab a) b ∧ ∃ host : String, Cond.methodLinkNest own ix (am_y (am_tab a)) host ∈ am_gt ∧ Cond.static (am_y (am_tab a)) ∈ am_gt
  | _ => am_ML (am_tab a) b ∧ Cond.methodLink own ix (am_y (am_tab a)) ∈ am_gt ∧ Cond.static (am_y (am_tab a)) ∈ am_gt
def am_okN (own : String) (ix a b c : Nat) : Prop := match c with
  | 0 => am_ML (am_tab a) b ∧ am_ret (am_tab a) = none ∧ (am_y (am_tab a)).name = "<init>" ∧ Cond.methodLink own ix (am_y (am_tab a)) ∈ am_gt ∧ Cond.instanceMethod (am_y (am_tab a)) ∈ am_gt
  | 1 => am_ML (am_tab a) b ∧ am_ret (am_tab a) = none ∧ (am_y (am_tab a)).name = "<init>" ∧ ∃ host : String, Cond.methodLinkNest own ix (am_y (am_tab a)) host ∈ am_gt ∧ Cond.instanceMethod (am_y (am_tab a)) ∈ am_gt
  | 2 => b = 0 ∧ Cond.methodLink own ix objectInit ∈ am_gt
  | _ => (∀ (ci : Nat), ∀ c : am_C, (∃ fs, c = .inr (.inr (ci, fs))) → True) ∧ am_SU am_tab own ix a b
theorem li_v0 : am_okV (am_nm 0) 80 74 1 1 10 := ⟨ml_X10_become, (RX10, TX10, 5), "DeedProofs", rfl, (am_m 849 (by decide +kernel) rfl), (am_m 851 (by decide +kernel) rfl), (am_mp 57 (by decide +kernel) rfl)⟩
theorem li_v1 : am_okV (am_nm 0) 84 2 2 0 0 := ⟨ml_X0_has, (RX0, TX0, 18), rfl, (am_m 477 (by decide +kernel) rfl), (am_m 441 (by decide +kernel) rfl), (am_mp 9 (by decide +kernel) rfl)⟩
theorem li_v2 : am_okV (am_nm 0) 88 5 2 0 0 := ⟨ml_X0_changeOn, (RX0, TX0, 18), rfl, (am_m 458 (by decide +kernel) rfl), (am_m 452 (by decide +kernel) rfl), (am_mp 10 (by decide +kernel) rfl)⟩
theorem li_v3 : am_okV (am_nm 0) 92 9 1 0 0 := ⟨ml_X0_takesEnds, (RX0, TX0, 18), rfl, (am_m 569 (by decide +kernel) rfl), (am_m 571 (by decide +kernel) rfl), (am_mp 28 (by decide +kernel) rfl)⟩
theorem li_v4 : am_okV (am_nm 0) 96 15 2 0 0 := ⟨ml_X0_countSources, (RX0, TX0, 18), rfl, (am_m 573 (by decide +kernel) rfl), (am_m 575 (by decide +kernel) rfl), (am_mp 29 (by decide +kernel) rfl)⟩
theorem li_v5 : am_okV (am_nm 0) 99 8 1 0 0 := ⟨ml_X0_takesHoles, (RX0, TX0, 18), rfl, (am_m 626 (by decide +kernel) rfl), (am_m 620 (by decide +kernel) rfl), (am_mp 37 (by decide +kernel) rfl)⟩
theorem li_v6 : am_okV (am_nm 0) 102 7 2 0 0 := ⟨ml_X0_rowOf, (RX0, TX0, 18), rfl, (am_m 577 (by decide +kernel) rfl), (am_m 579 (by decide +kernel) rfl), (am_mp 30 (by decide +kernel) rfl)⟩
theorem li_v7 : am_okV (am_nm 2) 47 23 3 0 2 := ⟨ml_X2_factOfStep, (RX2, TX2, 7), rfl, (am_m 594 (by decide +kernel) rfl), (am_m 596 (by decide +kernel) rfl), (am_mp 33 (by decide +kernel) rfl)⟩
theorem li_v8 : am_okV (am_nm 2) 51 21 3 0 2 := ⟨ml_X2_lackOf, (RX2, TX2, 7), rfl, (am_m 604 (by decide +kernel) rfl), (am_m 606 (by decide +kernel) rfl), (am_mp 34 (by decide +kernel) rfl)⟩
theorem li_v9 : am_okV (am_nm 2) 57 14 1 1 0 := ⟨ml_X0_holesOf, (RX0, TX0, 18), "DeedProofs", rfl, (am_m 622 (by decide +kernel) rfl), (am_m 624 (by decide +kernel) rfl), (am_mp 38 (by decide +kernel) rfl)⟩
theorem li_v10 : am_okV (am_nm 2) 61 7 2 1 0 := ⟨ml_X0_rowOf, (RX0, TX0, 18), "DeedProofs", rfl, (am_m 598 (by decide +kernel) rfl), (am_m 579 (by decide +kernel) rfl), (am_mp 30 (by decide +kernel) rfl)⟩
theorem li_v11 : am_okV (am_nm 2) 68 6 2 1 0 := ⟨ml_X0_textOn, (RX0, TX0, 18), "DeedProofs", rfl, (am_m 602 (by decide +kernel) rfl), (am_m 456 (by decide +kernel) rfl), (am_mp 11 (by decide +kernel) rfl)⟩
theorem li_v12 : am_okV (am_nm 2) 79 73 1 1 10 := ⟨ml_X10_testsHold, (RX10, TX10, 5), "DeedProofs", rfl, (am_m 608 (by decide +kernel) rfl), (am_m 529 (by decide +kernel) rfl), (am_mp 23 (by decide +kernel) rfl)⟩
theorem li_v13 : am_okV (am_nm 2) 83 72 2 1 10 := ⟨ml_X10_factOf, (RX10, TX10, 5), "DeedProofs", rfl, (am_m 603 (by decide +kernel) rfl), (am_m 533 (by decide +kernel) rfl), (am_mp 24 (by decide +kernel) rfl)⟩
theorem li_v14 : am_okV (am_nm 2) 87 22 4 0 2 := ⟨ml_X2_gives, (RX2, TX2, 7), rfl, (am_m 609 (by decide +kernel) rfl), (am_m 611 (by decide +kernel) rfl), (am_mp 35 (by decide +kernel) rfl)⟩
theorem li_v15 : am_okV (am_nm 2) 91 2 2 1 0 := ⟨ml_X0_has, (RX0, TX0, 18), "DeedProofs", rfl, (am_m 613 (by decide +kernel) rfl), (am_m 441 (by decide +kernel) rfl), (am_mp 9 (by decide +kernel) rfl)⟩
theorem li_v16 : am_okV (am_nm 2) 98 10 2 1 0 := ⟨ml_X0_endIn, (RX0, TX0, 18), "DeedProofs", rfl, (am_m 614 (by decide +kernel) rfl), (am_m 616 (by decide +kernel) rfl), (am_mp 36 (by decide +kernel) rfl)⟩
theorem li_v17 : am_okV (am_nm 2) 101 8 1 1 0 := ⟨ml_X0_takesHoles, (RX0, TX0, 18), "DeedProofs", rfl, (am_m 618 (by decide +kernel) rfl), (am_m 620 (by decide +kernel) rfl), (am_mp 37 (by decide +kernel) rfl)⟩
theorem li_v18 : am_okV (am_nm 2) 108 4 1 1 0 := ⟨ml_X0_isTrue, (RX0, TX0, 18), "DeedProofs", rfl, (am_m 665 (by decide +kernel) rfl), (am_m 475 (by decide +kernel) rfl), (am_mp 12 (by decide +kernel) rfl)⟩
theorem li_v19 : am_okV (am_nm 2) 111 27 2 0 2 := ⟨ml_X2_papersUnderStep, (RX2, TX2, 7), rfl, (am_m 644 (by decide +kernel) rfl), (am_m 646 (by decide +kernel) rfl), (am_mp 40 (by decide +kernel) rfl)⟩
theorem li_v20 : am_okV (am_nm 3) 7 216 3 3 0 := fun ci h => by
  rcases h with rfl | rfl | rfl | rfl | rfl
  · exact ⟨(RX1, TX1, 0), rfl, ⟨⟨"DeedProofs$Line", "actLeans", "(III)I"⟩, "DeedProofs$Line", ml_X3_actLeans, by decide +kernel, ⟨by decide +kernel, by decide +kernel⟩, (am_m 703 (by decide +kernel) rfl), (am_m 677 (by decide +kernel) rfl), Or.inr ⟨prog_5_method_2_code, 4, (some FieldType.int), (am_m 675 (by decide +kernel) rfl), (am_m 685 (by decide +kernel) rfl)⟩, (am_m 675 (by decide +kernel) rfl), (am_m 678 (by decide +kernel) rfl)⟩⟩
  · exact ⟨(RX3, TX3, 0), rfl, ⟨⟨"DeedProofs$Line", "actLeans", "(III)I"⟩, "DeedProofs$Line", ml_X3_actLeans, by decide +kernel, ⟨by decide +kernel, by decide +kernel⟩, (am_m 703 (by decide +kernel) rfl), (am_m 677 (by decide +kernel) rfl), Or.inr ⟨prog_5_method_2_code, 4, (some FieldType.int), (am_m 675 (by decide +kernel) rfl), (am_m 685 (by decide +kernel) rfl)⟩, (am_m 675 (by decide +kernel) rfl), (am_m 676 (by decide +kernel) rfl)⟩⟩
  · exact ⟨(RX4, TX4, 0), rfl, ⟨⟨"DeedProofs$Line", "actLeans", "(III)I"⟩, "DeedProofs$Line", ml_X5_actLeans, by decide +kernel, ⟨by decide +kernel, by decide +kernel⟩, (am_m 703 (by decide +kernel) rfl), (am_m 677 (by decide +kernel) rfl), Or.inr ⟨prog_5_method_2_code, 4, (some FieldType.int), (am_m 675 (by decide +kernel) rfl), (am_m 685 (by decide +kernel) rfl)⟩, (am_m 680 (by decide +kernel) rfl), (am_m 679 (by decide +kernel) rfl)⟩⟩
  · exact ⟨(RX5, TX5, 0), rfl, ⟨⟨"DeedProofs$Line", "actLeans", "(III)I"⟩, "DeedProofs$Line", ml_X5_actLeans, by decide +kernel, ⟨by decide +kernel, by decide +kernel⟩, (am_m 703 (by decide +kernel) rfl), (am_m 677 (by decide +kernel) rfl), Or.inr ⟨prog_5_method_2_code, 4, (some FieldType.int), (am_m 675 (by decide +kernel) rfl), (am_m 685 (by decide +kernel) rfl)⟩, (am_m 680 (by decide +kernel) rfl), (am_m 683 (by decide +kernel) rfl)⟩⟩
  · exact ⟨(RX8, TX8, 0), rfl, ⟨⟨"DeedProofs$Line", "actLeans", "(III)I"⟩, "DeedProofs$Line", ml_X3_actLeans, by decide +kernel, ⟨by decide +kernel, by decide +kernel⟩, (am_m 703 (by decide +kernel) rfl), (am_m 677 (by decide +kernel) rfl), Or.inr ⟨prog_5_method_2_code, 4, (some FieldType.int), (am_m 675 (by decide +kernel) rfl), (am_m 685 (by decide +kernel) rfl)⟩, (am_m 675 (by decide +kernel) rfl), (am_m 684 (by decide +kernel) rfl)⟩⟩
theorem li_v21 : am_okV (am_nm 3) 13 225 3 3 0 := fun ci h => by
  rcases h with rfl | rfl | rfl | rfl | rfl
  · exact ⟨(RX1, TX1, 0), rfl, ⟨⟨"DeedProofs$Line", "actShows", "(III)I"⟩, "DeedProofs$Line", ml_X3_actShows, by decide +kernel, ⟨by decide +kernel, by decide +kernel⟩, (am_m 725 (by decide +kernel) rfl), (am_m 689 (by decide +kernel) rfl), Or.inl (am_m 696 (by decide +kernel) rfl), (am_m 687 (by decide +kernel) rfl), (am_m 690 (by decide +kernel) rfl)⟩⟩
  · exact ⟨(RX3, TX3, 0), rfl, ⟨⟨"DeedProofs$Line", "actShows", "(III)I"⟩, "DeedProofs$Line", ml_X3_actShows, by decide +kernel, ⟨by decide +kernel, by decide +kernel⟩, (am_m 725 (by decide +kernel) rfl), (am_m 689 (by decide +kernel) rfl), Or.inl (am_m 696 (by decide +kernel) rfl), (am_m 687 (by decide +kernel) rfl), (am_m 688 (by decide +kernel) rfl)⟩⟩
  · exact ⟨(RX4, TX4, 0), rfl, ⟨⟨"DeedProofs$Line", "actShows", "(III)I"⟩, "DeedProofs$Line", ml_X4_actShows, by decide +kernel, ⟨by decide +kernel, by decide +kernel⟩, (am_m 725 (by decide +kernel) rfl), (am_m 689 (by decide +kernel) rfl), Or.inl (am_m 696 (by decide +kernel) rfl), (am_m 692 (by decide +kernel) rfl), (am_m 691 (by decide +kernel) rfl)⟩⟩
  · exact ⟨(RX5, TX5, 0), rfl, ⟨⟨"DeedProofs$Line", "actShows", "(III)I"⟩, "DeedProofs$Line", ml_X3_actShows, by decide +kernel, ⟨by decide +kernel, by decide +kernel⟩, (am_m 725 (by decide +kernel) rfl), (am_m 689 (by decide +kernel) rfl), Or.inl (am_m 696 (by decide +kernel) rfl), (am_m 687 (by decide +kernel) rfl), (am_m 697 (by decide +kernel) rfl)⟩⟩
  · exact ⟨(RX8, TX8, 0), rfl, ⟨⟨"DeedProofs$Line", "actShows", "(III)I"⟩, "DeedProofs$Line", ml_X8_actShows, by decide +kernel, ⟨by decide +kernel, by decide +kernel⟩, (am_m 725 (by decide +kernel) rfl), (am_m 689 (by decide +kernel) rfl), Or.inl (am_m 696 (by decide +kernel) rfl), (am_m 699 (by decide +kernel) rfl), (am_m 698 (by decide +kernel) rfl)⟩⟩
theorem li_v22 : am_okV (am_nm 4) 14 36 3 4 4 := ⟨(RX4, TX4, 0), rfl, ⟨⟨"DeedProofs$Open", "actLeans", "(III)I"⟩, "DeedProofs$Piece", ml_X5_actLeans, by decide +kernel, ⟨by decide +kernel, by decide +kernel⟩, (am_m 718 (by decide +kernel) rfl), (am_m 719 (by decide +kernel) rfl), Or.inl (am_m 720 (by decide +kernel) rfl), (am_m 680 (by decide +kernel) rfl), (am_m 721 (by decide +kernel) rfl)⟩⟩
theorem li_v23 : am_okV (am_nm 6) 61 49 2 0 6 := ⟨ml_X6_arrive, (RX6, TX6, 8), rfl, (am_m 494 (by decide +kernel) rfl), (am_m 496 (by decide +kernel) rfl), (am_mp 15 (by decide +kernel) rfl)⟩
theorem li_v24 : am_okV (am_nm 6) 65 39 2 0 6 := ⟨ml_X6_begin, (RX6, TX6, 8), rfl, (am_m 490 (by decide +kernel) rfl), (am_m 492 (by decide +kernel) rfl), (am_mp 14 (by decide +kernel) rfl)⟩
theorem li_v25 : am_okV (am_nm 6) 69 6 2 1 0 := ⟨ml_X0_textOn, (RX0, TX0, 18), "DeedProofs", rfl, (am_m 498 (by decide +kernel) rfl), (am_m 456 (by decide +kernel) rfl), (am_mp 11 (by decide +kernel) rfl)⟩
theorem li_v26 : am_okV (am_nm 6) 73 41 1 0 6 := ⟨ml_X6_bringLeast, (RX6, TX6, 8), rfl, (am_m 499 (by decide +kernel) rfl), (am_m 501 (by decide +kernel) rfl), (am_mp 16 (by decide +kernel) rfl)⟩
theorem li_v27 : am_okV (am_nm 6) 77 42 2 0 6 := ⟨ml_X6_useIn, (RX6, TX6, 8), rfl, (am_m 503 (by decide +kernel) rfl), (am_m 505 (by decide +kernel) rfl), (am_mp 17 (by decide +kernel) rfl)⟩
theorem li_v28 : am_okV (am_nm 6) 84 45 3 0 6 := ⟨ml_X6_bind, (RX6, TX6, 8), rfl, (am_m 507 (by decide +kernel) rfl), (am_m 509 (by decide +kernel) rfl), (am_mp 18 (by decide +kernel) rfl)⟩
theorem li_v29 : am_okV (am_nm 6) 88 47 2 0 6 := ⟨ml_X6_complete, (RX6, TX6, 8), rfl, (am_m 515 (by decide +kernel) rfl), (am_m 517 (by decide +kernel) rfl), (am_mp 20 (by decide +kernel) rfl)⟩
theorem li_v30 : am_okV (am_nm 6) 91 44 1 0 6 := ⟨ml_X6_settleFrom, (RX6, TX6, 8), rfl, (am_m 835 (by decide +kernel) rfl), (am_m 811 (by decide +kernel) rfl), (am_mp 50 (by decide +kernel) rfl)⟩
theorem li_v31 : am_okV (am_nm 6) 97 46 2 0 6 := ⟨ml_X6_bindArg, (RX6, TX6, 8), rfl, (am_m 511 (by decide +kernel) rfl), (am_m 513 (by decide +kernel) rfl), (am_mp 19 (by decide +kernel) rfl)⟩
theorem li_v32 : am_okV (am_nm 6) 101 71 1 1 10 := ⟨ml_X10_hasInTerms, (RX10, TX10, 5), "DeedProofs", rfl, (am_m 519 (by decide +kernel) rfl), (am_m 521 (by decide +kernel) rfl), (am_mp 21 (by decide +kernel) rfl)⟩
theorem li_v33 : am_okV (am_nm 6) 105 48 1 0 6 := ⟨ml_X6_conclude, (RX6, TX6, 8), rfl, (am_m 523 (by decide +kernel) rfl), (am_m 525 (by decide +kernel) rfl), (am_mp 22 (by decide +kernel) rfl)⟩
theorem li_v34 : am_okV (am_nm 6) 109 73 1 1 10 := ⟨ml_X10_testsHold, (RX10, TX10, 5), "DeedProofs", rfl, (am_m 527 (by decide +kernel) rfl), (am_m 529 (by decide +kernel) rfl), (am_mp 23 (by decide +kernel) rfl)⟩
theorem li_v35 : am_okV (am_nm 6) 113 72 2 1 10 := ⟨ml_X10_factOf, (RX10, TX10, 5), "DeedProofs", rfl, (am_m 531 (by decide +kernel) rfl), (am_m 533 (by decide +kernel) rfl), (am_mp 24 (by decide +kernel) rfl)⟩
theorem li_v36 : am_okV (am_nm 7) 41 52 0 0 7 := ⟨ml_X7_readParts, (RX7, TX7, 5), rfl, (am_m 356 (by decide +kernel) rfl), (am_m 358 (by decide +kernel) rfl), (am_mp 2 (by decide +kernel) rfl)⟩
theorem li_v37 : am_okV (am_nm 7) 45 54 1 0 7 := ⟨ml_X7_readTerm, (RX7, TX7, 5), rfl, (am_m 417 (by decide +kernel) rfl), (am_m 419 (by decide +kernel) rfl), (am_mp 5 (by decide +kernel) rfl)⟩
theorem li_v38 : am_okV (am_nm 7) 49 53 0 0 7 := ⟨ml_X7_readPart, (RX7, TX7, 5), rfl, (am_m 360 (by decide +kernel) rfl), (am_m 362 (by decide +kernel) rfl), (am_mp 3 (by decide +kernel) rfl)⟩
theorem li_v39 : am_okV (am_nm 7) 52 58 1 0 7 := ⟨ml_X7_skip, (RX7, TX7, 5), rfl, (am_m 421 (by decide +kernel) rfl), (am_m 423 (by decide +kernel) rfl), (am_mp 6 (by decide +kernel) rfl)⟩
theorem li_v40 : am_okV (am_nm 7) 58 57 1 0 7 := ⟨ml_X7_placeIn, (RX7, TX7, 5), rfl, (am_m 365 (by decide +kernel) rfl), (am_m 367 (by decide +kernel) rfl), (am_mp 4 (by decide +kernel) rfl)⟩
theorem li_v41 : am_okV (am_nm 7) 64 55 1 0 7 := ⟨ml_X7_readTest, (RX7, TX7, 5), rfl, (am_m 430 (by decide +kernel) rfl), (am_m 432 (by decide +kernel) rfl), (am_mp 8 (by decide +kernel) rfl)⟩
theorem li_v42 : am_okV (am_nm 7) 71 56 1 0 7 := ⟨ml_X7_readArg, (RX7, TX7, 5), rfl, (am_m 425 (by decide +kernel) rfl), (am_m 427 (by decide +kernel) rfl), (am_mp 7 (by decide +kernel) rfl)⟩
theorem li_v43 : am_okV (am_nm 7) 80 213 0 2 0 := ⟨ml_J0_length_8abf5, (am_m 369 (by decide +kernel) rfl), (am_m 370 (by decide +kernel) rfl), (am_m 371 (by decide +kernel) rfl)⟩
theorem li_v44 : am_okV (am_nm 7) 86 214 1 2 0 := ⟨ml_J0_charAt_5068e, (am_m 379 (by decide +kernel) rfl), (am_m 380 (by decide +kernel) rfl), (am_m 381 (by decide +kernel) rfl)⟩
theorem li_v45 : am_okV (am_nm 9) 37 39 2 1 6 := ⟨ml_X6_begin, (RX6, TX6, 8), "DeedProofs", rfl, (am_m 808 (by decide +kernel) rfl), (am_m 492 (by decide +kernel) rfl), (am_mp 14 (by decide +kernel) rfl)⟩
theorem li_v46 : am_okV (am_nm 9) 43 44 1 1 6 := ⟨ml_X6_settleFrom, (RX6, TX6, 8), "DeedProofs", rfl, (am_m 809 (by decide +kernel) rfl), (am_m 811 (by decide +kernel) rfl), (am_mp 50 (by decide +kernel) rfl)⟩
theorem li_v47 : am_okV (am_nm 9) 51 65 2 0 9 := ⟨ml_X9_playPieces, (RX9, TX9, 6), rfl, (am_m 813 (by decide +kernel) rfl), (am_m 815 (by decide +kernel) rfl), (am_mp 51 (by decide +kernel) rfl)⟩
theorem li_v48 : am_okV (am_nm 9) 59 67 1 0 9 := ⟨ml_X9_endOfTry, (RX9, TX9, 6), rfl, (am_m 817 (by decide +kernel) rfl), (am_m 819 (by decide +kernel) rfl), (am_mp 52 (by decide +kernel) rfl)⟩
theorem li_v49 : am_okV (am_nm 9) 63 66 3 0 9 := ⟨ml_X9_playTry, (RX9, TX9, 6), rfl, (am_m 825 (by decide +kernel) rfl), (am_m 827 (by decide +kernel) rfl), (am_mp 54 (by decide +kernel) rfl)⟩
theorem li_v50 : am_okV (am_nm 9) 67 64 1 0 9 := ⟨ml_X9_signAt, (RX9, TX9, 6), rfl, (am_m 821 (by decide +kernel) rfl), (am_m 823 (by decide +kernel) rfl), (am_mp 53 (by decide +kernel) rfl)⟩
theorem li_v51 : am_okV (am_nm 9) 71 2 2 1 0 := ⟨ml_X0_has, (RX0, TX0, 18), "DeedProofs", rfl, (am_m 829 (by decide +kernel) rfl), (am_m 441 (by decide +kernel) rfl), (am_mp 9 (by decide +kernel) rfl)⟩
theorem li_v52 : am_okV (am_nm 9) 78 6 2 1 0 := ⟨ml_X0_textOn, (RX0, TX0, 18), "DeedProofs", rfl, (am_m 830 (by decide +kernel) rfl), (am_m 456 (by decide +kernel) rfl), (am_mp 11 (by decide +kernel) rfl)⟩
theorem li_v53 : am_okV (am_nm 9) 82 43 1 1 6 := ⟨ml_X6_useOnce, (RX6, TX6, 8), "DeedProofs", rfl, (am_m 831 (by decide +kernel) rfl), (am_m 833 (by decide +kernel) rfl), (am_mp 55 (by decide +kernel) rfl)⟩
theorem li_v54 : am_okV (am_nm 11) 82 114 1 0 11 := ⟨ml_X11_readTape, (RX11, TX11, 7), rfl, (am_m 348 (by decide +kernel) rfl), (am_m 350 (by decide +kernel) rfl), (am_mp 0 (by decide +kernel) rfl)⟩
theorem li_v55 : am_okV (am_nm 11) 86 2 2 1 0 := ⟨ml_X0_has, (RX0, TX0, 18), "DeedProofs", rfl, (am_m 439 (by decide +kernel) rfl), (am_m 441 (by decide +kernel) rfl), (am_mp 9 (by decide +kernel) rfl)⟩
theorem li_v56 : am_okV (am_nm 11) 100 5 2 1 0 := ⟨ml_X0_changeOn, (RX0, TX0, 18), "DeedProofs", rfl, (am_m 450 (by decide +kernel) rfl), (am_m 452 (by decide +kernel) rfl), (am_mp 10 (by decide +kernel) rfl)⟩
theorem li_v57 : am_okV (am_nm 11) 104 6 2 1 0 := ⟨ml_X0_textOn, (RX0, TX0, 18), "DeedProofs", rfl, (am_m 454 (by decide +kernel) rfl), (am_m 456 (by decide +kernel) rfl), (am_mp 11 (by decide +kernel) rfl)⟩
theorem li_v58 : am_okV (am_nm 11) 132 4 1 1 0 := ⟨ml_X0_isTrue, (RX0, TX0, 18), "DeedProofs", rfl, (am_m 473 (by decide +kernel) rfl), (am_m 475 (by decide +kernel) rfl), (am_mp 12 (by decide +kernel) rfl)⟩
theorem li_v59 : am_okV (am_nm 11) 135 40 3 1 6 := ⟨ml_X6_spread, (RX6, TX6, 8), "DeedProofs", rfl, (am_m 486 (by decide +kernel) rfl), (am_m 488 (by decide +kernel) rfl), (am_mp 13 (by decide +kernel) rfl)⟩
theorem li_v60 : am_okV (am_nm 11) 139 38 1 1 6 := ⟨ml_X6_has, (RX6, TX6, 8), "DeedProofs", rfl, (am_m 542 (by decide +kernel) rfl), (am_m 544 (by decide +kernel) rfl), (am_mp 25 (by decide +kernel) rfl)⟩
theorem li_v61 : am_okV (am_nm 11) 156 11 1 1 0 := ⟨ml_X0_isTitled, (RX0, TX0, 18), "DeedProofs", rfl, (am_m 561 (by decide +kernel) rfl), (am_m 563 (by decide +kernel) rfl), (am_mp 26 (by decide +kernel) rfl)⟩
theorem li_v62 : am_okV (am_nm 11) 159 13 1 1 0 := ⟨ml_X0_isUsed, (RX0, TX0, 18), "DeedProofs", rfl, (am_m 565 (by decide +kernel) rfl), (am_m 567 (by decide +kernel) rfl), (am_mp 27 (by decide +kernel) rfl)⟩
theorem li_v63 : am_okV (am_nm 11) 162 7 2 1 0 := ⟨ml_X0_rowOf, (RX0, TX0, 18), "DeedProofs", rfl, (am_m 581 (by decide +kernel) rfl), (am_m 579 (by decide +kernel) rfl), (am_mp 30 (by decide +kernel) rfl)⟩
theorem li_v64 : am_okV (am_nm 11) 168 3 2 1 0 := ⟨ml_X0_hasStep, (RX0, TX0, 18), "DeedProofs", rfl, (am_m 586 (by decide +kernel) rfl), (am_m 588 (by decide +kernel) rfl), (am_mp 31 (by decide +kernel) rfl)⟩
theorem li_v65 : am_okV (am_nm 11) 171 20 3 1 2 := ⟨ml_X2_weigh, (RX2, TX2, 7), "DeedProofs", rfl, (am_m 590 (by decide +kernel) rfl), (am_m 592 (by decide +kernel) rfl), (am_mp 32 (by decide +kernel) rfl)⟩
theorem li_v66 : am_okV (am_nm 11) 178 23 3 1 2 := ⟨ml_X2_factOfStep, (RX2, TX2, 7), "DeedProofs", rfl, (am_m 631 (by decide +kernel) rfl), (am_m 596 (by decide +kernel) rfl), (am_mp 33 (by decide +kernel) rfl)⟩
theorem li_v67 : am_okV (am_nm 11) 186 26 1 1 2 := ⟨ml_X2_papersUnder, (RX2, TX2, 7), "DeedProofs", rfl, (am_m 640 (by decide +kernel) rfl), (am_m 642 (by decide +kernel) rfl), (am_mp 39 (by decide +kernel) rfl)⟩
theorem li_v68 : am_okV (am_nm 11) 190 14 1 1 0 := ⟨ml_X0_holesOf, (RX0, TX0, 18), "DeedProofs", rfl, (am_m 652 (by decide +kernel) rfl), (am_m 624 (by decide +kernel) rfl), (am_mp 38 (by decide +kernel) rfl)⟩
theorem li_v69 : am_okV (am_nm 11) 193 16 2 1 0 := ⟨ml_X0_placeOfHole, (RX0, TX0, 18), "DeedProofs", rfl, (am_m 653 (by decide +kernel) rfl), (am_m 655 (by decide +kernel) rfl), (am_mp 41 (by decide +kernel) rfl)⟩
theorem li_v70 : am_okV (am_nm 11) 196 25 3 1 2 := ⟨ml_X2_saidBy, (RX2, TX2, 7), "DeedProofs", rfl, (am_m 661 (by decide +kernel) rfl), (am_m 663 (by decide +kernel) rfl), (am_mp 42 (by decide +kernel) rfl)⟩
theorem li_v71 : am_okV (am_nm 11) 199 24 3 1 2 := ⟨ml_X2_factOfTerm, (RX2, TX2, 7), "DeedProofs", rfl, (am_m 666 (by decide +kernel) rfl), (am_m 668 (by decide +kernel) rfl), (am_mp 43 (by decide +kernel) rfl)⟩
theorem li_v72 : am_okV (am_nm 11) 202 216 3 3 0 := fun ci h => by
  rcases h with rfl | rfl | rfl | rfl | rfl
  · exact ⟨(RX1, TX1, 0), rfl, ⟨⟨"DeedProofs$Line", "actLeans", "(III)I"⟩, "DeedProofs$Line", ml_X3_actLeans, by decide +kernel, ⟨by decide +kernel, by decide +kernel⟩, (am_m 674 (by decide +kernel) rfl), (am_m 677 (by decide +kernel) rfl), Or.inr ⟨prog_5_method_2_code, 4, (some FieldType.int), (am_m 675 (by decide +kernel) rfl), (am_m 685 (by decide +kernel) rfl)⟩, (am_m 675 (by decide +kernel) rfl), (am_m 678 (by decide +kernel) rfl)⟩⟩
  · exact ⟨(RX3, TX3, 0), rfl, ⟨⟨"DeedProofs$Line", "actLeans", "(III)I"⟩, "DeedProofs$Line", ml_X3_actLeans, by decide +kernel, ⟨by decide +kernel, by decide +kernel⟩, (am_m 674 (by decide +kernel) rfl), (am_m 677 (by decide +kernel) rfl), Or.inr ⟨prog_5_method_2_code, 4, (some FieldType.int), (am_m 675 (by decide +kernel) rfl), (am_m 685 (by decide +kernel) rfl)⟩, (am_m 675 (by decide +kernel) rfl), (am_m 676 (by decide +kernel) rfl)⟩⟩
  · exact ⟨(RX4, TX4, 0), rfl, ⟨⟨"DeedProofs$Line", "actLeans", "(III)I"⟩, "DeedProofs$Line", ml_X5_actLeans, by decide +kernel, ⟨by decide +kernel, by decide +kernel⟩, (am_m 674 (by decide +kernel) rfl), (am_m 677 (by decide +kernel) rfl), Or.inr ⟨prog_5_method_2_code, 4, (some FieldType.int), (am_m 675 (by decide +kernel) rfl), (am_m 685 (by decide +kernel) rfl)⟩, (am_m 680 (by decide +kernel) rfl), (am_m 679 (by decide +kernel) rfl)⟩⟩
  · exact ⟨(RX5, TX5, 0), rfl, ⟨⟨"DeedProofs$Line", "actLeans", "(III)I"⟩, "DeedProofs$Line", ml_X5_actLeans, by decide +kernel, ⟨by decide +kernel, by decide +kernel⟩, (am_m 674 (by decide +kernel) rfl), (am_m 677 (by decide +kernel) rfl), Or.inr ⟨prog_5_method_2_code, 4, (some FieldType.int), (am_m 675 (by decide +kernel) rfl), (am_m 685 (by decide +kernel) rfl)⟩, (am_m 680 (by decide +kernel) rfl), (am_m 683 (by decide +kernel) rfl)⟩⟩
  · exact ⟨(RX8, TX8, 0), rfl, ⟨⟨"DeedProofs$Line", "actLeans", "(III)I"⟩, "DeedProofs$Line", ml_X3_actLeans, by decide +kernel, ⟨by decide +kernel, by decide +kernel⟩, (am_m 674 (by decide +kernel) rfl), (am_m 677 (by decide +kernel) rfl), Or.inr ⟨prog_5_method_2_code, 4, (some FieldType.int), (am_m 675 (by decide +kernel) rfl), (am_m 685 (by decide +kernel) rfl)⟩, (am_m 675 (by decide +kernel) rfl), (am_m 684 (by decide +kernel) rfl)⟩⟩
theorem li_v73 : am_okV (am_nm 11) 205 225 3 3 0 := fun ci h => by
  rcases h with rfl | rfl | rfl | rfl | rfl
  · exact ⟨(RX1, TX1, 0), rfl, ⟨⟨"DeedProofs$Line", "actShows", "(III)I"⟩, "DeedProofs$Line", ml_X3_actShows, by decide +kernel, ⟨by decide +kernel, by decide +kernel⟩, (am_m 686 (by decide +kernel) rfl), (am_m 689 (by decide +kernel) rfl), Or.inl (am_m 696 (by decide +kernel) rfl), (am_m 687 (by decide +kernel) rfl), (am_m 690 (by decide +kernel) rfl)⟩⟩
  · exact ⟨(RX3, TX3, 0), rfl, ⟨⟨"DeedProofs$Line", "actShows", "(III)I"⟩, "DeedProofs$Line", ml_X3_actShows, by decide +kernel, ⟨by decide +kernel, by decide +kernel⟩, (am_m 686 (by decide +kernel) rfl), (am_m 689 (by decide +kernel) rfl), Or.inl (am_m 696 (by decide +kernel) rfl), (am_m 687 (by decide +kernel) rfl), (am_m 688 (by decide +kernel) rfl)⟩⟩
  · exact ⟨(RX4, TX4, 0), rfl, ⟨⟨"DeedProofs$Line", "actShows", "(III)I"⟩, "DeedProofs$Line", ml_X4_actShows, by decide +kernel, ⟨by decide +kernel, by decide +kernel⟩, (am_m 686 (by decide +kernel) rfl), (am_m 689 (by decide +kernel) rfl), Or.inl (am_m 696 (by decide +kernel) rfl), (am_m 692 (by decide +kernel) rfl), (am_m 691 (by decide +kernel) rfl)⟩⟩
  · exact ⟨(RX5, TX5, 0), rfl, ⟨⟨"DeedProofs$Line", "actShows", "(III)I"⟩, "DeedProofs$Line", ml_X3_actShows, by decide +kernel, ⟨by decide +kernel, by decide +kernel⟩, (am_m 686 (by decide +kernel) rfl), (am_m 689 (by decide +kernel) rfl), Or.inl (am_m 696 (by decide +kernel) rfl), (am_m 687 (by decide +kernel) rfl), (am_m 697 (by decide +kernel) rfl)⟩⟩
  · exact ⟨(RX8, TX8, 0), rfl, ⟨⟨"DeedProofs$Line", "actShows", "(III)I"⟩, "DeedProofs$Line", ml_X8_actShows, by decide +kernel, ⟨by decide +kernel, by decide +kernel⟩, (am_m 686 (by decide +kernel) rfl), (am_m 689 (by decide +kernel) rfl), Or.inl (am_m 696 (by decide +kernel) rfl), (am_m 699 (by decide +kernel) rfl), (am_m 698 (by decide +kernel) rfl)⟩⟩
theorem li_v74 : am_okV (am_nm 11) 208 234 3 3 0 := fun ci h => by
  rcases h with rfl | rfl | rfl | rfl | rfl
  · exact ⟨(RX1, TX1, 0), rfl, ⟨⟨"DeedProofs$Line", "actEnds", "(III)I"⟩, "DeedProofs$Line", ml_X1_actEnds, by decide +kernel, ⟨by decide +kernel, by decide +kernel⟩, (am_m 704 (by decide +kernel) rfl), (am_m 707 (by decide +kernel) rfl), Or.inl (am_m 717 (by decide +kernel) rfl), (am_m 709 (by decide +kernel) rfl), (am_m 708 (by decide +kernel) rfl)⟩⟩
  · exact ⟨(RX3, TX3, 0), rfl, ⟨⟨"DeedProofs$Line", "actEnds", "(III)I"⟩, "DeedProofs$Line", ml_X3_actEnds, by decide +kernel, ⟨by decide +kernel, by decide +kernel⟩, (am_m 704 (by decide +kernel) rfl), (am_m 707 (by decide +kernel) rfl), Or.inl (am_m 717 (by decide +kernel) rfl), (am_m 705 (by decide +kernel) rfl), (am_m 706 (by decide +kernel) rfl)⟩⟩
  · exact ⟨(RX4, TX4, 0), rfl, ⟨⟨"DeedProofs$Line", "actEnds", "(III)I"⟩, "DeedProofs$Line", ml_X4_actEnds, by decide +kernel, ⟨by decide +kernel, by decide +kernel⟩, (am_m 704 (by decide +kernel) rfl), (am_m 707 (by decide +kernel) rfl), Or.inl (am_m 717 (by decide +kernel) rfl), (am_m 713 (by decide +kernel) rfl), (am_m 712 (by decide +kernel) rfl)⟩⟩
  · exact ⟨(RX5, TX5, 0), rfl, ⟨⟨"DeedProofs$Line", "actEnds", "(III)I"⟩, "DeedProofs$Line", ml_X3_actEnds, by decide +kernel, ⟨by decide +kernel, by decide +kernel⟩, (am_m 704 (by decide +kernel) rfl), (am_m 707 (by decide +kernel) rfl), Or.inl (am_m 717 (by decide +kernel) rfl), (am_m 705 (by decide +kernel) rfl), (am_m 722 (by decide +kernel) rfl)⟩⟩
  · exact ⟨(RX8, TX8, 0), rfl, ⟨⟨"DeedProofs$Line", "actEnds", "(III)I"⟩, "DeedProofs$Line", ml_X3_actEnds, by decide +kernel, ⟨by decide +kernel, by decide +kernel⟩, (am_m 704 (by decide +kernel) rfl), (am_m 707 (by decide +kernel) rfl), Or.inl (am_m 717 (by decide +kernel) rfl), (am_m 705 (by decide +kernel) rfl), (am_m 723 (by decide +kernel) rfl)⟩⟩
theorem li_v75 : am_okV (am_nm 11) 214 12 1 1 0 := ⟨ml_X0_isTitleOf, (RX0, TX0, 18), "DeedProofs", rfl, (am_m 736 (by decide +kernel) rfl), (am_m 738 (by decide +kernel) rfl), (am_mp 44 (by decide +kernel) rfl)⟩
theorem li_v76 : am_okV (am_nm 11) 226 116 2 0 11 := ⟨ml_X11_standsByProof, (RX11, TX11, 7), rfl, (am_m 744 (by decide +kernel) rfl), (am_m 746 (by decide +kernel) rfl), (am_mp 45 (by decide +kernel) rfl)⟩
theorem li_v77 : am_okV (am_nm 11) 229 117 1 0 11 := ⟨ml_X11_standingToday, (RX11, TX11, 7), rfl, (am_m 752 (by decide +kernel) rfl), (am_m 754 (by decide +kernel) rfl), (am_mp 46 (by decide +kernel) rfl)⟩
theorem li_v78 : am_okV (am_nm 11) 232 115 2 0 11 := ⟨ml_X11_followsToday, (RX11, TX11, 7), rfl, (am_m 768 (by decide +kernel) rfl), (am_m 770 (by decide +kernel) rfl), (am_mp 47 (by decide +kernel) rfl)⟩
theorem li_v79 : am_okV (am_nm 11) 240 118 3 0 11 := ⟨ml_X11_fewest, (RX11, TX11, 7), rfl, (am_m 782 (by decide +kernel) rfl), (am_m 784 (by decide +kernel) rfl), (am_mp 48 (by decide +kernel) rfl)⟩
theorem li_v80 : am_okV (am_nm 11) 259 63 2 1 9 := ⟨ml_X9_play, (RX9, TX9, 6), "DeedProofs", rfl, (am_m 804 (by decide +kernel) rfl), (am_m 806 (by decide +kernel) rfl), (am_mp 49 (by decide +kernel) rfl)⟩
theorem li_v81 : am_okV (am_nm 11) 273 1 1 1 0 := ⟨ml_X0_become, (RX0, TX0, 18), "DeedProofs", rfl, (am_m 844 (by decide +kernel) rfl), (am_m 846 (by decide +kernel) rfl), (am_mp 56 (by decide +kernel) rfl)⟩
theorem li_v82 : am_okV (am_nm 11) 276 51 3 1 7 := ⟨ml_X7_read, (RX7, TX7, 5), "DeedProofs", rfl, (am_m 352 (by decide +kernel) rfl), (am_m 354 (by decide +kernel) rfl), (am_mp 1 (by decide +kernel) rfl)⟩
theorem li_v83 : am_okV (am_nm 12) 48 125 0 0 12 := ⟨ml_X12_here, (RX12, TX12, 15), rfl, (am_m 938 (by decide +kernel) rfl), (am_m 940 (by decide +kernel) rfl), (am_mp 60 (by decide +kernel) rfl)⟩
theorem li_v84 : am_okV (am_nm 12) 56 126 1 0 12 := ⟨ml_X12_eats, (RX12, TX12, 15), rfl, (am_m 949 (by decide +kernel) rfl), (am_m 951 (by decide +kernel) rfl), (am_mp 62 (by decide +kernel) rfl)⟩
theorem li_v85 : am_okV (am_nm 12) 60 128 0 0 12 := ⟨ml_X12_argument, (RX12, TX12, 15), rfl, (am_m 953 (by decide +kernel) rfl), (am_m 955 (by decide +kernel) rfl), (am_mp 63 (by decide +kernel) rfl)⟩
theorem li_v86 : am_okV (am_nm 12) 63 129 1 0 12 := ⟨ml_X12_term, (RX12, TX12, 15), rfl, (am_m 945 (by decide +kernel) rfl), (am_m 947 (by decide +kernel) rfl), (am_mp 61 (by decide +kernel) rfl)⟩
theorem li_v87 : am_okV (am_nm 12) 66 130 1 0 12 := ⟨ml_X12_test, (RX12, TX12, 15), rfl, (am_m 957 (by decide +kernel) rfl), (am_m 959 (by decide +kernel) rfl), (am_mp 64 (by decide +kernel) rfl)⟩
theorem li_v88 : am_okV (am_nm 12) 69 132 2 0 12 := ⟨ml_X12_lettersIn, (RX12, TX12, 15), rfl, (am_m 961 (by decide +kernel) rfl), (am_m 963 (by decide +kernel) rfl), (am_mp 65 (by decide +kernel) rfl)⟩
theorem li_v89 : am_okV (am_nm 12) 73 131 1 0 12 := ⟨ml_X12_part, (RX12, TX12, 15), rfl, (am_m 934 (by decide +kernel) rfl), (am_m 936 (by decide +kernel) rfl), (am_mp 59 (by decide +kernel) rfl)⟩
theorem li_v90 : am_okV (am_nm 12) 76 133 1 0 12 := ⟨ml_X12_termLetters, (RX12, TX12, 15), rfl, (am_m 965 (by decide +kernel) rfl), (am_m 967 (by decide +kernel) rfl), (am_mp 66 (by decide +kernel) rfl)⟩
theorem li_v91 : am_okV (am_nm 12) 79 134 0 0 12 := ⟨ml_X12_reads, (RX12, TX12, 15), rfl, (am_m 930 (by decide +kernel) rfl), (am_m 932 (by decide +kernel) rfl), (am_mp 58 (by decide +kernel) rfl)⟩
theorem li_v92 : am_okV (am_nm 12) 82 136 1 0 12 := ⟨ml_X12_isRule, (RX12, TX12, 15), rfl, (am_m 973 (by decide +kernel) rfl), (am_m 975 (by decide +kernel) rfl), (am_mp 67 (by decide +kernel) rfl)⟩
theorem li_v93 : am_okV (am_nm 12) 86 138 2 0 12 := ⟨ml_X12_changeOn, (RX12, TX12, 15), rfl, (am_m 984 (by decide +kernel) rfl), (am_m 986 (by decide +kernel) rfl), (am_mp 68 (by decide +kernel) rfl)⟩
theorem li_v94 : am_okV (am_nm 12) 92 139 2 0 12 := ⟨ml_X12_textOn, (RX12, TX12, 15), rfl, (am_m 988 (by decide +kernel) rfl), (am_m 990 (by decide +kernel) rfl), (am_mp 69 (by decide +kernel) rfl)⟩
theorem li_v95 : am_okV (am_nm 12) 98 142 1 0 12 := ⟨ml_X12_isPaper, (RX12, TX12, 15), rfl, (am_m 1003 (by decide +kernel) rfl), (am_m 1005 (by decide +kernel) rfl), (am_mp 70 (by decide +kernel) rfl)⟩
theorem li_v96 : am_okV (am_nm 12) 101 146 1 0 12 := ⟨ml_X12_value, (RX12, TX12, 15), rfl, (am_m 1040 (by decide +kernel) rfl), (am_m 1042 (by decide +kernel) rfl), (am_mp 77 (by decide +kernel) rfl)⟩
theorem li_v97 : am_okV (am_nm 12) 104 147 1 0 12 := ⟨ml_X12_factAt, (RX12, TX12, 15), rfl, (am_m 1036 (by decide +kernel) rfl), (am_m 1038 (by decide +kernel) rfl), (am_mp 76 (by decide +kernel) rfl)⟩
theorem li_v98 : am_okV (am_nm 12) 108 151 0 0 12 := ⟨ml_X12_begins, (RX12, TX12, 15), rfl, (am_m 1019 (by decide +kernel) rfl), (am_m 1021 (by decide +kernel) rfl), (am_mp 72 (by decide +kernel) rfl)⟩
theorem li_v99 : am_okV (am_nm 12) 111 145 1 0 12 := ⟨ml_X12_sets, (RX12, TX12, 15), rfl, (am_m 1024 (by decide +kernel) rfl), (am_m 1026 (by decide +kernel) rfl), (am_mp 73 (by decide +kernel) rfl)⟩
theorem li_v100 : am_okV (am_nm 12) 114 149 1 0 12 := ⟨ml_X12_isPlain, (RX12, TX12, 15), rfl, (am_m 1028 (by decide +kernel) rfl), (am_m 1030 (by decide +kernel) rfl), (am_mp 74 (by decide +kernel) rfl)⟩
theorem li_v101 : am_okV (am_nm 12) 117 150 2 0 12 := ⟨ml_X12_areBelow, (RX12, TX12, 15), rfl, (am_m 1032 (by decide +kernel) rfl), (am_m 1034 (by decide +kernel) rfl), (am_mp 75 (by decide +kernel) rfl)⟩
theorem li_v102 : am_okV (am_nm 12) 121 148 1 0 12 := ⟨ml_X12_testsHold, (RX12, TX12, 15), rfl, (am_m 1044 (by decide +kernel) rfl), (am_m 1046 (by decide +kernel) rfl), (am_mp 78 (by decide +kernel) rfl)⟩
theorem li_v103 : am_okV (am_nm 12) 124 152 1 0 12 := ⟨ml_X12_works, (RX12, TX12, 15), rfl, (am_m 1015 (by decide +kernel) rfl), (am_m 1017 (by decide +kernel) rfl), (am_mp 71 (by decide +kernel) rfl)⟩
theorem li_v104 : am_okV (am_nm 12) 127 153 1 0 12 := ⟨ml_X12_sizes, (RX12, TX12, 15), rfl, (am_m 1048 (by decide +kernel) rfl), (am_m 1050 (by decide +kernel) rfl), (am_mp 79 (by decide +kernel) rfl)⟩
theorem li_v105 : am_okV (am_nm 12) 130 172 1 0 12 := ⟨ml_X12_usesEnds, (RX12, TX12, 15), rfl, (am_m 1072 (by decide +kernel) rfl), (am_m 1074 (by decide +kernel) rfl), (am_mp 82 (by decide +kernel) rfl)⟩
theorem li_v106 : am_okV (am_nm 12) 136 157 1 0 12 := ⟨ml_X12_isProof, (RX12, TX12, 15), rfl, (am_m 1064 (by decide +kernel) rfl), (am_m 1066 (by decide +kernel) rfl), (am_mp 80 (by decide +kernel) rfl)⟩
theorem li_v107 : am_okV (am_nm 12) 139 160 1 0 12 := ⟨ml_X12_isUsed, (RX12, TX12, 15), rfl, (am_m 1068 (by decide +kernel) rfl), (am_m 1070 (by decide +kernel) rfl), (am_mp 81 (by decide +kernel) rfl)⟩
theorem li_v108 : am_okV (am_nm 12) 142 163 4 0 12 := ⟨ml_X12_termOn, (RX12, TX12, 15), rfl, (am_m 1095 (by decide +kernel) rfl), (am_m 1097 (by decide +kernel) rfl), (am_mp 86 (by decide +kernel) rfl)⟩
theorem li_v109 : am_okV (am_nm 12) 146 162 3 0 12 := ⟨ml_X12_saysOn, (RX12, TX12, 15), rfl, (am_m 1099 (by decide +kernel) rfl), (am_m 1101 (by decide +kernel) rfl), (am_mp 87 (by decide +kernel) rfl)⟩
theorem li_v110 : am_okV (am_nm 12) 150 165 3 0 12 := ⟨ml_X12_lacksOn, (RX12, TX12, 15), rfl, (am_m 1087 (by decide +kernel) rfl), (am_m 1089 (by decide +kernel) rfl), (am_mp 84 (by decide +kernel) rfl)⟩
theorem li_v111 : am_okV (am_nm 12) 153 167 2 0 12 := ⟨ml_X12_isTaken, (RX12, TX12, 15), rfl, (am_m 1103 (by decide +kernel) rfl), (am_m 1105 (by decide +kernel) rfl), (am_mp 88 (by decide +kernel) rfl)⟩
theorem li_v112 : am_okV (am_nm 12) 156 164 4 0 12 := ⟨ml_X12_isFrom, (RX12, TX12, 15), rfl, (am_m 1091 (by decide +kernel) rfl), (am_m 1093 (by decide +kernel) rfl), (am_mp 85 (by decide +kernel) rfl)⟩
theorem li_v113 : am_okV (am_nm 12) 160 166 2 0 12 := ⟨ml_X12_holesOf, (RX12, TX12, 15), rfl, (am_m 1107 (by decide +kernel) rfl), (am_m 1109 (by decide +kernel) rfl), (am_mp 89 (by decide +kernel) rfl)⟩
theorem li_v114 : am_okV (am_nm 12) 163 168 2 0 12 := ⟨ml_X12_isStep, (RX12, TX12, 15), rfl, (am_m 1083 (by decide +kernel) rfl), (am_m 1085 (by decide +kernel) rfl), (am_mp 83 (by decide +kernel) rfl)⟩
theorem li_v115 : am_okV (am_nm 12) 166 173 1 0 12 := ⟨ml_X12_leansOf, (RX12, TX12, 15), rfl, (am_m 1123 (by decide +kernel) rfl), (am_m 1125 (by decide +kernel) rfl), (am_mp 90 (by decide +kernel) rfl)⟩
theorem li_v116 : am_okV (am_nm 12) 169 178 3 0 12 := ⟨ml_X12_leansFrom, (RX12, TX12, 15), rfl, (am_m 1139 (by decide +kernel) rfl), (am_m 1141 (by decide +kernel) rfl), (am_mp 91 (by decide +kernel) rfl)⟩
theorem li_v117 : am_okV (am_nm 12) 175 179 3 0 12 := ⟨ml_X12_showsFrom, (RX12, TX12, 15), rfl, (am_m 1146 (by decide +kernel) rfl), (am_m 1148 (by decide +kernel) rfl), (am_mp 92 (by decide +kernel) rfl)⟩
theorem li_v118 : am_okV (am_nm 12) 178 180 3 0 12 := ⟨ml_X12_endsFrom, (RX12, TX12, 15), rfl, (am_m 1150 (by decide +kernel) rfl), (am_m 1152 (by decide +kernel) rfl), (am_mp 93 (by decide +kernel) rfl)⟩
theorem li_v119 : am_okV (am_nm 12) 181 154 2 0 12 := ⟨ml_X12_followsOn, (RX12, TX12, 15), rfl, (am_m 1174 (by decide +kernel) rfl), (am_m 1176 (by decide +kernel) rfl), (am_mp 96 (by decide +kernel) rfl)⟩
theorem li_v120 : am_okV (am_nm 12) 184 183 1 0 12 := ⟨ml_X12_isTitle, (RX12, TX12, 15), rfl, (am_m 1166 (by decide +kernel) rfl), (am_m 1168 (by decide +kernel) rfl), (am_mp 94 (by decide +kernel) rfl)⟩
theorem li_v121 : am_okV (am_nm 12) 187 185 2 0 12 := ⟨ml_X12_standsOn, (RX12, TX12, 15), rfl, (am_m 1170 (by decide +kernel) rfl), (am_m 1172 (by decide +kernel) rfl), (am_mp 95 (by decide +kernel) rfl)⟩
theorem li_v122 : am_okV (am_nm 12) 193 192 3 0 12 := ⟨ml_X12_fewest, (RX12, TX12, 15), rfl, (am_m 1201 (by decide +kernel) rfl), (am_m 1203 (by decide +kernel) rfl), (am_mp 97 (by decide +kernel) rfl)⟩
theorem li_v123 : am_okV (am_nm 12) 196 196 0 0 12 := ⟨ml_X12_readsPiece, (RX12, TX12, 15), rfl, (am_m 1217 (by decide +kernel) rfl), (am_m 1219 (by decide +kernel) rfl), (am_mp 99 (by decide +kernel) rfl)⟩
theorem li_v124 : am_okV (am_nm 12) 199 197 0 0 12 := ⟨ml_X12_readsTry, (RX12, TX12, 15), rfl, (am_m 1221 (by decide +kernel) rfl), (am_m 1223 (by decide +kernel) rfl), (am_mp 100 (by decide +kernel) rfl)⟩
theorem li_v125 : am_okV (am_nm 12) 205 195 0 0 12 := ⟨ml_X12_readsTactic, (RX12, TX12, 15), rfl, (am_m 1213 (by decide +kernel) rfl), (am_m 1215 (by decide +kernel) rfl), (am_mp 98 (by decide +kernel) rfl)⟩
theorem li_v126 : am_okV (am_nm 12) 217 199 1 0 12 := ⟨ml_X12_byteAt, (RX12, TX12, 15), rfl, (am_m 1241 (by decide +kernel) rfl), (am_m 1243 (by decide +kernel) rfl), (am_mp 104 (by decide +kernel) rfl)⟩
theorem li_v127 : am_okV (am_nm 12) 220 201 1 0 12 := ⟨ml_X12_behindTry, (RX12, TX12, 15), rfl, (am_m 1237 (by decide +kernel) rfl), (am_m 1239 (by decide +kernel) rfl), (am_mp 103 (by decide +kernel) rfl)⟩
theorem li_v128 : am_okV (am_nm 12) 223 203 1 0 12 := ⟨ml_X12_runsOnce, (RX12, TX12, 15), rfl, (am_m 1245 (by decide +kernel) rfl), (am_m 1247 (by decide +kernel) rfl), (am_mp 105 (by decide +kernel) rfl)⟩
theorem li_v129 : am_okV (am_nm 12) 226 204 1 0 12 := ⟨ml_X12_runsTactic, (RX12, TX12, 15), rfl, (am_m 1229 (by decide +kernel) rfl), (am_m 1231 (by decide +kernel) rfl), (am_mp 101 (by decide +kernel) rfl)⟩
theorem li_v130 : am_okV (am_nm 12) 229 200 1 0 12 := ⟨ml_X12_runs, (RX12, TX12, 15), rfl, (am_m 1249 (by decide +kernel) rfl), (am_m 1251 (by decide +kernel) rfl), (am_mp 106 (by decide +kernel) rfl)⟩
theorem li_v131 : am_okV (am_nm 12) 232 202 1 0 12 := ⟨ml_X12_runsTry, (RX12, TX12, 15), rfl, (am_m 1233 (by decide +kernel) rfl), (am_m 1235 (by decide +kernel) rfl), (am_mp 102 (by decide +kernel) rfl)⟩
def am_lkV_0 : List (Nat × Nat × Nat × Nat × Nat × Int32) := [(0, 80, 74, 1, 1, 10), (0, 84, 2, 2, 0, 0), (0, 88, 5, 2, 0, 0), (0, 92, 9, 1, 0, 0), (0, 96, 15, 2, 0, 0), (0, 99, 8, 1, 0, 0), (0, 102, 7, 2, 0, 0), (2, 47, 23, 3, 0, 2), (2, 51, 21, 3, 0, 2), (2, 57, 14, 1, 1, 0), (2, 61, 7, 2, 1, 0), (2, 68, 6, 2, 1, 0), (2, 79, 73, 1, 1, 10), (2, 83, 72, 2, 1, 10), (2, 87, 22, 4, 0, 2), (2, 91, 2, 2, 1, 0)]
theorem am_lkV_ok0 : ∀ q ∈ am_lkV_0, am_okV (am_nm q.1) q.2.1 q.2.2.1 q.2.2.2.1 q.2.2.2.2.1 q.2.2.2.2.2 := List.forall_mem_cons.mpr ⟨li_v0, List.forall_mem_cons.mpr ⟨li_v1, List.forall_mem_cons.mpr ⟨li_v2, List.forall_mem_cons.mpr ⟨li_v3, List.forall_mem_cons.mpr ⟨li_v4, List.forall_mem_cons.mpr ⟨li_v5, List.forall_mem_cons.mpr ⟨li_v6, List.forall_mem_cons.mpr ⟨li_v7, List.forall_mem_cons.mpr ⟨li_v8, List.forall_mem_cons.mpr ⟨li_v9, List.forall_mem_cons.mpr ⟨li_v10, List.forall_mem_cons.mpr ⟨li_v11, List.forall_mem_cons.mpr ⟨li_v12, List.forall_mem_cons.mpr ⟨li_v13, List.forall_mem_cons.mpr ⟨li_v14, List.forall_mem_cons.mpr ⟨li_v15, fun _ h => absurd h List.not_mem_nil⟩⟩⟩⟩⟩⟩⟩⟩⟩⟩⟩⟩⟩⟩⟩⟩
def am_lkV_1 : List (Nat × Nat × Nat × Nat × Nat × Int32) := [(2, 98, 10, 2, 1, 0), (2, 101, 8, 1, 1, 0), (2, 108, 4, 1, 1, 0), (2, 111, 27, 2, 0, 2), (3, 7, 216, 3, 3, 0), (3, 13, 225, 3, 3, 0), (4, 14, 36, 3, 4, 4), (6, 61, 49, 2, 0, 6), (6, 65, 39, 2, 0, 6), (6, 69, 6, 2, 1, 0), (6, 73, 41, 1, 0, 6), (6, 77, 42, 2, 0, 6), (6, 84, 45, 3, 0, 6), (6, 88, 47, 2, 0, 6), (6, 91, 44, 1, 0, 6), (6, 97, 46, 2, 0, 6)]
theorem am_lkV_ok1 : ∀ q ∈ am_lkV_1, am_okV (am_nm q.1) q.2.1 q.2.2.1 q.2.2.2.1 q.2.2.2.2.1 q.2.2.2.2.2 := List.forall_mem_cons.mpr ⟨li_v16, List.forall_mem_cons.mpr ⟨li_v17, List.forall_mem_cons.mpr ⟨li_v18, List.forall_mem_cons.mpr ⟨li_v19, List.forall_mem_cons.mpr ⟨li_v20, List.forall_mem_cons.mpr ⟨li_v21, List.forall_mem_cons.mpr ⟨li_v22, List.forall_mem_cons.mpr ⟨li_v23, List.forall_mem_cons.mpr ⟨li_v24, List.forall_mem_cons.mpr ⟨li_v25, List.forall_mem_cons.mpr ⟨li_v26, List.forall_mem_cons.mpr ⟨li_v27, List.forall_mem_cons.mpr ⟨li_v28, List.forall_mem_cons.mpr ⟨li_v29, List.forall_mem_cons.mpr ⟨li_v30, List.forall_mem_cons.mpr ⟨li_v31, fun _ h => absurd h List.not_mem_nil⟩⟩⟩⟩⟩⟩⟩⟩⟩⟩⟩⟩⟩⟩⟩⟩
def am_lkV_2 : List (Nat × Nat × Nat × Nat × Nat × Int32) := [(6, 101, 71, 1, 1, 10), (6, 105, 48, 1, 0, 6), (6, 109, 73, 1, 1, 10), (6, 113, 72, 2, 1, 10), (7, 41, 52, 0, 0, 7), (7, 45, 54, 1, 0, 7), (7, 49, 53, 0, 0, 7), (7, 52, 58, 1, 0, 7), (7, 58, 57, 1, 0, 7), (7, 64, 55, 1, 0, 7), (7, 71, 56, 1, 0, 7), (7, 80, 213, 0, 2, 0), (7, 86, 214, 1, 2, 0), (9, 37, 39, 2, 1, 6), (9, 43, 44, 1, 1, 6), (9, 51, 65, 2, 0, 9)]
theorem am_lkV_ok2 : ∀ q ∈ am_lkV_2, am_okV (am_nm q.1) q.2.1 q.2.2.1 q.2.2.2.1 q.2.2.2.2.1 q.2.2.2.2.2 := List.forall_mem_cons.mpr ⟨li_v32, List.forall_mem_cons.mpr ⟨li_v33, List.forall_mem_cons.mpr ⟨li_v34, List.forall_mem_cons.mpr ⟨li_v35, List.forall_mem_cons.mpr ⟨li_v36, List.forall_mem_cons.mpr ⟨li_v37, List.forall_mem_cons.mpr ⟨li_v38, List.forall_mem_cons.mpr ⟨li_v39, List.forall_mem_cons.mpr ⟨li_v40, List.forall_mem_cons.mpr ⟨li_v41, List.forall_mem_cons.mpr ⟨li_v42, List.forall_mem_cons.mpr ⟨li_v43, List.forall_mem_cons.mpr ⟨li_v44, List.forall_mem_cons.mpr ⟨li_v45, List.forall_mem_cons.mpr ⟨li_v46, List.forall_mem_cons.mpr ⟨li_v47, fun _ h => absurd h List.not_mem_nil⟩⟩⟩⟩⟩⟩⟩⟩⟩⟩⟩⟩⟩⟩⟩⟩
def am_lkV_3 : List (Nat × Nat × Nat × Nat × Nat × Int32) := [(9, 59, 67, 1, 0, 9), (9, 63, 66, 3, 0, 9), (9, 67, 64, 1, 0, 9), (9, 71, 2, 2, 1, 0), (9, 78, 6, 2, 1, 0), (9, 82, 43, 1, 1, 6), (11, 82, 114, 1, 0, 11), (11, 86, 2, 2, 1, 0), (11, 100, 5, 2, 1, 0), (11, 104, 6, 2, 1, 0), (11, 132, 4, 1, 1, 0), (11, 135, 40, 3, 1, 6), (11, 139, 38, 1, 1, 6), (11, 156, 11, 1, 1, 0), (11, 159, 13, 1, 1, 0), (11, 162, 7, 2, 1, 0)]
theorem am_lkV_ok3 : ∀ q ∈ am_lkV_3, am_okV (am_nm q.1) q.2.1 q.2.2.1 q.2.2.2.1 q.2.2.2.2.1 q.2.2.2.2.2 := List.forall_mem_cons.mpr ⟨li_v48, List.forall_mem_cons.mpr ⟨li_v49, List.forall_mem_cons.mpr ⟨li_v50, List.forall_mem_cons.mpr ⟨li_v51, List.forall_mem_cons.mpr ⟨li_v52, List.forall_mem_cons.mpr ⟨li_v53, List.forall_mem_cons.mpr ⟨li_v54, List.forall_mem_cons.mpr ⟨li_v55, List.forall_mem_cons.mpr ⟨li_v56, List.forall_mem_cons.mpr ⟨li_v57, List.forall_mem_cons.mpr ⟨li_v58, List.forall_mem_cons.mpr ⟨li_v59, List.forall_mem_cons.mpr ⟨li_v60, List.forall_mem_cons.mpr ⟨li_v61, List.forall_mem_cons.mpr ⟨li_v62, List.forall_mem_cons.mpr ⟨li_v63, fun _ h => absurd h List.not_mem_nil⟩⟩⟩⟩⟩⟩⟩⟩⟩⟩⟩⟩⟩⟩⟩⟩
def am_lkV_4 : List (Nat × Nat × Nat × Nat × Nat × Int32) := [(11, 168, 3, 2, 1, 0), (11, 171, 20, 3, 1, 2), (11, 178, 23, 3, 1, 2), (11, 186, 26, 1, 1, 2), (11, 190, 14, 1, 1, 0), (11, 193, 16, 2, 1, 0), (11, 196, 25, 3, 1, 2), (11, 199, 24, 3, 1, 2), (11, 202, 216, 3, 3, 0), (11, 205, 225, 3, 3, 0), (11, 208, 234, 3, 3, 0), (11, 214, 12, 1, 1, 0), (11, 226, 116, 2, 0, 11), (11, 229, 117, 1, 0, 11), (11, 232, 115, 2, 0, 11), (11, 240, 118, 3, 0, 11)]
theorem am_lkV_ok4 : ∀ q ∈ am_lkV_4, am_okV (am_nm q.1) q.2.1 q.2.2.1 q.2.2.2.1 q.2.2.2.2.1 q.2.2.2.2.2 := List.forall_mem_cons.mpr ⟨li_v64, List.forall_mem_cons.mpr ⟨li_v65, List.forall_mem_cons.mpr ⟨li_v66, List.forall_mem_cons.mpr ⟨li_v67, List.forall_mem_cons.mpr ⟨li_v68, List.forall_mem_cons.mpr ⟨li_v69, List.forall_mem_cons.mpr ⟨li_v70, List.forall_mem_cons.mpr ⟨li_v71, List.forall_mem_cons.mpr ⟨li_v72, List.forall_mem_cons.mpr ⟨li_v73, List.forall_mem_cons.mpr ⟨li_v74, List.forall_mem_cons.mpr ⟨li_v75, List.forall_mem_cons.mpr ⟨li_v76, List.forall_mem_cons.mpr ⟨li_v77, List.forall_mem_cons.mpr ⟨li_v78, List.forall_mem_cons.mpr ⟨li_v79, fun _ h => absurd h List.not_mem_nil⟩⟩⟩⟩⟩⟩⟩⟩⟩⟩⟩⟩⟩⟩⟩⟩
def am_lkV_5 : List (Nat × Nat × Nat × Nat × Nat × Int32) := [(11, 259, 63, 2, 1, 9), (11, 273, 1, 1, 1, 0), (11, 276, 51, 3, 1, 7), (12, 48, 125, 0, 0, 12), (12, 56, 126, 1, 0, 12), (12, 60, 128, 0, 0, 12), (12, 63, 129, 1, 0, 12), (12, 66, 130, 1, 0, 12), (12, 69, 132, 2, 0, 12), (12, 73, 131, 1, 0, 12), (12, 76, 133, 1, 0, 12), (12, 79, 134, 0, 0, 12), (12, 82, 136, 1, 0, 12), (12, 86, 138, 2, 0, 12), (12, 92, 139, 2, 0, 12), (12, 98, 142, 1, 0, 12)]
theorem am_lkV_ok5 : ∀ q ∈ am_lkV_5, am_okV (am_nm q.1) q.2.1 q.2.2.1 q.2.2.2.1 q.2.2.2.2.1 q.2.2.2.2.2 := List.forall_mem_cons.mpr ⟨li_v80, List.forall_mem_cons.mpr ⟨li_v81, List.forall_mem_cons.mpr ⟨li_v82, List.forall_mem_cons.mpr ⟨li_v83, List.forall_mem_cons.mpr ⟨li_v84, List.forall_mem_cons.mpr ⟨li_v85, List.forall_mem_cons.mpr ⟨li_v86, List.forall_mem_cons.mpr ⟨li_v87, List.forall_mem_cons.mpr ⟨li_v88, List.forall_mem_cons.mpr ⟨li_v89, List.forall_mem_cons.mpr ⟨li_v90, List.forall_mem_cons.mpr ⟨li_v91, List.forall_mem_cons.mpr ⟨li_v92, List.forall_mem_cons.mpr ⟨li_v93, List.forall_mem_cons.mpr ⟨li_v94, List.forall_mem_cons.mpr ⟨li_v95, fun _ h => absurd h List.not_mem_nil⟩⟩⟩⟩⟩⟩⟩⟩⟩⟩⟩⟩⟩⟩⟩⟩
def am_lkV_6 : List (Nat × Nat × Nat × Nat × Nat × Int32) := [(12, 101, 146, 1, 0, 12), (12, 104, 147, 1, 0, 12), (12, 108, 151, 0, 0, 12), (12, 111, 145, 1, 0, 12), (12, 114, 149, 1, 0, 12), (12, 117, 150, 2, 0, 12), (12, 121, 148, 1, 0, 12), (12, 124, 152, 1, 0, 12), (12, 127, 153, 1, 0, 12), (12, 130, 172, 1, 0, 12), (12, 136, 157, 1, 0, 12), (12, 139, 160, 1, 0, 12), (12, 142, 163, 4, 0, 12), (12, 146, 162, 3, 0, 12), (12, 150, 165, 3, 0, 12), (12, 153, 167, 2, 0, 12)]
theorem am_lkV_ok6 : ∀ q ∈ am_lkV_6, am_okV (am_nm q.1) q.2.1 q.2.2.1 q.2.2.2.1 q.2.2.2.2.1 q.2.2.2.2.2 := List.forall_mem_cons.mpr ⟨li_v96, List.forall_mem_cons.mpr ⟨li_v97, List.forall_mem_cons.mpr ⟨li_v98, List.forall_mem_cons.mpr ⟨li_v99, List.forall_mem_cons.mpr ⟨li_v100, List.forall_mem_cons.mpr ⟨li_v101, List.forall_mem_cons.mpr ⟨li_v102, List.forall_mem_cons.mpr ⟨li_v103, List.forall_mem_cons.mpr ⟨li_v104, List.forall_mem_cons.mpr ⟨li_v105, List.forall_mem_cons.mpr ⟨li_v106, List.forall_mem_cons.mpr ⟨li_v107, List.forall_mem_cons.mpr ⟨li_v108, List.forall_mem_cons.mpr ⟨li_v109, List.forall_mem_cons.mpr ⟨li_v110, List.forall_mem_cons.mpr ⟨li_v111, fun _ h => absurd h List.not_mem_nil⟩⟩⟩⟩⟩⟩⟩⟩⟩⟩⟩⟩⟩⟩⟩⟩
def am_lkV_7 : List (Nat × Nat × Nat × Nat × Nat × Int32) := [(12, 156, 164, 4, 0, 12), (12, 160, 166, 2, 0, 12), (12, 163, 168, 2, 0, 12), (12, 166, 173, 1, 0, 12), (12, 169, 178, 3, 0, 12), (12, 175, 179, 3, 0, 12), (12, 178, 180, 3, 0, 12), (12, 181, 154, 2, 0, 12), (12, 184, 183, 1, 0, 12), (12, 187, 185, 2, 0, 12), (12, 193, 192, 3, 0, 12), (12, 196, 196, 0, 0, 12), (12, 199, 197, 0, 0, 12), (12, 205, 195, 0, 0, 12), (12, 217, 199, 1, 0, 12), (12, 220, 201, 1, 0, 12)]
theorem am_lkV_ok7 : ∀ q ∈ am_lkV_7, am_okV (am_nm q.1) q.2.1 q.2.2.1 q.2.2.2.1 q.2.2.2.2.1 q.2.2.2.2.2 := List.forall_mem_cons.mpr ⟨li_v112, List.forall_mem_cons.mpr ⟨li_v113, List.forall_mem_cons.mpr ⟨li_v114, List.forall_mem_cons.mpr ⟨li_v115, List.forall_mem_cons.mpr ⟨li_v116, List.forall_mem_cons.mpr ⟨li_v117, List.forall_mem_cons.mpr ⟨li_v118, List.forall_mem_cons.mpr ⟨li_v119, List.forall_mem_cons.mpr ⟨li_v120, List.forall_mem_cons.mpr ⟨li_v121, List.forall_mem_cons.mpr ⟨li_v122, List.forall_mem_cons.mpr ⟨li_v123, List.forall_mem_cons.mpr ⟨li_v124, List.forall_mem_cons.mpr ⟨li_v125, List.forall_mem_cons.mpr ⟨li_v126, List.forall_mem_cons.mpr ⟨li_v127, fun _ h => absurd h List.not_mem_nil⟩⟩⟩⟩⟩⟩⟩⟩⟩⟩⟩⟩⟩⟩⟩⟩
def am_lkV_8 : List (Nat × Nat × Nat × Nat × Nat × Int32) := [(12, 223, 203, 1, 0, 12), (12, 226, 204, 1, 0, 12), (12, 229, 200, 1, 0, 12), (12, 232, 202, 1, 0, 12)]
theorem am_lkV_ok8 : ∀ q ∈ am_lkV_8, am_okV (am_nm q.1) q.2.1 q.2.2.1 q.2.2.2.1 q.2.2.2.2.1 q.2.2.2.2.2 := List.forall_mem_cons.mpr ⟨li_v128, List.forall_mem_cons.mpr ⟨li_v129, List.forall_mem_cons.mpr ⟨li_v130, List.forall_mem_cons.mpr ⟨li_v131, fun _ h => absurd h List.not_mem_nil⟩⟩⟩⟩
def am_lkV : List (Nat × Nat × Nat × Nat × Nat × Int32) := am_lkV_0 ++ (am_lkV_1 ++ (am_lkV_2 ++ (am_lkV_3 ++ (am_lkV_4 ++ (am_lkV_5 ++ (am_lkV_6 ++ (am_lkV_7 ++ (am_lkV_8))))))))
theorem am_lkV_ok : ∀ q ∈ am_lkV, am_okV (am_nm q.1) q.2.1 q.2.2.1 q.2.2.2.1 q.2.2.2.2.1 q.2.2.2.2.2 := List.forall_mem_append.mpr ⟨am_lkV_ok0, List.forall_mem_append.mpr ⟨am_lkV_ok1, List.forall_mem_append.mpr ⟨am_lkV_ok2, List.forall_mem_append.mpr ⟨am_lkV_ok3, List.forall_mem_append.mpr ⟨am_lkV_ok4, List.forall_mem_append.mpr ⟨am_lkV_ok5, List.forall_mem_append.mpr ⟨am_lkV_ok6, List.forall_mem_append.mpr ⟨am_lkV_ok7, am_lkV_ok8⟩⟩⟩⟩⟩⟩⟩⟩
theorem li_s0 : am_okS (am_nm 0) 74 0 0 2 := ⟨by decide, (am_m 848 (by decide +kernel) rfl)⟩
theorem li_s1 : am_okS (am_nm 0) 74 1 0 2 := ⟨by decide, (am_m 848 (by decide +kernel) rfl)⟩
theorem li_s2 : am_okS (am_nm 0) 74 2 0 2 := ⟨by decide, (am_m 848 (by decide +kernel) rfl)⟩
theorem li_s3 : am_okS (am_nm 2) 25 69 0 1 := ⟨ml_X10_newValues, "DeedProofs", (am_m 162 (by decide +kernel) rfl), (am_m 163 (by decide +kernel) rfl)⟩
theorem li_s4 : am_okS (am_nm 2) 75 70 2 1 := ⟨ml_X10_putLetters, "DeedProofs", (am_m 599 (by decide +kernel) rfl), (am_m 600 (by decide +kernel) rfl)⟩
theorem li_s5 : am_okS (am_nm 6) 36 69 0 1 := ⟨ml_X10_newValues, "DeedProofs", (am_m 196 (by decide +kernel) rfl), (am_m 163 (by decide +kernel) rfl)⟩
theorem li_s6 : am_okS (am_nm 6) 47 215 2 0 := ⟨ml_J7_fill_53178, (am_m 197 (by decide +kernel) rfl), (am_m 198 (by decide +kernel) rfl)⟩
theorem li_s7 : am_okS (am_nm 6) 117 211 2 0 := ⟨ml_J9_max_7cf53, (am_m 535 (by decide +kernel) rfl), (am_m 536 (by decide +kernel) rfl)⟩
theorem li_s8 : am_okS (am_nm 6) 124 212 2 0 := ⟨ml_J9_min_7cf53, (am_m 539 (by decide +kernel) rfl), (am_m 540 (by decide +kernel) rfl)⟩
theorem li_s9 : am_okS (am_nm 10) 28 0 0 2 := ⟨by decide, (am_m 853 (by decide +kernel) rfl)⟩
theorem li_s10 : am_okS (am_nm 11) 96 110 1 0 := ⟨ml_X11_isDay, (am_m 447 (by decide +kernel) rfl), (am_m 448 (by decide +kernel) rfl)⟩
theorem li_s11 : am_okS (am_nm 11) 117 112 1 0 := ⟨ml_X11_isPerson, (am_m 463 (by decide +kernel) rfl), (am_m 464 (by decide +kernel) rfl)⟩
theorem li_s12 : am_okS (am_nm 11) 120 111 1 0 := ⟨ml_X11_isFact, (am_m 466 (by decide +kernel) rfl), (am_m 467 (by decide +kernel) rfl)⟩
theorem li_s13 : am_okS (am_nm 11) 147 113 1 0 := ⟨ml_X11_isKind, (am_m 554 (by decide +kernel) rfl), (am_m 555 (by decide +kernel) rfl)⟩
theorem li_s14 : am_okS (am_nm 11) 235 210 1 0 := ⟨ml_J6_bitCount_0f7a4, (am_m 776 (by decide +kernel) rfl), (am_m 777 (by decide +kernel) rfl)⟩
theorem li_s15 : am_okS (am_nm 11) 243 62 2 1 := ⟨ml_X9_faultOf, "DeedProofs", (am_m 794 (by decide +kernel) rfl), (am_m 795 (by decide +kernel) rfl)⟩
theorem li_s16 : am_okS (am_nm 11) 250 1 0 2 := ⟨by decide, (am_m 797 (by decide +kernel) rfl)⟩
theorem li_s17 : am_okS (am_nm 12) 34 120 3 0 := ⟨ml_X12_in, (am_m 918 (by decide +kernel) rfl), (am_m 919 (by decide +kernel) rfl)⟩
theorem li_s18 : am_okS (am_nm 12) 52 127 1 0 := ⟨ml_X12_shapeOf, (am_m 942 (by decide +kernel) rfl), (am_m 943 (by decide +kernel) rfl)⟩
theorem li_s19 : am_okS (am_nm 12) 89 121 1 0 := ⟨ml_X12_isDay, (am_m 981 (by decide +kernel) rfl), (am_m 982 (by decide +kernel) rfl)⟩
theorem li_s20 : am_okS (am_nm 12) 95 122 1 0 := ⟨ml_X12_isFact, (am_m 996 (by decide +kernel) rfl), (am_m 997 (by decide +kernel) rfl)⟩
theorem li_s21 : am_okS (am_nm 12) 133 158 2 0 := ⟨ml_X12_stepAt, (am_m 1076 (by decide +kernel) rfl), (am_m 1077 (by decide +kernel) rfl)⟩
theorem li_s22 : am_okS (am_nm 12) 172 177 1 0 := ⟨ml_X12_aboveOf, (am_m 1143 (by decide +kernel) rfl), (am_m 1144 (by decide +kernel) rfl)⟩
theorem li_s23 : am_okS (am_nm 12) 190 191 1 0 := ⟨ml_X12_many0, (am_m 1198 (by decide +kernel) rfl), (am_m 1199 (by decide +kernel) rfl)⟩
def am_lkS_0 : List (Nat × Nat × Nat × Nat × Nat) := [(0, 74, 0, 0, 2), (0, 74, 1, 0, 2), (0, 74, 2, 0, 2), (2, 25, 69, 0, 1), (2, 75, 70, 2, 1), (6, 36, 69, 0, 1), (6, 47, 215, 2, 0), (6, 117, 211, 2, 0), (6, 124, 212, 2, 0), (10, 28, 0, 0, 2), (11, 96, 110, 1, 0), (11, 117, 112, 1, 0), (11, 120, 111, 1, 0), (11, 147, 113, 1, 0), (11, 235, 210, 1, 0), (11, 243, 62, 2, 1)]
theorem am_lkS_ok0 : ∀ q ∈ am_lkS_0, am_okS (am_nm q.1) q.2.1 q.2.2.1 q.2.2.2.1 q.2.2.2.2 := List.forall_mem_cons.mpr ⟨li_s0, List.forall_mem_cons.mpr ⟨li_s1, List.forall_mem_cons.mpr ⟨li_s2, List.forall_mem_cons.mpr ⟨li_s3, List.forall_mem_cons.mpr ⟨li_s4, List.forall_mem_cons.mpr ⟨li_s5, List.forall_mem_cons.mpr ⟨li_s6, List.forall_mem_cons.mpr ⟨li_s7, List.forall_mem_cons.mpr ⟨li_s8, List.forall_mem_cons.mpr ⟨li_s9, List.forall_mem_cons.mpr ⟨li_s10, List.forall_mem_cons.mpr ⟨li_s11, List.forall_mem_cons.mpr ⟨li_s12, List.forall_mem_cons.mpr ⟨li_s13, List.forall_mem_cons.mpr ⟨li_s14, List.forall_mem_cons.mpr ⟨li_s15, fun _ h => absurd h List.not_mem_nil⟩⟩⟩⟩⟩⟩⟩⟩⟩⟩⟩⟩⟩⟩⟩⟩
def am_lkS_1 : List (Nat × Nat × Nat × Nat × Nat) := [(11, 250, 1, 0, 2), (12, 34, 120, 3, 0), (12, 52, 127, 1, 0), (12, 89, 121, 1, 0), (12, 95, 122, 1, 0), (12, 133, 158, 2, 0), (12, 172, 177, 1, 0), (12, 190, 191, 1, 0)]
theorem am_lkS_ok1 : ∀ q ∈ am_lkS_1, am_okS (am_nm q.1) q.2.1 q.2.2.1 q.2.2.2.1 q.2.2.2.2 := List.forall_mem_cons.mpr ⟨li_s16, List.forall_mem_cons.mpr ⟨li_s17, List.forall_mem_cons.mpr ⟨li_s18, List.forall_mem_cons.mpr ⟨li_s19, List.forall_mem_cons.mpr ⟨li_s20, List.forall_mem_cons.mpr ⟨li_s21, List.forall_mem_cons.mpr ⟨li_s22, List.forall_mem_cons.mpr ⟨li_s23, fun _ h => absurd h List.not_mem_nil⟩⟩⟩⟩⟩⟩⟩⟩
def am_lkS : List (Nat × Nat × Nat × Nat × Nat) := am_lkS_0 ++ (am_lkS_1)
theorem am_lkS_ok : ∀ q ∈ am_lkS, am_okS (am_nm q.1) q.2.1 q.2.2.1 q.2.2.2.1 q.2.2.2.2 := List.forall_mem_append.mpr ⟨am_lkS_ok0, am_lkS_ok1⟩
theorem li_i0 : am_okN (am_nm 0) 3 0 0 2 := ⟨rfl, (am_m 35 (by decide +kernel) rfl)⟩
theorem li_i1 : am_okN (am_nm 0) 73 68 0 1 := ⟨ml_X10_init, rfl, rfl, "DeedProofs", (am_m 39 (by decide +kernel) rfl), (am_m 40 (by decide +kernel) rfl)⟩
theorem li_i2 : am_okN (am_nm 1) 1 28 0 1 := ⟨ml_X3_init, rfl, rfl, "DeedProofs", (am_m 305 (by decide +kernel) rfl), (am_m 282 (by decide +kernel) rfl)⟩
theorem li_i3 : am_okN (am_nm 1) 7 31 3 3 := ⟨fun _ _ _ => trivial, ⟨"DeedProofs$Line", "actEnds", "(III)I"⟩, ml_X3_actEnds, by decide +kernel, rfl, rfl, (am_m 711 (by decide +kernel) rfl), (am_m 707 (by decide +kernel) rfl), (am_m 306 (by decide +kernel) rfl), Or.inl rfl, (am_m 705 (by decide +kernel) rfl)⟩
theorem li_i4 : am_okN (am_nm 2) 3 0 0 2 := ⟨rfl, (am_m 161 (by decide +kernel) rfl)⟩
theorem li_i5 : am_okN (am_nm 3) 1 0 0 2 := ⟨rfl, (am_m 284 (by decide +kernel) rfl)⟩
theorem li_i6 : am_okN (am_nm 4) 1 35 0 1 := ⟨ml_X5_init, rfl, rfl, "DeedProofs", (am_m 312 (by decide +kernel) rfl), (am_m 289 (by decide +kernel) rfl)⟩
theorem li_i7 : am_okN (am_nm 4) 7 30 3 3 := ⟨fun _ _ _ => trivial, ⟨"DeedProofs$Piece", "actShows", "(III)I"⟩, ml_X3_actShows, by decide +kernel, rfl, rfl, (am_m 694 (by decide +kernel) rfl), (am_m 695 (by decide +kernel) rfl), (am_m 313 (by decide +kernel) rfl), Or.inr (am_m 292 (by decide +kernel) rfl), (am_m 687 (by decide +kernel) rfl)⟩
theorem li_i8 : am_okN (am_nm 4) 11 31 3 3 := ⟨fun _ _ _ => trivial, ⟨"DeedProofs$Piece", "actEnds", "(III)I"⟩, ml_X3_actEnds, by decide +kernel, rfl, rfl, (am_m 715 (by decide +kernel) rfl), (am_m 716 (by decide +kernel) rfl), (am_m 313 (by decide +kernel) rfl), Or.inr (am_m 292 (by decide +kernel) rfl), (am_m 705 (by decide +kernel) rfl)⟩
theorem li_i9 : am_okN (am_nm 5) 1 28 0 1 := ⟨ml_X3_init, rfl, rfl, "DeedProofs", (am_m 291 (by decide +kernel) rfl), (am_m 282 (by decide +kernel) rfl)⟩
theorem li_i10 : am_okN (am_nm 5) 7 29 3 3 := ⟨fun _ _ _ => trivial, ⟨"DeedProofs$Line", "actLeans", "(III)I"⟩, ml_X3_actLeans, by decide +kernel, rfl, rfl, (am_m 682 (by decide +kernel) rfl), (am_m 677 (by decide +kernel) rfl), (am_m 292 (by decide +kernel) rfl), Or.inl rfl, (am_m 675 (by decide +kernel) rfl)⟩
theorem li_i11 : am_okN (am_nm 6) 3 0 0 2 := ⟨rfl, (am_m 194 (by decide +kernel) rfl)⟩
theorem li_i12 : am_okN (am_nm 7) 3 0 0 2 := ⟨rfl, (am_m 259 (by decide +kernel) rfl)⟩
theorem li_i13 : am_okN (am_nm 7) 24 68 0 1 := ⟨ml_X10_init, rfl, rfl, "DeedProofs", (am_m 261 (by decide +kernel) rfl), (am_m 40 (by decide +kernel) rfl)⟩
theorem li_i14 : am_okN (am_nm 8) 1 28 0 1 := ⟨ml_X3_init, rfl, rfl, "DeedProofs", (am_m 298 (by decide +kernel) rfl), (am_m 282 (by decide +kernel) rfl)⟩
theorem li_i15 : am_okN (am_nm 8) 7 30 3 3 := ⟨fun _ _ _ => trivial, ⟨"DeedProofs$Line", "actShows", "(III)I"⟩, ml_X3_actShows, by decide +kernel, rfl, rfl, (am_m 701 (by decide +kernel) rfl), (am_m 689 (by decide +kernel) rfl), (am_m 299 (by decide +kernel) rfl), Or.inl rfl, (am_m 687 (by decide +kernel) rfl)⟩
theorem li_i16 : am_okN (am_nm 9) 3 0 0 2 := ⟨rfl, (am_m 233 (by decide +kernel) rfl)⟩
theorem li_i17 : am_okN (am_nm 10) 3 0 0 2 := ⟨rfl, (am_m 42 (by decide +kernel) rfl)⟩
theorem li_i18 : am_okN (am_nm 11) 1 0 0 2 := ⟨rfl, (am_m 27 (by decide +kernel) rfl)⟩
theorem li_i19 : am_okN (am_nm 11) 9 0 0 1 := ⟨ml_X0_init, rfl, rfl, "DeedProofs", (am_m 32 (by decide +kernel) rfl), (am_m 33 (by decide +kernel) rfl)⟩
theorem li_i20 : am_okN (am_nm 11) 18 19 1 1 := ⟨ml_X2_init, rfl, rfl, "DeedProofs", (am_m 158 (by decide +kernel) rfl), (am_m 159 (by decide +kernel) rfl)⟩
theorem li_i21 : am_okN (am_nm 11) 27 37 1 1 := ⟨ml_X6_init, rfl, rfl, "DeedProofs", (am_m 191 (by decide +kernel) rfl), (am_m 192 (by decide +kernel) rfl)⟩
theorem li_i22 : am_okN (am_nm 11) 34 61 2 1 := ⟨ml_X9_init, rfl, rfl, "DeedProofs", (am_m 230 (by decide +kernel) rfl), (am_m 231 (by decide +kernel) rfl)⟩
theorem li_i23 : am_okN (am_nm 11) 43 50 0 1 := ⟨ml_X7_init, rfl, rfl, "DeedProofs", (am_m 256 (by decide +kernel) rfl), (am_m 257 (by decide +kernel) rfl)⟩
theorem li_i24 : am_okN (am_nm 11) 50 28 0 1 := ⟨ml_X3_init, rfl, rfl, "DeedProofs", (am_m 281 (by decide +kernel) rfl), (am_m 282 (by decide +kernel) rfl)⟩
theorem li_i25 : am_okN (am_nm 11) 53 35 0 1 := ⟨ml_X5_init, rfl, rfl, "DeedProofs", (am_m 288 (by decide +kernel) rfl), (am_m 289 (by decide +kernel) rfl)⟩
theorem li_i26 : am_okN (am_nm 11) 56 59 0 1 := ⟨ml_X8_init, rfl, rfl, "DeedProofs", (am_m 295 (by decide +kernel) rfl), (am_m 296 (by decide +kernel) rfl)⟩
theorem li_i27 : am_okN (am_nm 11) 59 17 0 1 := ⟨ml_X1_init, rfl, rfl, "DeedProofs", (am_m 302 (by decide +kernel) rfl), (am_m 303 (by decide +kernel) rfl)⟩
theorem li_i28 : am_okN (am_nm 11) 62 32 0 1 := ⟨ml_X4_init, rfl, rfl, "DeedProofs", (am_m 309 (by decide +kernel) rfl), (am_m 310 (by decide +kernel) rfl)⟩
theorem li_i29 : am_okN (am_nm 12) 1 0 0 2 := ⟨rfl, (am_m 867 (by decide +kernel) rfl)⟩
def am_lkI_0 : List (Nat × Nat × Nat × Nat × Nat) := [(0, 3, 0, 0, 2), (0, 73, 68, 0, 1), (1, 1, 28, 0, 1), (1, 7, 31, 3, 3), (2, 3, 0, 0, 2), (3, 1, 0, 0, 2), (4, 1, 35, 0, 1), (4, 7, 30, 3, 3), (4, 11, 31, 3, 3), (5, 1, 28, 0, 1), (5, 7, 29, 3, 3), (6, 3, 0, 0, 2), (7, 3, 0, 0, 2), (7, 24, 68, 0, 1), (8, 1, 28, 0, 1), (8, 7, 30, 3, 3)]
theorem am_lkI_ok0 : ∀ q ∈ am_lkI_0, am_okN (am_nm q.1) q.2.1 q.2.2.1 q.2.2.2.1 q.2.2.2.2 := List.forall_mem_cons.mpr ⟨li_i0, List.forall_mem_cons.mpr ⟨li_i1, List.forall_mem_cons.mpr ⟨li_i2, List.forall_mem_cons.mpr ⟨li_i3, List.forall_mem_cons.mpr ⟨li_i4, List.forall_mem_cons.mpr ⟨li_i5, List.forall_mem_cons.mpr ⟨li_i6, List.forall_mem_cons.mpr ⟨li_i7, List.forall_mem_cons.mpr ⟨li_i8, List.forall_mem_cons.mpr ⟨li_i9, List.forall_mem_cons.mpr ⟨li_i10, List.forall_mem_cons.mpr ⟨li_i11, List.forall_mem_cons.mpr ⟨li_i12, List.forall_mem_cons.mpr ⟨li_i13, List.forall_mem_cons.mpr ⟨li_i14, List.forall_mem_cons.mpr ⟨li_i15, fun _ h => absurd h List.not_mem_nil⟩⟩⟩⟩⟩⟩⟩⟩⟩⟩⟩⟩⟩⟩⟩⟩
def am_lkI_1 : List (Nat × Nat × Nat × Nat × Nat) := [(9, 3, 0, 0, 2), (10, 3, 0, 0, 2), (11, 1, 0, 0, 2), (11, 9, 0, 0, 1), (11, 18, 19, 1, 1), (11, 27, 37, 1, 1), (11, 34, 61, 2, 1), (11, 43, 50, 0, 1), (11, 50, 28, 0, 1), (11, 53, 35, 0, 1), (11, 56, 59, 0, 1), (11, 59, 17, 0, 1), (11, 62, 32, 0, 1), (12, 1, 0, 0, 2)]
theorem am_lkI_ok1 : ∀ q ∈ am_lkI_1, am_okN (am_nm q.1) q.2.1 q.2.2.1 q.2.2.2.1 q.2.2.2.2 := List.forall_mem_cons.mpr ⟨li_i16, List.forall_mem_cons.mpr ⟨li_i17, List.forall_mem_cons.mpr ⟨li_i18, List.forall_mem_cons.mpr ⟨li_i19, List.forall_mem_cons.mpr ⟨li_i20, List.forall_mem_cons.mpr ⟨li_i21, List.forall_mem_cons.mpr ⟨li_i22, List.forall_mem_cons.mpr ⟨li_i23, List.forall_mem_cons.mpr ⟨li_i24, List.forall_mem_cons.mpr ⟨li_i25, List.forall_mem_cons.mpr ⟨li_i26, List.forall_mem_cons.mpr ⟨li_i27, List.forall_mem_cons.mpr ⟨li_i28, List.forall_mem_cons.mpr ⟨li_i29, fun _ h => absurd h List.not_mem_nil⟩⟩⟩⟩⟩⟩⟩⟩⟩⟩⟩⟩⟩⟩
def am_lkI : List (Nat × Nat × Nat × Nat × Nat) := am_lkI_0 ++ (am_lkI_1)
theorem am_lkI_ok : ∀ q ∈ am_lkI, am_okN (am_nm q.1) q.2.1 q.2.2.1 q.2.2.2.1 q.2.2.2.2 := List.forall_mem_append.mpr ⟨am_lkI_ok0, am_lkI_ok1⟩
end
section
/-! the check -/
def am_okB (own : Nat) (init : Bool) (mL : Nat) (ret : Option FieldType) (pc len a b c : Nat) (k : Int32) (i : Instr) : Bool :=
  match i with
  | .iconst n => decide (len = 1 ∧ Int32.ofInt n = k)
  | .bipush n => decide (len = 2 ∧ (Int8.ofInt n).toInt32 = k)
  | .sipush n => decide (len = 3 ∧ (Int16.ofInt n).toInt32 = k)
  | .ldc ix => match c with
    | 0 => decide (len = 2 ∧ (own, ix, k) ∈ am_lkK)
    | _ => decide (len = 2 ∧ own = 7 ∧ (a = 0 ∧ ix = 56 ∨ a = 1 ∧ ix = 62 ∨ a = 2 ∧ ix = 75))
  | .ldc_w ix => decide (len = 3 ∧ (own, ix, k) ∈ am_lkK)
  | .ldc2_w ix => decide (len = 3 ∧ own = 12 ∧ ix = 38 ∧ k = 255)
  | .iload j => decide (len = 2 ∧ j = a)
  | .iload_n j => decide (len = 1 ∧ (j : Nat) = a)
  | .lload_n j => decide (len = 1 ∧ (j : Nat) = a)
  | .aload j => decide (len = 2 ∧ j = a)
  | .aload_n j => decide (len = 1 ∧ (j : Nat) = a)
  | .istore j => decide (len = 2 ∧ j = a ∧ a < mL)
  | .istore_n j => decide (len = 1 ∧ (j : Nat) = a ∧ a < mL)
  | .astore j => decide (len = 2 ∧ j = a ∧ a < mL)
  | .astore_n j => decide (len = 1 ∧ (j : Nat) = a ∧ a < mL)
  | .iinc j n => decide (len = 3 ∧ j = a ∧ Int32.ofInt n = k ∧ a < mL)
  | .goto off => decide (len = 3 ∧ (pc : Int) + off = (a : Int))
  | .ifCond _ off => decide (len = 3 ∧ (pc : Int) + off = (a : Int))
  | .if_icmp _ off => decide (len = 3 ∧ (pc : Int) + off = (a : Int))
  | .ifnonnull off => decide (len = 3 ∧ (pc : Int) + off = (a : Int))
  | .lookupswitch _ ps => (ps.toList.zip (ps.toList.drop 1)).all (fun (a, next) => a.1 < next.1)
  | .tableswitch .. => true
  | .getstatic ix => decide (len = 3 ∧ own = 11 ∧ ix = 211)
  | .getfield ix => decide (len = 3 ∧ (own, ix, a, b) ∈ am_lkF)
  | .putfield ix => decide (len = 3 ∧ (own, ix, a, b, init) ∈ am_lkP)
  | .arraylength => match c with
    | 0 => decide (len = 1 ∧ a < 3)
    | _ => decide (len = 1 ∧ (a = 3 ∨ a = 4))
  | .baload => decide (len = 1 ∧ (a = 1 ∨ a = 2))
  | .bastore => decide (len = 1 ∧ (a = 1 ∨ a = 2))
  | .aaload => decide (len = 1 ∧ (a = 3 ∨ a = 4))
  | .new ix => decide (len = 3 ∧ (own, ix, a) ∈ am_lkN)
  | .newarray t => decide (len = 2 ∧ (a = 0 ∧ t = .int ∨ a = 1 ∧ t = .byte ∨ a = 2 ∧ t = .boolean))
  | .anewarray ix => decide (len = 3 ∧ (own, ix, a) ∈ am_lkQ)
  | .areturn => decide (len = 1) && (match ret with
    | some (.object _) => true
    | some (.array _) => true
    | _ => false)
  | .return_ => decide (len = 1 ∧ ret = none)
  | .invokevirtual ix => decide (len = 3 ∧ (own, ix, a, b, c, k) ∈ am_lkV)
  | .invokestatic ix => decide (len = 3 ∧ (own, ix, a, b, c) ∈ am_lkS)
  | .invokespecial ix => decide (len = 3 ∧ (own, ix, a, b, c) ∈ am_lkI)
  | _ => decide (len = 1)
theorem am_k255 : Cond.constantLong (am_nm 12) 38 255 ∈ am_gt := (am_m 925 (by decide +kernel) rfl)
theorem am_above_in : Cond.fieldLink "DeedProofs" 211 "DeedProofs" "ABOVE" "[I" ∈ am_gt := (am_m 730 (by decide +kernel) rfl)
theorem am_okB_ok {mi : am_MI} {own : Nat} {init : Bool} {pc len a b c : Nat} {k : Int32} {i : Instr} (hn : am_nm own = (am_y mi).cls) (hi : init = true → (am_y mi).name = "<init>") (h : am_okB own init (am_mL mi) (am_ret mi) pc len a b c k i = true) : am_okI am_tab mi pc len a b c k i := by
  cases i
  case ldc ix =>
    cases c with
    | zero => obtain ⟨h1, h2⟩ := of_decide_eq_true h; exact ⟨h1, by rw [← hn]; exact am_lkK_ok _ h2⟩
    | succ c => obtain ⟨h1, h2, h3⟩ := of_decide_eq_true h; subst h2; exact ⟨h1, hn.symm, h3⟩
  case ldc_w ix => obtain ⟨h1, h2⟩ := of_decide_eq_true h; exact ⟨h1, by rw [← hn]; exact am_lkK_ok _ h2⟩
  case ldc2_w ix => obtain ⟨h1, h2, h3, h4⟩ := of_decide_eq_true h; subst h2; subst h3; subst h4; exact ⟨h1, by rw [← hn]; exact am_k255⟩
  case lookupswitch => exact h
  case tableswitch => exact trivial
  case getstatic ix => obtain ⟨h1, h2, h3⟩ := of_decide_eq_true h; subst h2; subst h3; exact ⟨h1, hn.symm, am_above_in⟩
  case getfield ix => obtain ⟨h1, h2⟩ := of_decide_eq_true h; exact ⟨h1, by rw [← hn]; exact am_lkF_ok _ h2⟩
  case putfield ix => obtain ⟨h1, h2⟩ := of_decide_eq_true h; exact ⟨h1, by rw [← hn]; exact am_lkP_ok _ h2 _ hi⟩
  case arraylength =>
    cases c with
    | zero => have h1 := of_decide_eq_true h; exact h1
    | succ c => have h1 := of_decide_eq_true h; exact h1
  case new ix => obtain ⟨h1, h2⟩ := of_decide_eq_true h; exact ⟨h1, by rw [← hn]; exact am_lkN_ok _ h2⟩
  case anewarray ix => obtain ⟨h1, h2⟩ := of_decide_eq_true h; exact ⟨h1, by rw [← hn]; exact am_lkQ_ok _ h2⟩
  case areturn =>
    obtain ⟨h1, h2⟩ := Bool.and_eq_true_iff.mp h
    refine ⟨of_decide_eq_true h1, ?_⟩
    split at h2
    · rename_i x hr; exact ⟨_, hr, Or.inl ⟨x, rfl⟩⟩
    · rename_i x hr; exact ⟨_, hr, Or.inr ⟨x, rfl⟩⟩
    · cases h2
  case invokevirtual ix => obtain ⟨h1, h2⟩ := of_decide_eq_true h; exact ⟨h1, by rw [← hn]; exact am_lkV_ok _ h2⟩
  case invokestatic ix => obtain ⟨h1, h2⟩ := of_decide_eq_true h; exact ⟨h1, by rw [← hn]; exact am_lkS_ok _ h2⟩
  case invokespecial ix => obtain ⟨h1, h2⟩ := of_decide_eq_true h; exact ⟨h1, by rw [← hn]; exact am_lkI_ok _ h2⟩
  all_goals (have h1 := of_decide_eq_true h; exact h1)
def am_chk (own : Nat) (init : Bool) (mi : am_MI) (lo hi : Nat) : Bool := (List.range (hi - lo)).all (fun j => match am_nth (am_ins mi) (lo + j) with
  | some (some (i, len, a, b, c, k)) => decide (decode (am_code mi) (lo + j) = .ok (i, len)) && am_okB own init (am_mL mi) (am_ret mi) (lo + j) len a b c k i
  | _ => true)
theorem am_chk_ok {own : Nat} {init : Bool} {mi : am_MI} {n : Nat} (hn : am_nm own = (am_y mi).cls) (hi : init = true → (am_y mi).name = "<init>") (hl : (am_ins mi).length = n) (h : am_chk own init mi 0 n = true) : am_ok am_tab mi := by
  intro pc len a b c k i hpc
  have hlt : pc < n := by
    rw [am_nth_eq] at hpc
    rw [← hl]
    exact (List.getElem?_eq_some_iff.mp hpc).1
  have h1 := List.all_eq_true.mp h pc (List.mem_range.mpr (by omega))
  rw [Nat.zero_add] at h1
  simp only [hpc] at h1
  obtain ⟨h2, h3⟩ := Bool.and_eq_true_iff.mp h1
  exact ⟨of_decide_eq_true h2, am_okB_ok hn hi h3⟩
end
