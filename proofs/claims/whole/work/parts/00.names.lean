/-- a private method of a class that the tables say can be made, by its rows of tables_1 -/
def lw_okq (q : MethodName × Nat) : Prop := (q.1.cls ≠ "java/lang/invoke/MethodHandle" ∧ q.1.cls ≠ "java/lang/invoke/VarHandle") ∧ Cond.instantiable q.1.cls q.2 ∈ tables_1 ∧ Cond.privateMethod q.1 ∈ tables_1 ∧ Cond.instanceMethod q.1 ∈ tables_1
theorem lw_p0 : lw_okq (⟨"HoldChecker$Tape", "putByte", "(I)V"⟩, 8) := ⟨⟨by decide +kernel, by decide +kernel⟩, List.mem_of_getElem? (i := 34) (by decide +kernel), List.mem_of_getElem? (i := 505) (by decide +kernel), List.mem_of_getElem? (i := 506) (by decide +kernel)⟩
theorem lw_p1 : lw_okq (⟨"HoldChecker", "refuse", "(I)I"⟩, 12) := ⟨⟨by decide +kernel, by decide +kernel⟩, List.mem_of_getElem? (i := 20) (by decide +kernel), List.mem_of_getElem? (i := 513) (by decide +kernel), List.mem_of_getElem? (i := 514) (by decide +kernel)⟩
theorem lw_p2 : lw_okq (⟨"HoldChecker$Tape", "takeWord", "()V"⟩, 8) := ⟨⟨by decide +kernel, by decide +kernel⟩, List.mem_of_getElem? (i := 34) (by decide +kernel), List.mem_of_getElem? (i := 533) (by decide +kernel), List.mem_of_getElem? (i := 534) (by decide +kernel)⟩
theorem lw_p3 : lw_okq (⟨"HoldChecker$Parser", "atTheEnd", "()Z"⟩, 11) := ⟨⟨by decide +kernel, by decide +kernel⟩, List.mem_of_getElem? (i := 28) (by decide +kernel), List.mem_of_getElem? (i := 540) (by decide +kernel), List.mem_of_getElem? (i := 541) (by decide +kernel)⟩
theorem lw_p4 : lw_okq (⟨"HoldChecker$Parser", "readPiece", "()Z"⟩, 11) := ⟨⟨by decide +kernel, by decide +kernel⟩, List.mem_of_getElem? (i := 28) (by decide +kernel), List.mem_of_getElem? (i := 544) (by decide +kernel), List.mem_of_getElem? (i := 545) (by decide +kernel)⟩
theorem lw_p5 : lw_okq (⟨"HoldChecker$Parser", "readStatement", "(I)Z"⟩, 11) := ⟨⟨by decide +kernel, by decide +kernel⟩, List.mem_of_getElem? (i := 28) (by decide +kernel), List.mem_of_getElem? (i := 548) (by decide +kernel), List.mem_of_getElem? (i := 549) (by decide +kernel)⟩
theorem lw_p6 : lw_okq (⟨"HoldChecker$Parser", "fail", "(I)Z"⟩, 11) := ⟨⟨by decide +kernel, by decide +kernel⟩, List.mem_of_getElem? (i := 28) (by decide +kernel), List.mem_of_getElem? (i := 552) (by decide +kernel), List.mem_of_getElem? (i := 553) (by decide +kernel)⟩
theorem lw_p7 : lw_okq (⟨"HoldChecker$Parser", "readFirst", "(I)Z"⟩, 11) := ⟨⟨by decide +kernel, by decide +kernel⟩, List.mem_of_getElem? (i := 28) (by decide +kernel), List.mem_of_getElem? (i := 561) (by decide +kernel), List.mem_of_getElem? (i := 562) (by decide +kernel)⟩
theorem lw_p8 : lw_okq (⟨"HoldChecker$Parser", "known", "([JII)I"⟩, 11) := ⟨⟨by decide +kernel, by decide +kernel⟩, List.mem_of_getElem? (i := 28) (by decide +kernel), List.mem_of_getElem? (i := 565) (by decide +kernel), List.mem_of_getElem? (i := 566) (by decide +kernel)⟩
theorem lw_p9 : lw_okq (⟨"HoldChecker$Parser", "find", "([JII)I"⟩, 11) := ⟨⟨by decide +kernel, by decide +kernel⟩, List.mem_of_getElem? (i := 28) (by decide +kernel), List.mem_of_getElem? (i := 569) (by decide +kernel), List.mem_of_getElem? (i := 570) (by decide +kernel)⟩
theorem lw_p10 : lw_okq (⟨"HoldChecker$Parser", "readSecond", "(I)Z"⟩, 11) := ⟨⟨by decide +kernel, by decide +kernel⟩, List.mem_of_getElem? (i := 28) (by decide +kernel), List.mem_of_getElem? (i := 573) (by decide +kernel), List.mem_of_getElem? (i := 574) (by decide +kernel)⟩
theorem lw_p11 : lw_okq (⟨"HoldChecker$Parser", "readAsked", "(IZ)Z"⟩, 11) := ⟨⟨by decide +kernel, by decide +kernel⟩, List.mem_of_getElem? (i := 28) (by decide +kernel), List.mem_of_getElem? (i := 577) (by decide +kernel), List.mem_of_getElem? (i := 578) (by decide +kernel)⟩
theorem lw_p12 : lw_okq (⟨"HoldChecker$Parser", "takeSign", "(I)Z"⟩, 11) := ⟨⟨by decide +kernel, by decide +kernel⟩, List.mem_of_getElem? (i := 28) (by decide +kernel), List.mem_of_getElem? (i := 585) (by decide +kernel), List.mem_of_getElem? (i := 586) (by decide +kernel)⟩
theorem lw_p13 : lw_okq (⟨"HoldChecker$Parser", "closeBlock", "()Z"⟩, 11) := ⟨⟨by decide +kernel, by decide +kernel⟩, List.mem_of_getElem? (i := 28) (by decide +kernel), List.mem_of_getElem? (i := 589) (by decide +kernel), List.mem_of_getElem? (i := 590) (by decide +kernel)⟩
theorem lw_p14 : lw_okq (⟨"HoldChecker$Parser", "readKind", "()Z"⟩, 11) := ⟨⟨by decide +kernel, by decide +kernel⟩, List.mem_of_getElem? (i := 28) (by decide +kernel), List.mem_of_getElem? (i := 593) (by decide +kernel), List.mem_of_getElem? (i := 594) (by decide +kernel)⟩
theorem lw_p15 : lw_okq (⟨"HoldChecker$Parser", "isNewName", "([JII)Z"⟩, 11) := ⟨⟨by decide +kernel, by decide +kernel⟩, List.mem_of_getElem? (i := 28) (by decide +kernel), List.mem_of_getElem? (i := 597) (by decide +kernel), List.mem_of_getElem? (i := 598) (by decide +kernel)⟩
def lw_privs_1 : List (MethodName × Nat) := [(⟨"HoldChecker$Tape", "putByte", "(I)V"⟩, 8), (⟨"HoldChecker", "refuse", "(I)I"⟩, 12), (⟨"HoldChecker$Tape", "takeWord", "()V"⟩, 8), (⟨"HoldChecker$Parser", "atTheEnd", "()Z"⟩, 11), (⟨"HoldChecker$Parser", "readPiece", "()Z"⟩, 11), (⟨"HoldChecker$Parser", "readStatement", "(I)Z"⟩, 11), (⟨"HoldChecker$Parser", "fail", "(I)Z"⟩, 11), (⟨"HoldChecker$Parser", "readFirst", "(I)Z"⟩, 11), (⟨"HoldChecker$Parser", "known", "([JII)I"⟩, 11), (⟨"HoldChecker$Parser", "find", "([JII)I"⟩, 11), (⟨"HoldChecker$Parser", "readSecond", "(I)Z"⟩, 11), (⟨"HoldChecker$Parser", "readAsked", "(IZ)Z"⟩, 11), (⟨"HoldChecker$Parser", "takeSign", "(I)Z"⟩, 11), (⟨"HoldChecker$Parser", "closeBlock", "()Z"⟩, 11), (⟨"HoldChecker$Parser", "readKind", "()Z"⟩, 11), (⟨"HoldChecker$Parser", "isNewName", "([JII)Z"⟩, 11)]
theorem lw_r1 : ∀ q ∈ lw_privs_1, lw_okq q := List.forall_mem_cons.mpr ⟨lw_p0, List.forall_mem_cons.mpr ⟨lw_p1, List.forall_mem_cons.mpr ⟨lw_p2, List.forall_mem_cons.mpr ⟨lw_p3, List.forall_mem_cons.mpr ⟨lw_p4, List.forall_mem_cons.mpr ⟨lw_p5, List.forall_mem_cons.mpr ⟨lw_p6, List.forall_mem_cons.mpr ⟨lw_p7, List.forall_mem_cons.mpr ⟨lw_p8, List.forall_mem_cons.mpr ⟨lw_p9, List.forall_mem_cons.mpr ⟨lw_p10, List.forall_mem_cons.mpr ⟨lw_p11, List.forall_mem_cons.mpr ⟨lw_p12, List.forall_mem_cons.mpr ⟨lw_p13, List.forall_mem_cons.mpr ⟨lw_p14, List.forall_mem_cons.mpr ⟨lw_p15, fun _ h => absurd h List.not_mem_nil⟩⟩⟩⟩⟩⟩⟩⟩⟩⟩⟩⟩⟩⟩⟩⟩
theorem lw_p16 : lw_okq (⟨"HoldChecker$Parser", "readEnd", "()Z"⟩, 11) := ⟨⟨by decide +kernel, by decide +kernel⟩, List.mem_of_getElem? (i := 28) (by decide +kernel), List.mem_of_getElem? (i := 605) (by decide +kernel), List.mem_of_getElem? (i := 606) (by decide +kernel)⟩
theorem lw_p17 : lw_okq (⟨"HoldChecker$Parser", "readMethod", "(I)Z"⟩, 11) := ⟨⟨by decide +kernel, by decide +kernel⟩, List.mem_of_getElem? (i := 28) (by decide +kernel), List.mem_of_getElem? (i := 609) (by decide +kernel), List.mem_of_getElem? (i := 610) (by decide +kernel)⟩
theorem lw_p18 : lw_okq (⟨"HoldChecker$Parser", "methodToTell", "(II)I"⟩, 11) := ⟨⟨by decide +kernel, by decide +kernel⟩, List.mem_of_getElem? (i := 28) (by decide +kernel), List.mem_of_getElem? (i := 613) (by decide +kernel), List.mem_of_getElem? (i := 614) (by decide +kernel)⟩
theorem lw_p19 : lw_okq (⟨"HoldChecker$Parser", "readWhatComes", "(III)Z"⟩, 11) := ⟨⟨by decide +kernel, by decide +kernel⟩, List.mem_of_getElem? (i := 28) (by decide +kernel), List.mem_of_getElem? (i := 621) (by decide +kernel), List.mem_of_getElem? (i := 622) (by decide +kernel)⟩
theorem lw_p20 : lw_okq (⟨"HoldChecker$Parser", "readVariable", "()Z"⟩, 11) := ⟨⟨by decide +kernel, by decide +kernel⟩, List.mem_of_getElem? (i := 28) (by decide +kernel), List.mem_of_getElem? (i := 633) (by decide +kernel), List.mem_of_getElem? (i := 634) (by decide +kernel)⟩
theorem lw_p21 : lw_okq (⟨"HoldChecker$Program", "placeAfter", "(I)I"⟩, 15) := ⟨⟨by decide +kernel, by decide +kernel⟩, List.mem_of_getElem? (i := 121) (by decide +kernel), List.mem_of_getElem? (i := 641) (by decide +kernel), List.mem_of_getElem? (i := 642) (by decide +kernel)⟩
theorem lw_p22 : lw_okq (⟨"HoldChecker$Program", "goesRound", "(I)Z"⟩, 15) := ⟨⟨by decide +kernel, by decide +kernel⟩, List.mem_of_getElem? (i := 121) (by decide +kernel), List.mem_of_getElem? (i := 645) (by decide +kernel), List.mem_of_getElem? (i := 646) (by decide +kernel)⟩
theorem lw_p23 : lw_okq (⟨"HoldChecker$Program", "linkBlocks", "(I)V"⟩, 15) := ⟨⟨by decide +kernel, by decide +kernel⟩, List.mem_of_getElem? (i := 121) (by decide +kernel), List.mem_of_getElem? (i := 649) (by decide +kernel), List.mem_of_getElem? (i := 650) (by decide +kernel)⟩
theorem lw_p24 : lw_okq (⟨"HoldChecker", "forgetAnswers", "()V"⟩, 12) := ⟨⟨by decide +kernel, by decide +kernel⟩, List.mem_of_getElem? (i := 20) (by decide +kernel), List.mem_of_getElem? (i := 657) (by decide +kernel), List.mem_of_getElem? (i := 658) (by decide +kernel)⟩
theorem lw_p25 : lw_okq (⟨"HoldChecker", "answer", "(I)I"⟩, 12) := ⟨⟨by decide +kernel, by decide +kernel⟩, List.mem_of_getElem? (i := 20) (by decide +kernel), List.mem_of_getElem? (i := 661) (by decide +kernel), List.mem_of_getElem? (i := 662) (by decide +kernel)⟩
theorem lw_p26 : lw_okq (⟨"HoldChecker$Kinds", "measureSteps", "(I)V"⟩, 12) := ⟨⟨by decide +kernel, by decide +kernel⟩, List.mem_of_getElem? (i := 127) (by decide +kernel), List.mem_of_getElem? (i := 697) (by decide +kernel), List.mem_of_getElem? (i := 698) (by decide +kernel)⟩
theorem lw_p27 : lw_okq (⟨"HoldChecker$Kinds", "partUnlike", "(I)Z"⟩, 12) := ⟨⟨by decide +kernel, by decide +kernel⟩, List.mem_of_getElem? (i := 127) (by decide +kernel), List.mem_of_getElem? (i := 764) (by decide +kernel), List.mem_of_getElem? (i := 765) (by decide +kernel)⟩
theorem lw_p28 : lw_okq (⟨"HoldChecker$Kinds", "differ", "(III)Z"⟩, 12) := ⟨⟨by decide +kernel, by decide +kernel⟩, List.mem_of_getElem? (i := 127) (by decide +kernel), List.mem_of_getElem? (i := 768) (by decide +kernel), List.mem_of_getElem? (i := 769) (by decide +kernel)⟩
theorem lw_p29 : lw_okq (⟨"HoldChecker$Kinds", "comeUnlike", "(IIIIZ)Z"⟩, 12) := ⟨⟨by decide +kernel, by decide +kernel⟩, List.mem_of_getElem? (i := 127) (by decide +kernel), List.mem_of_getElem? (i := 772) (by decide +kernel), List.mem_of_getElem? (i := 773) (by decide +kernel)⟩
theorem lw_p30 : lw_okq (⟨"HoldChecker$Kinds", "lengthenWays", "(I)V"⟩, 12) := ⟨⟨by decide +kernel, by decide +kernel⟩, List.mem_of_getElem? (i := 127) (by decide +kernel), List.mem_of_getElem? (i := 787) (by decide +kernel), List.mem_of_getElem? (i := 788) (by decide +kernel)⟩
theorem lw_p31 : lw_okq (⟨"HoldChecker", "solvedFlow", "()LHoldChecker$Flow;"⟩, 12) := ⟨⟨by decide +kernel, by decide +kernel⟩, List.mem_of_getElem? (i := 20) (by decide +kernel), List.mem_of_getElem? (i := 812) (by decide +kernel), List.mem_of_getElem? (i := 813) (by decide +kernel)⟩
def lw_privs_2 : List (MethodName × Nat) := [(⟨"HoldChecker$Parser", "readEnd", "()Z"⟩, 11), (⟨"HoldChecker$Parser", "readMethod", "(I)Z"⟩, 11), (⟨"HoldChecker$Parser", "methodToTell", "(II)I"⟩, 11), (⟨"HoldChecker$Parser", "readWhatComes", "(III)Z"⟩, 11), (⟨"HoldChecker$Parser", "readVariable", "()Z"⟩, 11), (⟨"HoldChecker$Program", "placeAfter", "(I)I"⟩, 15), (⟨"HoldChecker$Program", "goesRound", "(I)Z"⟩, 15), (⟨"HoldChecker$Program", "linkBlocks", "(I)V"⟩, 15), (⟨"HoldChecker", "forgetAnswers", "()V"⟩, 12), (⟨"HoldChecker", "answer", "(I)I"⟩, 12), (⟨"HoldChecker$Kinds", "measureSteps", "(I)V"⟩, 12), (⟨"HoldChecker$Kinds", "partUnlike", "(I)Z"⟩, 12), (⟨"HoldChecker$Kinds", "differ", "(III)Z"⟩, 12), (⟨"HoldChecker$Kinds", "comeUnlike", "(IIIIZ)Z"⟩, 12), (⟨"HoldChecker$Kinds", "lengthenWays", "(I)V"⟩, 12), (⟨"HoldChecker", "solvedFlow", "()LHoldChecker$Flow;"⟩, 12)]
theorem lw_r2 : ∀ q ∈ lw_privs_2, lw_okq q := List.forall_mem_cons.mpr ⟨lw_p16, List.forall_mem_cons.mpr ⟨lw_p17, List.forall_mem_cons.mpr ⟨lw_p18, List.forall_mem_cons.mpr ⟨lw_p19, List.forall_mem_cons.mpr ⟨lw_p20, List.forall_mem_cons.mpr ⟨lw_p21, List.forall_mem_cons.mpr ⟨lw_p22, List.forall_mem_cons.mpr ⟨lw_p23, List.forall_mem_cons.mpr ⟨lw_p24, List.forall_mem_cons.mpr ⟨lw_p25, List.forall_mem_cons.mpr ⟨lw_p26, List.forall_mem_cons.mpr ⟨lw_p27, List.forall_mem_cons.mpr ⟨lw_p28, List.forall_mem_cons.mpr ⟨lw_p29, List.forall_mem_cons.mpr ⟨lw_p30, List.forall_mem_cons.mpr ⟨lw_p31, fun _ h => absurd h List.not_mem_nil⟩⟩⟩⟩⟩⟩⟩⟩⟩⟩⟩⟩⟩⟩⟩⟩
theorem lw_p32 : lw_okq (⟨"HoldChecker$Flow", "arrive", "(I)V"⟩, 8) := ⟨⟨by decide +kernel, by decide +kernel⟩, List.mem_of_getElem? (i := 309) (by decide +kernel), List.mem_of_getElem? (i := 826) (by decide +kernel), List.mem_of_getElem? (i := 827) (by decide +kernel)⟩
theorem lw_p33 : lw_okq (⟨"HoldChecker$Flow", "goOn", "(LHoldChecker$Program;IZ)V"⟩, 8) := ⟨⟨by decide +kernel, by decide +kernel⟩, List.mem_of_getElem? (i := 309) (by decide +kernel), List.mem_of_getElem? (i := 841) (by decide +kernel), List.mem_of_getElem? (i := 842) (by decide +kernel)⟩
theorem lw_p34 : lw_okq (⟨"HoldChecker$Hold", "letGo", "(I)V"⟩, 1) := ⟨⟨by decide +kernel, by decide +kernel⟩, List.mem_of_getElem? (i := 316) (by decide +kernel), List.mem_of_getElem? (i := 849) (by decide +kernel), List.mem_of_getElem? (i := 850) (by decide +kernel)⟩
theorem lw_p35 : lw_okq (⟨"HoldChecker$Hold", "becomeLike", "(II)V"⟩, 1) := ⟨⟨by decide +kernel, by decide +kernel⟩, List.mem_of_getElem? (i := 316) (by decide +kernel), List.mem_of_getElem? (i := 853) (by decide +kernel), List.mem_of_getElem? (i := 854) (by decide +kernel)⟩
theorem lw_p36 : lw_okq (⟨"HoldChecker$Hold", "makeOne", "(II)V"⟩, 1) := ⟨⟨by decide +kernel, by decide +kernel⟩, List.mem_of_getElem? (i := 316) (by decide +kernel), List.mem_of_getElem? (i := 857) (by decide +kernel), List.mem_of_getElem? (i := 858) (by decide +kernel)⟩
theorem lw_p37 : lw_okq (⟨"HoldChecker$Hold", "passJoin", "(II)V"⟩, 1) := ⟨⟨by decide +kernel, by decide +kernel⟩, List.mem_of_getElem? (i := 316) (by decide +kernel), List.mem_of_getElem? (i := 864) (by decide +kernel), List.mem_of_getElem? (i := 865) (by decide +kernel)⟩
theorem lw_p38 : lw_okq (⟨"HoldChecker$Hold", "ask", "(LHoldChecker$Program;IIZ)Z"⟩, 1) := ⟨⟨by decide +kernel, by decide +kernel⟩, List.mem_of_getElem? (i := 316) (by decide +kernel), List.mem_of_getElem? (i := 872) (by decide +kernel), List.mem_of_getElem? (i := 873) (by decide +kernel)⟩
theorem lw_p39 : lw_okq (⟨"HoldChecker$Flow", "judge", "(LHoldChecker$Program;I)V"⟩, 8) := ⟨⟨by decide +kernel, by decide +kernel⟩, List.mem_of_getElem? (i := 309) (by decide +kernel), List.mem_of_getElem? (i := 877) (by decide +kernel), List.mem_of_getElem? (i := 878) (by decide +kernel)⟩
theorem lw_p40 : lw_okq (⟨"HoldChecker$Hold", "reasonAtEnd", "(LHoldChecker$Program;)I"⟩, 1) := ⟨⟨by decide +kernel, by decide +kernel⟩, List.mem_of_getElem? (i := 316) (by decide +kernel), List.mem_of_getElem? (i := 885) (by decide +kernel), List.mem_of_getElem? (i := 886) (by decide +kernel)⟩
theorem lw_p41 : lw_okq (⟨"HoldChecker$Hold", "inNoEnd", "(LHoldChecker$Program;I)Z"⟩, 1) := ⟨⟨by decide +kernel, by decide +kernel⟩, List.mem_of_getElem? (i := 316) (by decide +kernel), List.mem_of_getElem? (i := 889) (by decide +kernel), List.mem_of_getElem? (i := 890) (by decide +kernel)⟩
theorem lw_p42 : lw_okq (⟨"HoldChecker$Hold", "mayHold", "(I)Z"⟩, 1) := ⟨⟨by decide +kernel, by decide +kernel⟩, List.mem_of_getElem? (i := 316) (by decide +kernel), List.mem_of_getElem? (i := 893) (by decide +kernel), List.mem_of_getElem? (i := 894) (by decide +kernel)⟩
theorem lw_p43 : lw_okq (⟨"HoldChecker$Hold", "mayLack", "(I)Z"⟩, 1) := ⟨⟨by decide +kernel, by decide +kernel⟩, List.mem_of_getElem? (i := 316) (by decide +kernel), List.mem_of_getElem? (i := 897) (by decide +kernel), List.mem_of_getElem? (i := 898) (by decide +kernel)⟩
theorem lw_p44 : lw_okq (⟨"HoldChecker$Hold", "reasonOfHow", "(I)I"⟩, 1) := ⟨⟨by decide +kernel, by decide +kernel⟩, List.mem_of_getElem? (i := 316) (by decide +kernel), List.mem_of_getElem? (i := 901) (by decide +kernel), List.mem_of_getElem? (i := 902) (by decide +kernel)⟩
theorem lw_p45 : lw_okq (⟨"HoldChecker$Hold", "reasonOfJoin", "(II)I"⟩, 1) := ⟨⟨by decide +kernel, by decide +kernel⟩, List.mem_of_getElem? (i := 316) (by decide +kernel), List.mem_of_getElem? (i := 905) (by decide +kernel), List.mem_of_getElem? (i := 906) (by decide +kernel)⟩
theorem lw_p46 : lw_okq (⟨"HoldChecker$Hold", "reasonOfDrop", "(LHoldChecker$Program;I)I"⟩, 1) := ⟨⟨by decide +kernel, by decide +kernel⟩, List.mem_of_getElem? (i := 316) (by decide +kernel), List.mem_of_getElem? (i := 909) (by decide +kernel), List.mem_of_getElem? (i := 910) (by decide +kernel)⟩
theorem lw_p47 : lw_okq (⟨"HoldChecker$Hold", "reasonOfAsking", "(LHoldChecker$Program;II)I"⟩, 1) := ⟨⟨by decide +kernel, by decide +kernel⟩, List.mem_of_getElem? (i := 316) (by decide +kernel), List.mem_of_getElem? (i := 913) (by decide +kernel), List.mem_of_getElem? (i := 914) (by decide +kernel)⟩
def lw_privs_3 : List (MethodName × Nat) := [(⟨"HoldChecker$Flow", "arrive", "(I)V"⟩, 8), (⟨"HoldChecker$Flow", "goOn", "(LHoldChecker$Program;IZ)V"⟩, 8), (⟨"HoldChecker$Hold", "letGo", "(I)V"⟩, 1), (⟨"HoldChecker$Hold", "becomeLike", "(II)V"⟩, 1), (⟨"HoldChecker$Hold", "makeOne", "(II)V"⟩, 1), (⟨"HoldChecker$Hold", "passJoin", "(II)V"⟩, 1), (⟨"HoldChecker$Hold", "ask", "(LHoldChecker$Program;IIZ)Z"⟩, 1), (⟨"HoldChecker$Flow", "judge", "(LHoldChecker$Program;I)V"⟩, 8), (⟨"HoldChecker$Hold", "reasonAtEnd", "(LHoldChecker$Program;)I"⟩, 1), (⟨"HoldChecker$Hold", "inNoEnd", "(LHoldChecker$Program;I)Z"⟩, 1), (⟨"HoldChecker$Hold", "mayHold", "(I)Z"⟩, 1), (⟨"HoldChecker$Hold", "mayLack", "(I)Z"⟩, 1), (⟨"HoldChecker$Hold", "reasonOfHow", "(I)I"⟩, 1), (⟨"HoldChecker$Hold", "reasonOfJoin", "(II)I"⟩, 1), (⟨"HoldChecker$Hold", "reasonOfDrop", "(LHoldChecker$Program;I)I"⟩, 1), (⟨"HoldChecker$Hold", "reasonOfAsking", "(LHoldChecker$Program;II)I"⟩, 1)]
theorem lw_r3 : ∀ q ∈ lw_privs_3, lw_okq q := List.forall_mem_cons.mpr ⟨lw_p32, List.forall_mem_cons.mpr ⟨lw_p33, List.forall_mem_cons.mpr ⟨lw_p34, List.forall_mem_cons.mpr ⟨lw_p35, List.forall_mem_cons.mpr ⟨lw_p36, List.forall_mem_cons.mpr ⟨lw_p37, List.forall_mem_cons.mpr ⟨lw_p38, List.forall_mem_cons.mpr ⟨lw_p39, List.forall_mem_cons.mpr ⟨lw_p40, List.forall_mem_cons.mpr ⟨lw_p41, List.forall_mem_cons.mpr ⟨lw_p42, List.forall_mem_cons.mpr ⟨lw_p43, List.forall_mem_cons.mpr ⟨lw_p44, List.forall_mem_cons.mpr ⟨lw_p45, List.forall_mem_cons.mpr ⟨lw_p46, List.forall_mem_cons.mpr ⟨lw_p47, fun _ h => absurd h List.not_mem_nil⟩⟩⟩⟩⟩⟩⟩⟩⟩⟩⟩⟩⟩⟩⟩⟩
theorem lw_p48 : lw_okq (⟨"HoldChecker", "triedWithout", "(I)I"⟩, 12) := ⟨⟨by decide +kernel, by decide +kernel⟩, List.mem_of_getElem? (i := 20) (by decide +kernel), List.mem_of_getElem? (i := 939) (by decide +kernel), List.mem_of_getElem? (i := 940) (by decide +kernel)⟩
theorem lw_p49 : lw_okq (⟨"HoldChecker", "finishedSearch", "()LHoldChecker$Search;"⟩, 12) := ⟨⟨by decide +kernel, by decide +kernel⟩, List.mem_of_getElem? (i := 20) (by decide +kernel), List.mem_of_getElem? (i := 951) (by decide +kernel), List.mem_of_getElem? (i := 952) (by decide +kernel)⟩
theorem lw_p50 : lw_okq (⟨"HoldChecker$Search", "forget", "()V"⟩, 15) := ⟨⟨by decide +kernel, by decide +kernel⟩, List.mem_of_getElem? (i := 357) (by decide +kernel), List.mem_of_getElem? (i := 959) (by decide +kernel), List.mem_of_getElem? (i := 960) (by decide +kernel)⟩
theorem lw_p51 : lw_okq (⟨"HoldChecker$Search", "add", "(JI)V"⟩, 15) := ⟨⟨by decide +kernel, by decide +kernel⟩, List.mem_of_getElem? (i := 357) (by decide +kernel), List.mem_of_getElem? (i := 976) (by decide +kernel), List.mem_of_getElem? (i := 977) (by decide +kernel)⟩
theorem lw_p52 : lw_okq (⟨"HoldChecker$Search", "addAt", "(IJI)V"⟩, 15) := ⟨⟨by decide +kernel, by decide +kernel⟩, List.mem_of_getElem? (i := 357) (by decide +kernel), List.mem_of_getElem? (i := 981) (by decide +kernel), List.mem_of_getElem? (i := 982) (by decide +kernel)⟩
theorem lw_p53 : lw_okq (⟨"HoldChecker$Search", "goesOnFrom", "(LHoldChecker$Program;II)Z"⟩, 15) := ⟨⟨by decide +kernel, by decide +kernel⟩, List.mem_of_getElem? (i := 357) (by decide +kernel), List.mem_of_getElem? (i := 996) (by decide +kernel), List.mem_of_getElem? (i := 997) (by decide +kernel)⟩
theorem lw_p54 : lw_okq (⟨"HoldChecker$Search", "noteLeft", "(LHoldChecker$Program;I)V"⟩, 15) := ⟨⟨by decide +kernel, by decide +kernel⟩, List.mem_of_getElem? (i := 357) (by decide +kernel), List.mem_of_getElem? (i := 1007) (by decide +kernel), List.mem_of_getElem? (i := 1008) (by decide +kernel)⟩
theorem lw_p55 : lw_okq (⟨"HoldChecker$Search", "follow", "(LHoldChecker$Program;IIZ)V"⟩, 15) := ⟨⟨by decide +kernel, by decide +kernel⟩, List.mem_of_getElem? (i := 357) (by decide +kernel), List.mem_of_getElem? (i := 1017) (by decide +kernel), List.mem_of_getElem? (i := 1018) (by decide +kernel)⟩
theorem lw_p56 : lw_okq (⟨"HoldChecker$Search", "lengthTo", "(I)I"⟩, 15) := ⟨⟨by decide +kernel, by decide +kernel⟩, List.mem_of_getElem? (i := 357) (by decide +kernel), List.mem_of_getElem? (i := 1023) (by decide +kernel), List.mem_of_getElem? (i := 1024) (by decide +kernel)⟩
theorem lw_p57 : lw_okq (⟨"HoldChecker$Runner", "step", "(LHoldChecker$Program;)Z"⟩, 6) := ⟨⟨by decide +kernel, by decide +kernel⟩, List.mem_of_getElem? (i := 420) (by decide +kernel), List.mem_of_getElem? (i := 1062) (by decide +kernel), List.mem_of_getElem? (i := 1063) (by decide +kernel)⟩
theorem lw_p58 : lw_okq (⟨"HoldChecker$Runner", "drawYes", "()Z"⟩, 6) := ⟨⟨by decide +kernel, by decide +kernel⟩, List.mem_of_getElem? (i := 420) (by decide +kernel), List.mem_of_getElem? (i := 1067) (by decide +kernel), List.mem_of_getElem? (i := 1068) (by decide +kernel)⟩
theorem lw_p59 : lw_okq (⟨"HoldCheckerModel", "come", "(I)V"⟩, 50) := ⟨⟨by decide +kernel, by decide +kernel⟩, List.mem_of_getElem? (i := 1078) (by decide +kernel), List.mem_of_getElem? (i := 1243) (by decide +kernel), List.mem_of_getElem? (i := 1244) (by decide +kernel)⟩
theorem lw_p60 : lw_okq (⟨"HoldCheckerModel", "refuse", "(I)I"⟩, 50) := ⟨⟨by decide +kernel, by decide +kernel⟩, List.mem_of_getElem? (i := 1078) (by decide +kernel), List.mem_of_getElem? (i := 1254) (by decide +kernel), List.mem_of_getElem? (i := 1255) (by decide +kernel)⟩
theorem lw_p61 : lw_okq (⟨"HoldCheckerModel", "go", "()V"⟩, 50) := ⟨⟨by decide +kernel, by decide +kernel⟩, List.mem_of_getElem? (i := 1078) (by decide +kernel), List.mem_of_getElem? (i := 1258) (by decide +kernel), List.mem_of_getElem? (i := 1259) (by decide +kernel)⟩
theorem lw_p62 : lw_okq (⟨"HoldCheckerModel", "byteAt", "(I)I"⟩, 50) := ⟨⟨by decide +kernel, by decide +kernel⟩, List.mem_of_getElem? (i := 1078) (by decide +kernel), List.mem_of_getElem? (i := 1262) (by decide +kernel), List.mem_of_getElem? (i := 1263) (by decide +kernel)⟩
theorem lw_p63 : lw_okq (⟨"HoldCheckerModel", "readText", "()Z"⟩, 50) := ⟨⟨by decide +kernel, by decide +kernel⟩, List.mem_of_getElem? (i := 1078) (by decide +kernel), List.mem_of_getElem? (i := 1271) (by decide +kernel), List.mem_of_getElem? (i := 1272) (by decide +kernel)⟩
def lw_privs_4 : List (MethodName × Nat) := [(⟨"HoldChecker", "triedWithout", "(I)I"⟩, 12), (⟨"HoldChecker", "finishedSearch", "()LHoldChecker$Search;"⟩, 12), (⟨"HoldChecker$Search", "forget", "()V"⟩, 15), (⟨"HoldChecker$Search", "add", "(JI)V"⟩, 15), (⟨"HoldChecker$Search", "addAt", "(IJI)V"⟩, 15), (⟨"HoldChecker$Search", "goesOnFrom", "(LHoldChecker$Program;II)Z"⟩, 15), (⟨"HoldChecker$Search", "noteLeft", "(LHoldChecker$Program;I)V"⟩, 15), (⟨"HoldChecker$Search", "follow", "(LHoldChecker$Program;IIZ)V"⟩, 15), (⟨"HoldChecker$Search", "lengthTo", "(I)I"⟩, 15), (⟨"HoldChecker$Runner", "step", "(LHoldChecker$Program;)Z"⟩, 6), (⟨"HoldChecker$Runner", "drawYes", "()Z"⟩, 6), (⟨"HoldCheckerModel", "come", "(I)V"⟩, 50), (⟨"HoldCheckerModel", "refuse", "(I)I"⟩, 50), (⟨"HoldCheckerModel", "go", "()V"⟩, 50), (⟨"HoldCheckerModel", "byteAt", "(I)I"⟩, 50), (⟨"HoldCheckerModel", "readText", "()Z"⟩, 50)]
theorem lw_r4 : ∀ q ∈ lw_privs_4, lw_okq q := List.forall_mem_cons.mpr ⟨lw_p48, List.forall_mem_cons.mpr ⟨lw_p49, List.forall_mem_cons.mpr ⟨lw_p50, List.forall_mem_cons.mpr ⟨lw_p51, List.forall_mem_cons.mpr ⟨lw_p52, List.forall_mem_cons.mpr ⟨lw_p53, List.forall_mem_cons.mpr ⟨lw_p54, List.forall_mem_cons.mpr ⟨lw_p55, List.forall_mem_cons.mpr ⟨lw_p56, List.forall_mem_cons.mpr ⟨lw_p57, List.forall_mem_cons.mpr ⟨lw_p58, List.forall_mem_cons.mpr ⟨lw_p59, List.forall_mem_cons.mpr ⟨lw_p60, List.forall_mem_cons.mpr ⟨lw_p61, List.forall_mem_cons.mpr ⟨lw_p62, List.forall_mem_cons.mpr ⟨lw_p63, fun _ h => absurd h List.not_mem_nil⟩⟩⟩⟩⟩⟩⟩⟩⟩⟩⟩⟩⟩⟩⟩⟩
theorem lw_p64 : lw_okq (⟨"HoldCheckerModel", "wordHere", "()I"⟩, 50) := ⟨⟨by decide +kernel, by decide +kernel⟩, List.mem_of_getElem? (i := 1078) (by decide +kernel), List.mem_of_getElem? (i := 1275) (by decide +kernel), List.mem_of_getElem? (i := 1276) (by decide +kernel)⟩
theorem lw_p65 : lw_okq (⟨"HoldCheckerModel", "readLine", "(I)Z"⟩, 50) := ⟨⟨by decide +kernel, by decide +kernel⟩, List.mem_of_getElem? (i := 1078) (by decide +kernel), List.mem_of_getElem? (i := 1286) (by decide +kernel), List.mem_of_getElem? (i := 1287) (by decide +kernel)⟩
theorem lw_p66 : lw_okq (⟨"HoldCheckerModel", "readKindLine", "()Z"⟩, 50) := ⟨⟨by decide +kernel, by decide +kernel⟩, List.mem_of_getElem? (i := 1078) (by decide +kernel), List.mem_of_getElem? (i := 1290) (by decide +kernel), List.mem_of_getElem? (i := 1291) (by decide +kernel)⟩
theorem lw_p67 : lw_okq (⟨"HoldCheckerModel", "bad", "(I)Z"⟩, 50) := ⟨⟨by decide +kernel, by decide +kernel⟩, List.mem_of_getElem? (i := 1078) (by decide +kernel), List.mem_of_getElem? (i := 1294) (by decide +kernel), List.mem_of_getElem? (i := 1295) (by decide +kernel)⟩
theorem lw_p68 : lw_okq (⟨"HoldCheckerModel", "isName", "()Z"⟩, 50) := ⟨⟨by decide +kernel, by decide +kernel⟩, List.mem_of_getElem? (i := 1078) (by decide +kernel), List.mem_of_getElem? (i := 1298) (by decide +kernel), List.mem_of_getElem? (i := 1299) (by decide +kernel)⟩
theorem lw_p69 : lw_okq (⟨"HoldCheckerModel", "findIn", "(II)I"⟩, 50) := ⟨⟨by decide +kernel, by decide +kernel⟩, List.mem_of_getElem? (i := 1078) (by decide +kernel), List.mem_of_getElem? (i := 1302) (by decide +kernel), List.mem_of_getElem? (i := 1303) (by decide +kernel)⟩
theorem lw_p70 : lw_okq (⟨"HoldCheckerModel", "eats", "(I)Z"⟩, 50) := ⟨⟨by decide +kernel, by decide +kernel⟩, List.mem_of_getElem? (i := 1078) (by decide +kernel), List.mem_of_getElem? (i := 1306) (by decide +kernel), List.mem_of_getElem? (i := 1307) (by decide +kernel)⟩
theorem lw_p71 : lw_okq (⟨"HoldCheckerModel", "isSign", "(I)Z"⟩, 50) := ⟨⟨by decide +kernel, by decide +kernel⟩, List.mem_of_getElem? (i := 1078) (by decide +kernel), List.mem_of_getElem? (i := 1310) (by decide +kernel), List.mem_of_getElem? (i := 1311) (by decide +kernel)⟩
theorem lw_p72 : lw_okq (⟨"HoldCheckerModel", "readEndLine", "()Z"⟩, 50) := ⟨⟨by decide +kernel, by decide +kernel⟩, List.mem_of_getElem? (i := 1078) (by decide +kernel), List.mem_of_getElem? (i := 1314) (by decide +kernel), List.mem_of_getElem? (i := 1315) (by decide +kernel)⟩
theorem lw_p73 : lw_okq (⟨"HoldCheckerModel", "readKind", "()Z"⟩, 50) := ⟨⟨by decide +kernel, by decide +kernel⟩, List.mem_of_getElem? (i := 1078) (by decide +kernel), List.mem_of_getElem? (i := 1318) (by decide +kernel), List.mem_of_getElem? (i := 1319) (by decide +kernel)⟩
theorem lw_p74 : lw_okq (⟨"HoldCheckerModel", "readKnown", "(II)Z"⟩, 50) := ⟨⟨by decide +kernel, by decide +kernel⟩, List.mem_of_getElem? (i := 1078) (by decide +kernel), List.mem_of_getElem? (i := 1322) (by decide +kernel), List.mem_of_getElem? (i := 1323) (by decide +kernel)⟩
theorem lw_p75 : lw_okq (⟨"HoldCheckerModel", "readState", "(I)Z"⟩, 50) := ⟨⟨by decide +kernel, by decide +kernel⟩, List.mem_of_getElem? (i := 1078) (by decide +kernel), List.mem_of_getElem? (i := 1326) (by decide +kernel), List.mem_of_getElem? (i := 1327) (by decide +kernel)⟩
theorem lw_p76 : lw_okq (⟨"HoldCheckerModel", "readMethodLine", "(I)Z"⟩, 50) := ⟨⟨by decide +kernel, by decide +kernel⟩, List.mem_of_getElem? (i := 1078) (by decide +kernel), List.mem_of_getElem? (i := 1330) (by decide +kernel), List.mem_of_getElem? (i := 1331) (by decide +kernel)⟩
theorem lw_p77 : lw_okq (⟨"HoldCheckerModel", "readVarLine", "()Z"⟩, 50) := ⟨⟨by decide +kernel, by decide +kernel⟩, List.mem_of_getElem? (i := 1078) (by decide +kernel), List.mem_of_getElem? (i := 1340) (by decide +kernel), List.mem_of_getElem? (i := 1341) (by decide +kernel)⟩
theorem lw_p78 : lw_okq (⟨"HoldCheckerModel", "readStatement", "(III)Z"⟩, 50) := ⟨⟨by decide +kernel, by decide +kernel⟩, List.mem_of_getElem? (i := 1078) (by decide +kernel), List.mem_of_getElem? (i := 1344) (by decide +kernel), List.mem_of_getElem? (i := 1345) (by decide +kernel)⟩
theorem lw_p79 : lw_okq (⟨"HoldCheckerModel", "isStatement", "()Z"⟩, 50) := ⟨⟨by decide +kernel, by decide +kernel⟩, List.mem_of_getElem? (i := 1078) (by decide +kernel), List.mem_of_getElem? (i := 1348) (by decide +kernel), List.mem_of_getElem? (i := 1349) (by decide +kernel)⟩
def lw_privs_5 : List (MethodName × Nat) := [(⟨"HoldCheckerModel", "wordHere", "()I"⟩, 50), (⟨"HoldCheckerModel", "readLine", "(I)Z"⟩, 50), (⟨"HoldCheckerModel", "readKindLine", "()Z"⟩, 50), (⟨"HoldCheckerModel", "bad", "(I)Z"⟩, 50), (⟨"HoldCheckerModel", "isName", "()Z"⟩, 50), (⟨"HoldCheckerModel", "findIn", "(II)I"⟩, 50), (⟨"HoldCheckerModel", "eats", "(I)Z"⟩, 50), (⟨"HoldCheckerModel", "isSign", "(I)Z"⟩, 50), (⟨"HoldCheckerModel", "readEndLine", "()Z"⟩, 50), (⟨"HoldCheckerModel", "readKind", "()Z"⟩, 50), (⟨"HoldCheckerModel", "readKnown", "(II)Z"⟩, 50), (⟨"HoldCheckerModel", "readState", "(I)Z"⟩, 50), (⟨"HoldCheckerModel", "readMethodLine", "(I)Z"⟩, 50), (⟨"HoldCheckerModel", "readVarLine", "()Z"⟩, 50), (⟨"HoldCheckerModel", "readStatement", "(III)Z"⟩, 50), (⟨"HoldCheckerModel", "isStatement", "()Z"⟩, 50)]
theorem lw_r5 : ∀ q ∈ lw_privs_5, lw_okq q := List.forall_mem_cons.mpr ⟨lw_p64, List.forall_mem_cons.mpr ⟨lw_p65, List.forall_mem_cons.mpr ⟨lw_p66, List.forall_mem_cons.mpr ⟨lw_p67, List.forall_mem_cons.mpr ⟨lw_p68, List.forall_mem_cons.mpr ⟨lw_p69, List.forall_mem_cons.mpr ⟨lw_p70, List.forall_mem_cons.mpr ⟨lw_p71, List.forall_mem_cons.mpr ⟨lw_p72, List.forall_mem_cons.mpr ⟨lw_p73, List.forall_mem_cons.mpr ⟨lw_p74, List.forall_mem_cons.mpr ⟨lw_p75, List.forall_mem_cons.mpr ⟨lw_p76, List.forall_mem_cons.mpr ⟨lw_p77, List.forall_mem_cons.mpr ⟨lw_p78, List.forall_mem_cons.mpr ⟨lw_p79, fun _ h => absurd h List.not_mem_nil⟩⟩⟩⟩⟩⟩⟩⟩⟩⟩⟩⟩⟩⟩⟩⟩
theorem lw_p80 : lw_okq (⟨"HoldCheckerModel", "readVariable", "()Z"⟩, 50) := ⟨⟨by decide +kernel, by decide +kernel⟩, List.mem_of_getElem? (i := 1078) (by decide +kernel), List.mem_of_getElem? (i := 1352) (by decide +kernel), List.mem_of_getElem? (i := 1353) (by decide +kernel)⟩
theorem lw_p81 : lw_okq (⟨"HoldCheckerModel", "readOther", "(I)Z"⟩, 50) := ⟨⟨by decide +kernel, by decide +kernel⟩, List.mem_of_getElem? (i := 1078) (by decide +kernel), List.mem_of_getElem? (i := 1359) (by decide +kernel), List.mem_of_getElem? (i := 1360) (by decide +kernel)⟩
theorem lw_p82 : lw_okq (⟨"HoldCheckerModel", "readMethod", "(IZ)Z"⟩, 50) := ⟨⟨by decide +kernel, by decide +kernel⟩, List.mem_of_getElem? (i := 1078) (by decide +kernel), List.mem_of_getElem? (i := 1366) (by decide +kernel), List.mem_of_getElem? (i := 1367) (by decide +kernel)⟩
theorem lw_p83 : lw_okq (⟨"HoldCheckerModel", "readBlock", "(III)Z"⟩, 50) := ⟨⟨by decide +kernel, by decide +kernel⟩, List.mem_of_getElem? (i := 1078) (by decide +kernel), List.mem_of_getElem? (i := 1373) (by decide +kernel), List.mem_of_getElem? (i := 1374) (by decide +kernel)⟩
theorem lw_p84 : lw_okq (⟨"HoldCheckerModel", "gives", "(I)I"⟩, 50) := ⟨⟨by decide +kernel, by decide +kernel⟩, List.mem_of_getElem? (i := 1078) (by decide +kernel), List.mem_of_getElem? (i := 1377) (by decide +kernel), List.mem_of_getElem? (i := 1378) (by decide +kernel)⟩
theorem lw_p85 : lw_okq (⟨"HoldCheckerModel", "isKind", "(I)Z"⟩, 50) := ⟨⟨by decide +kernel, by decide +kernel⟩, List.mem_of_getElem? (i := 1078) (by decide +kernel), List.mem_of_getElem? (i := 1393) (by decide +kernel), List.mem_of_getElem? (i := 1394) (by decide +kernel)⟩
theorem lw_p86 : lw_okq (⟨"HoldCheckerModel", "reached", "(II)I"⟩, 50) := ⟨⟨by decide +kernel, by decide +kernel⟩, List.mem_of_getElem? (i := 1078) (by decide +kernel), List.mem_of_getElem? (i := 1397) (by decide +kernel), List.mem_of_getElem? (i := 1398) (by decide +kernel)⟩
theorem lw_p87 : lw_okq (⟨"HoldCheckerModel", "canBe", "(III)Z"⟩, 50) := ⟨⟨by decide +kernel, by decide +kernel⟩, List.mem_of_getElem? (i := 1078) (by decide +kernel), List.mem_of_getElem? (i := 1404) (by decide +kernel), List.mem_of_getElem? (i := 1405) (by decide +kernel)⟩
theorem lw_p88 : lw_okq (⟨"HoldCheckerModel", "yes", "(III)I"⟩, 50) := ⟨⟨by decide +kernel, by decide +kernel⟩, List.mem_of_getElem? (i := 1078) (by decide +kernel), List.mem_of_getElem? (i := 1408) (by decide +kernel), List.mem_of_getElem? (i := 1409) (by decide +kernel)⟩
theorem lw_p89 : lw_okq (⟨"HoldCheckerModel", "no", "(III)I"⟩, 50) := ⟨⟨by decide +kernel, by decide +kernel⟩, List.mem_of_getElem? (i := 1078) (by decide +kernel), List.mem_of_getElem? (i := 1412) (by decide +kernel), List.mem_of_getElem? (i := 1413) (by decide +kernel)⟩
theorem lw_p90 : lw_okq (⟨"HoldCheckerModel", "isMethod", "(II)Z"⟩, 50) := ⟨⟨by decide +kernel, by decide +kernel⟩, List.mem_of_getElem? (i := 1078) (by decide +kernel), List.mem_of_getElem? (i := 1420) (by decide +kernel), List.mem_of_getElem? (i := 1421) (by decide +kernel)⟩
theorem lw_p91 : lw_okq (⟨"HoldCheckerModel", "canSet", "(II)I"⟩, 50) := ⟨⟨by decide +kernel, by decide +kernel⟩, List.mem_of_getElem? (i := 1078) (by decide +kernel), List.mem_of_getElem? (i := 1424) (by decide +kernel), List.mem_of_getElem? (i := 1425) (by decide +kernel)⟩
theorem lw_p92 : lw_okq (⟨"HoldCheckerModel", "isState", "(II)Z"⟩, 50) := ⟨⟨by decide +kernel, by decide +kernel⟩, List.mem_of_getElem? (i := 1078) (by decide +kernel), List.mem_of_getElem? (i := 1432) (by decide +kernel), List.mem_of_getElem? (i := 1433) (by decide +kernel)⟩
theorem lw_p93 : lw_okq (⟨"HoldCheckerModel", "laysEnds", "(I)V"⟩, 50) := ⟨⟨by decide +kernel, by decide +kernel⟩, List.mem_of_getElem? (i := 1078) (by decide +kernel), List.mem_of_getElem? (i := 1444) (by decide +kernel), List.mem_of_getElem? (i := 1445) (by decide +kernel)⟩
theorem lw_p94 : lw_okq (⟨"HoldCheckerModel", "isEnd", "(II)Z"⟩, 50) := ⟨⟨by decide +kernel, by decide +kernel⟩, List.mem_of_getElem? (i := 1078) (by decide +kernel), List.mem_of_getElem? (i := 1448) (by decide +kernel), List.mem_of_getElem? (i := 1449) (by decide +kernel)⟩
theorem lw_p95 : lw_okq (⟨"HoldCheckerModel", "leastOf", "(III)I"⟩, 50) := ⟨⟨by decide +kernel, by decide +kernel⟩, List.mem_of_getElem? (i := 1078) (by decide +kernel), List.mem_of_getElem? (i := 1452) (by decide +kernel), List.mem_of_getElem? (i := 1453) (by decide +kernel)⟩
def lw_privs_6 : List (MethodName × Nat) := [(⟨"HoldCheckerModel", "readVariable", "()Z"⟩, 50), (⟨"HoldCheckerModel", "readOther", "(I)Z"⟩, 50), (⟨"HoldCheckerModel", "readMethod", "(IZ)Z"⟩, 50), (⟨"HoldCheckerModel", "readBlock", "(III)Z"⟩, 50), (⟨"HoldCheckerModel", "gives", "(I)I"⟩, 50), (⟨"HoldCheckerModel", "isKind", "(I)Z"⟩, 50), (⟨"HoldCheckerModel", "reached", "(II)I"⟩, 50), (⟨"HoldCheckerModel", "canBe", "(III)Z"⟩, 50), (⟨"HoldCheckerModel", "yes", "(III)I"⟩, 50), (⟨"HoldCheckerModel", "no", "(III)I"⟩, 50), (⟨"HoldCheckerModel", "isMethod", "(II)Z"⟩, 50), (⟨"HoldCheckerModel", "canSet", "(II)I"⟩, 50), (⟨"HoldCheckerModel", "isState", "(II)Z"⟩, 50), (⟨"HoldCheckerModel", "laysEnds", "(I)V"⟩, 50), (⟨"HoldCheckerModel", "isEnd", "(II)Z"⟩, 50), (⟨"HoldCheckerModel", "leastOf", "(III)I"⟩, 50)]
theorem lw_r6 : ∀ q ∈ lw_privs_6, lw_okq q := List.forall_mem_cons.mpr ⟨lw_p80, List.forall_mem_cons.mpr ⟨lw_p81, List.forall_mem_cons.mpr ⟨lw_p82, List.forall_mem_cons.mpr ⟨lw_p83, List.forall_mem_cons.mpr ⟨lw_p84, List.forall_mem_cons.mpr ⟨lw_p85, List.forall_mem_cons.mpr ⟨lw_p86, List.forall_mem_cons.mpr ⟨lw_p87, List.forall_mem_cons.mpr ⟨lw_p88, List.forall_mem_cons.mpr ⟨lw_p89, List.forall_mem_cons.mpr ⟨lw_p90, List.forall_mem_cons.mpr ⟨lw_p91, List.forall_mem_cons.mpr ⟨lw_p92, List.forall_mem_cons.mpr ⟨lw_p93, List.forall_mem_cons.mpr ⟨lw_p94, List.forall_mem_cons.mpr ⟨lw_p95, fun _ h => absurd h List.not_mem_nil⟩⟩⟩⟩⟩⟩⟩⟩⟩⟩⟩⟩⟩⟩⟩⟩
theorem lw_p96 : lw_okq (⟨"HoldCheckerModel", "differ", "(III)Z"⟩, 50) := ⟨⟨by decide +kernel, by decide +kernel⟩, List.mem_of_getElem? (i := 1078) (by decide +kernel), List.mem_of_getElem? (i := 1467) (by decide +kernel), List.mem_of_getElem? (i := 1468) (by decide +kernel)⟩
theorem lw_p97 : lw_okq (⟨"HoldCheckerModel", "isStatementAt", "(I)Z"⟩, 50) := ⟨⟨by decide +kernel, by decide +kernel⟩, List.mem_of_getElem? (i := 1078) (by decide +kernel), List.mem_of_getElem? (i := 1480) (by decide +kernel), List.mem_of_getElem? (i := 1481) (by decide +kernel)⟩
theorem lw_p98 : lw_okq (⟨"HoldCheckerModel", "statements", "()I"⟩, 50) := ⟨⟨by decide +kernel, by decide +kernel⟩, List.mem_of_getElem? (i := 1078) (by decide +kernel), List.mem_of_getElem? (i := 1484) (by decide +kernel), List.mem_of_getElem? (i := 1485) (by decide +kernel)⟩
theorem lw_p99 : lw_okq (⟨"HoldCheckerModel", "allIn", "()V"⟩, 50) := ⟨⟨by decide +kernel, by decide +kernel⟩, List.mem_of_getElem? (i := 1078) (by decide +kernel), List.mem_of_getElem? (i := 1488) (by decide +kernel), List.mem_of_getElem? (i := 1489) (by decide +kernel)⟩
theorem lw_p100 : lw_okq (⟨"HoldCheckerModel", "sortAt", "(I)I"⟩, 50) := ⟨⟨by decide +kernel, by decide +kernel⟩, List.mem_of_getElem? (i := 1078) (by decide +kernel), List.mem_of_getElem? (i := 1492) (by decide +kernel), List.mem_of_getElem? (i := 1493) (by decide +kernel)⟩
theorem lw_p101 : lw_okq (⟨"HoldCheckerModel", "byYes", "(I)I"⟩, 50) := ⟨⟨by decide +kernel, by decide +kernel⟩, List.mem_of_getElem? (i := 1078) (by decide +kernel), List.mem_of_getElem? (i := 1496) (by decide +kernel), List.mem_of_getElem? (i := 1497) (by decide +kernel)⟩
theorem lw_p102 : lw_okq (⟨"HoldCheckerModel", "behind", "(I)I"⟩, 50) := ⟨⟨by decide +kernel, by decide +kernel⟩, List.mem_of_getElem? (i := 1078) (by decide +kernel), List.mem_of_getElem? (i := 1500) (by decide +kernel), List.mem_of_getElem? (i := 1501) (by decide +kernel)⟩
theorem lw_p103 : lw_okq (⟨"HoldCheckerModel", "nextIn", "(III)I"⟩, 50) := ⟨⟨by decide +kernel, by decide +kernel⟩, List.mem_of_getElem? (i := 1078) (by decide +kernel), List.mem_of_getElem? (i := 1504) (by decide +kernel), List.mem_of_getElem? (i := 1505) (by decide +kernel)⟩
theorem lw_p104 : lw_okq (⟨"HoldCheckerModel", "isRound", "(I)Z"⟩, 50) := ⟨⟨by decide +kernel, by decide +kernel⟩, List.mem_of_getElem? (i := 1078) (by decide +kernel), List.mem_of_getElem? (i := 1508) (by decide +kernel), List.mem_of_getElem? (i := 1509) (by decide +kernel)⟩
theorem lw_p105 : lw_okq (⟨"HoldCheckerModel", "byNo", "(I)I"⟩, 50) := ⟨⟨by decide +kernel, by decide +kernel⟩, List.mem_of_getElem? (i := 1078) (by decide +kernel), List.mem_of_getElem? (i := 1512) (by decide +kernel), List.mem_of_getElem? (i := 1513) (by decide +kernel)⟩
theorem lw_p106 : lw_okq (⟨"HoldCheckerModel", "isVariable", "(I)Z"⟩, 50) := ⟨⟨by decide +kernel, by decide +kernel⟩, List.mem_of_getElem? (i := 1078) (by decide +kernel), List.mem_of_getElem? (i := 1520) (by decide +kernel), List.mem_of_getElem? (i := 1521) (by decide +kernel)⟩
theorem lw_p107 : lw_okq (⟨"HoldCheckerModel", "checksAll", "()V"⟩, 50) := ⟨⟨by decide +kernel, by decide +kernel⟩, List.mem_of_getElem? (i := 1078) (by decide +kernel), List.mem_of_getElem? (i := 1528) (by decide +kernel), List.mem_of_getElem? (i := 1529) (by decide +kernel)⟩
theorem lw_p108 : lw_okq (⟨"HoldCheckerModel", "checks", "()V"⟩, 50) := ⟨⟨by decide +kernel, by decide +kernel⟩, List.mem_of_getElem? (i := 1078) (by decide +kernel), List.mem_of_getElem? (i := 1532) (by decide +kernel), List.mem_of_getElem? (i := 1533) (by decide +kernel)⟩
theorem lw_p109 : lw_okq (⟨"HoldCheckerModel", "firstPlace", "()I"⟩, 50) := ⟨⟨by decide +kernel, by decide +kernel⟩, List.mem_of_getElem? (i := 1078) (by decide +kernel), List.mem_of_getElem? (i := 1536) (by decide +kernel), List.mem_of_getElem? (i := 1537) (by decide +kernel)⟩
theorem lw_p110 : lw_okq (⟨"HoldCheckerModel", "merges", "(I)V"⟩, 50) := ⟨⟨by decide +kernel, by decide +kernel⟩, List.mem_of_getElem? (i := 1078) (by decide +kernel), List.mem_of_getElem? (i := 1540) (by decide +kernel), List.mem_of_getElem? (i := 1541) (by decide +kernel)⟩
theorem lw_p111 : lw_okq (⟨"HoldCheckerModel", "passes", "(I)V"⟩, 50) := ⟨⟨by decide +kernel, by decide +kernel⟩, List.mem_of_getElem? (i := 1078) (by decide +kernel), List.mem_of_getElem? (i := 1547) (by decide +kernel), List.mem_of_getElem? (i := 1548) (by decide +kernel)⟩
def lw_privs_7 : List (MethodName × Nat) := [(⟨"HoldCheckerModel", "differ", "(III)Z"⟩, 50), (⟨"HoldCheckerModel", "isStatementAt", "(I)Z"⟩, 50), (⟨"HoldCheckerModel", "statements", "()I"⟩, 50), (⟨"HoldCheckerModel", "allIn", "()V"⟩, 50), (⟨"HoldCheckerModel", "sortAt", "(I)I"⟩, 50), (⟨"HoldCheckerModel", "byYes", "(I)I"⟩, 50), (⟨"HoldCheckerModel", "behind", "(I)I"⟩, 50), (⟨"HoldCheckerModel", "nextIn", "(III)I"⟩, 50), (⟨"HoldCheckerModel", "isRound", "(I)Z"⟩, 50), (⟨"HoldCheckerModel", "byNo", "(I)I"⟩, 50), (⟨"HoldCheckerModel", "isVariable", "(I)Z"⟩, 50), (⟨"HoldCheckerModel", "checksAll", "()V"⟩, 50), (⟨"HoldCheckerModel", "checks", "()V"⟩, 50), (⟨"HoldCheckerModel", "firstPlace", "()I"⟩, 50), (⟨"HoldCheckerModel", "merges", "(I)V"⟩, 50), (⟨"HoldCheckerModel", "passes", "(I)V"⟩, 50)]
theorem lw_r7 : ∀ q ∈ lw_privs_7, lw_okq q := List.forall_mem_cons.mpr ⟨lw_p96, List.forall_mem_cons.mpr ⟨lw_p97, List.forall_mem_cons.mpr ⟨lw_p98, List.forall_mem_cons.mpr ⟨lw_p99, List.forall_mem_cons.mpr ⟨lw_p100, List.forall_mem_cons.mpr ⟨lw_p101, List.forall_mem_cons.mpr ⟨lw_p102, List.forall_mem_cons.mpr ⟨lw_p103, List.forall_mem_cons.mpr ⟨lw_p104, List.forall_mem_cons.mpr ⟨lw_p105, List.forall_mem_cons.mpr ⟨lw_p106, List.forall_mem_cons.mpr ⟨lw_p107, List.forall_mem_cons.mpr ⟨lw_p108, List.forall_mem_cons.mpr ⟨lw_p109, List.forall_mem_cons.mpr ⟨lw_p110, List.forall_mem_cons.mpr ⟨lw_p111, fun _ h => absurd h List.not_mem_nil⟩⟩⟩⟩⟩⟩⟩⟩⟩⟩⟩⟩⟩⟩⟩⟩
theorem lw_p112 : lw_okq (⟨"HoldCheckerModel", "takes", "(I)V"⟩, 50) := ⟨⟨by decide +kernel, by decide +kernel⟩, List.mem_of_getElem? (i := 1078) (by decide +kernel), List.mem_of_getElem? (i := 1551) (by decide +kernel), List.mem_of_getElem? (i := 1552) (by decide +kernel)⟩
theorem lw_p113 : lw_okq (⟨"HoldCheckerModel", "goes", "(I)V"⟩, 50) := ⟨⟨by decide +kernel, by decide +kernel⟩, List.mem_of_getElem? (i := 1078) (by decide +kernel), List.mem_of_getElem? (i := 1555) (by decide +kernel), List.mem_of_getElem? (i := 1556) (by decide +kernel)⟩
theorem lw_p114 : lw_okq (⟨"HoldCheckerModel", "empties", "(I)V"⟩, 50) := ⟨⟨by decide +kernel, by decide +kernel⟩, List.mem_of_getElem? (i := 1078) (by decide +kernel), List.mem_of_getElem? (i := 1559) (by decide +kernel), List.mem_of_getElem? (i := 1560) (by decide +kernel)⟩
theorem lw_p115 : lw_okq (⟨"HoldCheckerModel", "frees", "(I)V"⟩, 50) := ⟨⟨by decide +kernel, by decide +kernel⟩, List.mem_of_getElem? (i := 1078) (by decide +kernel), List.mem_of_getElem? (i := 1563) (by decide +kernel), List.mem_of_getElem? (i := 1564) (by decide +kernel)⟩
theorem lw_p116 : lw_okq (⟨"HoldCheckerModel", "joins", "(IIZ)V"⟩, 50) := ⟨⟨by decide +kernel, by decide +kernel⟩, List.mem_of_getElem? (i := 1078) (by decide +kernel), List.mem_of_getElem? (i := 1567) (by decide +kernel), List.mem_of_getElem? (i := 1568) (by decide +kernel)⟩
theorem lw_p117 : lw_okq (⟨"HoldCheckerModel", "asks", "(IZ)Z"⟩, 50) := ⟨⟨by decide +kernel, by decide +kernel⟩, List.mem_of_getElem? (i := 1078) (by decide +kernel), List.mem_of_getElem? (i := 1571) (by decide +kernel), List.mem_of_getElem? (i := 1572) (by decide +kernel)⟩
theorem lw_p118 : lw_okq (⟨"HoldCheckerModel", "imageOf", "(IIIZ)I"⟩, 50) := ⟨⟨by decide +kernel, by decide +kernel⟩, List.mem_of_getElem? (i := 1078) (by decide +kernel), List.mem_of_getElem? (i := 1575) (by decide +kernel), List.mem_of_getElem? (i := 1576) (by decide +kernel)⟩
theorem lw_p119 : lw_okq (⟨"HoldCheckerModel", "whyAt", "(I)I"⟩, 50) := ⟨⟨by decide +kernel, by decide +kernel⟩, List.mem_of_getElem? (i := 1078) (by decide +kernel), List.mem_of_getElem? (i := 1579) (by decide +kernel), List.mem_of_getElem? (i := 1580) (by decide +kernel)⟩
theorem lw_p120 : lw_okq (⟨"HoldCheckerModel", "endsOf", "(I)I"⟩, 50) := ⟨⟨by decide +kernel, by decide +kernel⟩, List.mem_of_getElem? (i := 1078) (by decide +kernel), List.mem_of_getElem? (i := 1583) (by decide +kernel), List.mem_of_getElem? (i := 1584) (by decide +kernel)⟩
theorem lw_p121 : lw_okq (⟨"HoldCheckerModel", "isPlace", "(I)Z"⟩, 50) := ⟨⟨by decide +kernel, by decide +kernel⟩, List.mem_of_getElem? (i := 1078) (by decide +kernel), List.mem_of_getElem? (i := 1591) (by decide +kernel), List.mem_of_getElem? (i := 1592) (by decide +kernel)⟩
theorem lw_p122 : lw_okq (⟨"HoldCheckerModel", "isMended", "(I)Z"⟩, 50) := ⟨⟨by decide +kernel, by decide +kernel⟩, List.mem_of_getElem? (i := 1078) (by decide +kernel), List.mem_of_getElem? (i := 1599) (by decide +kernel), List.mem_of_getElem? (i := 1600) (by decide +kernel)⟩
theorem lw_p123 : lw_okq (⟨"HoldCheckerModel", "laysPaths", "()V"⟩, 50) := ⟨⟨by decide +kernel, by decide +kernel⟩, List.mem_of_getElem? (i := 1078) (by decide +kernel), List.mem_of_getElem? (i := 1611) (by decide +kernel), List.mem_of_getElem? (i := 1612) (by decide +kernel)⟩
theorem lw_p124 : lw_okq (⟨"HoldCheckerModel", "empty", "()V"⟩, 50) := ⟨⟨by decide +kernel, by decide +kernel⟩, List.mem_of_getElem? (i := 1078) (by decide +kernel), List.mem_of_getElem? (i := 1615) (by decide +kernel), List.mem_of_getElem? (i := 1616) (by decide +kernel)⟩
theorem lw_p125 : lw_okq (⟨"HoldCheckerModel", "lets", "(I)V"⟩, 50) := ⟨⟨by decide +kernel, by decide +kernel⟩, List.mem_of_getElem? (i := 1078) (by decide +kernel), List.mem_of_getElem? (i := 1619) (by decide +kernel), List.mem_of_getElem? (i := 1620) (by decide +kernel)⟩
theorem lw_p126 : lw_okq (⟨"HoldCheckerModel", "adds", "(II)V"⟩, 50) := ⟨⟨by decide +kernel, by decide +kernel⟩, List.mem_of_getElem? (i := 1078) (by decide +kernel), List.mem_of_getElem? (i := 1623) (by decide +kernel), List.mem_of_getElem? (i := 1624) (by decide +kernel)⟩
theorem lw_p127 : lw_okq (⟨"HoldCheckerModel", "codeOf", "(I)J"⟩, 50) := ⟨⟨by decide +kernel, by decide +kernel⟩, List.mem_of_getElem? (i := 1078) (by decide +kernel), List.mem_of_getElem? (i := 1627) (by decide +kernel), List.mem_of_getElem? (i := 1628) (by decide +kernel)⟩
def lw_privs_8 : List (MethodName × Nat) := [(⟨"HoldCheckerModel", "takes", "(I)V"⟩, 50), (⟨"HoldCheckerModel", "goes", "(I)V"⟩, 50), (⟨"HoldCheckerModel", "empties", "(I)V"⟩, 50), (⟨"HoldCheckerModel", "frees", "(I)V"⟩, 50), (⟨"HoldCheckerModel", "joins", "(IIZ)V"⟩, 50), (⟨"HoldCheckerModel", "asks", "(IZ)Z"⟩, 50), (⟨"HoldCheckerModel", "imageOf", "(IIIZ)I"⟩, 50), (⟨"HoldCheckerModel", "whyAt", "(I)I"⟩, 50), (⟨"HoldCheckerModel", "endsOf", "(I)I"⟩, 50), (⟨"HoldCheckerModel", "isPlace", "(I)Z"⟩, 50), (⟨"HoldCheckerModel", "isMended", "(I)Z"⟩, 50), (⟨"HoldCheckerModel", "laysPaths", "()V"⟩, 50), (⟨"HoldCheckerModel", "empty", "()V"⟩, 50), (⟨"HoldCheckerModel", "lets", "(I)V"⟩, 50), (⟨"HoldCheckerModel", "adds", "(II)V"⟩, 50), (⟨"HoldCheckerModel", "codeOf", "(I)J"⟩, 50)]
theorem lw_r8 : ∀ q ∈ lw_privs_8, lw_okq q := List.forall_mem_cons.mpr ⟨lw_p112, List.forall_mem_cons.mpr ⟨lw_p113, List.forall_mem_cons.mpr ⟨lw_p114, List.forall_mem_cons.mpr ⟨lw_p115, List.forall_mem_cons.mpr ⟨lw_p116, List.forall_mem_cons.mpr ⟨lw_p117, List.forall_mem_cons.mpr ⟨lw_p118, List.forall_mem_cons.mpr ⟨lw_p119, List.forall_mem_cons.mpr ⟨lw_p120, List.forall_mem_cons.mpr ⟨lw_p121, List.forall_mem_cons.mpr ⟨lw_p122, List.forall_mem_cons.mpr ⟨lw_p123, List.forall_mem_cons.mpr ⟨lw_p124, List.forall_mem_cons.mpr ⟨lw_p125, List.forall_mem_cons.mpr ⟨lw_p126, List.forall_mem_cons.mpr ⟨lw_p127, fun _ h => absurd h List.not_mem_nil⟩⟩⟩⟩⟩⟩⟩⟩⟩⟩⟩⟩⟩⟩⟩⟩
theorem lw_p128 : lw_okq (⟨"HoldCheckerModel", "explores", "(I)V"⟩, 50) := ⟨⟨by decide +kernel, by decide +kernel⟩, List.mem_of_getElem? (i := 1078) (by decide +kernel), List.mem_of_getElem? (i := 1631) (by decide +kernel), List.mem_of_getElem? (i := 1632) (by decide +kernel)⟩
theorem lw_p129 : lw_okq (⟨"HoldCheckerModel", "lays", "(J)I"⟩, 50) := ⟨⟨by decide +kernel, by decide +kernel⟩, List.mem_of_getElem? (i := 1078) (by decide +kernel), List.mem_of_getElem? (i := 1635) (by decide +kernel), List.mem_of_getElem? (i := 1636) (by decide +kernel)⟩
theorem lw_p130 : lw_okq (⟨"HoldCheckerModel", "things", "()I"⟩, 50) := ⟨⟨by decide +kernel, by decide +kernel⟩, List.mem_of_getElem? (i := 1078) (by decide +kernel), List.mem_of_getElem? (i := 1639) (by decide +kernel), List.mem_of_getElem? (i := 1640) (by decide +kernel)⟩
theorem lw_p131 : lw_okq (⟨"HoldCheckerModel", "finishes", "()I"⟩, 50) := ⟨⟨by decide +kernel, by decide +kernel⟩, List.mem_of_getElem? (i := 1078) (by decide +kernel), List.mem_of_getElem? (i := 1644) (by decide +kernel), List.mem_of_getElem? (i := 1645) (by decide +kernel)⟩
theorem lw_p132 : lw_okq (⟨"HoldCheckerModel", "does", "(IZI)I"⟩, 50) := ⟨⟨by decide +kernel, by decide +kernel⟩, List.mem_of_getElem? (i := 1078) (by decide +kernel), List.mem_of_getElem? (i := 1648) (by decide +kernel), List.mem_of_getElem? (i := 1649) (by decide +kernel)⟩
theorem lw_p133 : lw_okq (⟨"HoldCheckerModel", "gets", "(III)I"⟩, 50) := ⟨⟨by decide +kernel, by decide +kernel⟩, List.mem_of_getElem? (i := 1078) (by decide +kernel), List.mem_of_getElem? (i := 1652) (by decide +kernel), List.mem_of_getElem? (i := 1653) (by decide +kernel)⟩
theorem lw_p134 : lw_okq (⟨"HoldCheckerModel", "isAlone", "(I)Z"⟩, 50) := ⟨⟨by decide +kernel, by decide +kernel⟩, List.mem_of_getElem? (i := 1078) (by decide +kernel), List.mem_of_getElem? (i := 1656) (by decide +kernel), List.mem_of_getElem? (i := 1657) (by decide +kernel)⟩
theorem lw_p135 : lw_okq (⟨"HoldCheckerModel", "drops", "(I)I"⟩, 50) := ⟨⟨by decide +kernel, by decide +kernel⟩, List.mem_of_getElem? (i := 1078) (by decide +kernel), List.mem_of_getElem? (i := 1660) (by decide +kernel), List.mem_of_getElem? (i := 1661) (by decide +kernel)⟩
theorem lw_p136 : lw_okq (⟨"HoldCheckerModel", "firstWrong", "()I"⟩, 50) := ⟨⟨by decide +kernel, by decide +kernel⟩, List.mem_of_getElem? (i := 1078) (by decide +kernel), List.mem_of_getElem? (i := 1664) (by decide +kernel), List.mem_of_getElem? (i := 1665) (by decide +kernel)⟩
theorem lw_p137 : lw_okq (⟨"HoldCheckerModel", "placeOf", "(I)I"⟩, 50) := ⟨⟨by decide +kernel, by decide +kernel⟩, List.mem_of_getElem? (i := 1078) (by decide +kernel), List.mem_of_getElem? (i := 1668) (by decide +kernel), List.mem_of_getElem? (i := 1669) (by decide +kernel)⟩
theorem lw_p138 : lw_okq (⟨"HoldCheckerModel", "stepsTo", "(I)I"⟩, 50) := ⟨⟨by decide +kernel, by decide +kernel⟩, List.mem_of_getElem? (i := 1078) (by decide +kernel), List.mem_of_getElem? (i := 1672) (by decide +kernel), List.mem_of_getElem? (i := 1673) (by decide +kernel)⟩
theorem lw_p139 : lw_okq (⟨"HoldCheckerModel", "onesWith", "(I)I"⟩, 50) := ⟨⟨by decide +kernel, by decide +kernel⟩, List.mem_of_getElem? (i := 1078) (by decide +kernel), List.mem_of_getElem? (i := 1684) (by decide +kernel), List.mem_of_getElem? (i := 1685) (by decide +kernel)⟩
theorem lw_p140 : lw_okq (⟨"HoldCheckerModel", "runsBy", "(I)V"⟩, 50) := ⟨⟨by decide +kernel, by decide +kernel⟩, List.mem_of_getElem? (i := 1078) (by decide +kernel), List.mem_of_getElem? (i := 1701) (by decide +kernel), List.mem_of_getElem? (i := 1702) (by decide +kernel)⟩
theorem lw_p141 : lw_okq (⟨"HoldCheckerModel", "stands", "()I"⟩, 50) := ⟨⟨by decide +kernel, by decide +kernel⟩, List.mem_of_getElem? (i := 1078) (by decide +kernel), List.mem_of_getElem? (i := 1705) (by decide +kernel), List.mem_of_getElem? (i := 1706) (by decide +kernel)⟩
theorem lw_p142 : lw_okq (⟨"HoldCheckerModel", "drawsYes", "()Z"⟩, 50) := ⟨⟨by decide +kernel, by decide +kernel⟩, List.mem_of_getElem? (i := 1078) (by decide +kernel), List.mem_of_getElem? (i := 1709) (by decide +kernel), List.mem_of_getElem? (i := 1710) (by decide +kernel)⟩
theorem lw_p143 : lw_okq (⟨"HoldCheckerModel", "asksWrong", "(I)I"⟩, 50) := ⟨⟨by decide +kernel, by decide +kernel⟩, List.mem_of_getElem? (i := 1078) (by decide +kernel), List.mem_of_getElem? (i := 1714) (by decide +kernel), List.mem_of_getElem? (i := 1715) (by decide +kernel)⟩
def lw_privs_9 : List (MethodName × Nat) := [(⟨"HoldCheckerModel", "explores", "(I)V"⟩, 50), (⟨"HoldCheckerModel", "lays", "(J)I"⟩, 50), (⟨"HoldCheckerModel", "things", "()I"⟩, 50), (⟨"HoldCheckerModel", "finishes", "()I"⟩, 50), (⟨"HoldCheckerModel", "does", "(IZI)I"⟩, 50), (⟨"HoldCheckerModel", "gets", "(III)I"⟩, 50), (⟨"HoldCheckerModel", "isAlone", "(I)Z"⟩, 50), (⟨"HoldCheckerModel", "drops", "(I)I"⟩, 50), (⟨"HoldCheckerModel", "firstWrong", "()I"⟩, 50), (⟨"HoldCheckerModel", "placeOf", "(I)I"⟩, 50), (⟨"HoldCheckerModel", "stepsTo", "(I)I"⟩, 50), (⟨"HoldCheckerModel", "onesWith", "(I)I"⟩, 50), (⟨"HoldCheckerModel", "runsBy", "(I)V"⟩, 50), (⟨"HoldCheckerModel", "stands", "()I"⟩, 50), (⟨"HoldCheckerModel", "drawsYes", "()Z"⟩, 50), (⟨"HoldCheckerModel", "asksWrong", "(I)I"⟩, 50)]
theorem lw_r9 : ∀ q ∈ lw_privs_9, lw_okq q := List.forall_mem_cons.mpr ⟨lw_p128, List.forall_mem_cons.mpr ⟨lw_p129, List.forall_mem_cons.mpr ⟨lw_p130, List.forall_mem_cons.mpr ⟨lw_p131, List.forall_mem_cons.mpr ⟨lw_p132, List.forall_mem_cons.mpr ⟨lw_p133, List.forall_mem_cons.mpr ⟨lw_p134, List.forall_mem_cons.mpr ⟨lw_p135, List.forall_mem_cons.mpr ⟨lw_p136, List.forall_mem_cons.mpr ⟨lw_p137, List.forall_mem_cons.mpr ⟨lw_p138, List.forall_mem_cons.mpr ⟨lw_p139, List.forall_mem_cons.mpr ⟨lw_p140, List.forall_mem_cons.mpr ⟨lw_p141, List.forall_mem_cons.mpr ⟨lw_p142, List.forall_mem_cons.mpr ⟨lw_p143, fun _ h => absurd h List.not_mem_nil⟩⟩⟩⟩⟩⟩⟩⟩⟩⟩⟩⟩⟩⟩⟩⟩
def lw_privs : List (MethodName × Nat) := lw_privs_1 ++ (lw_privs_2 ++ (lw_privs_3 ++ (lw_privs_4 ++ (lw_privs_5 ++ (lw_privs_6 ++ (lw_privs_7 ++ (lw_privs_8 ++ (lw_privs_9))))))))
def lw_tbl : List Cond := k2_sels lw_privs ++ tables_1
theorem lw_privs_ok : ∀ q ∈ lw_privs, lw_okq q := by
  show ∀ q ∈ lw_privs_1 ++ (lw_privs_2 ++ (lw_privs_3 ++ (lw_privs_4 ++ (lw_privs_5 ++ (lw_privs_6 ++ (lw_privs_7 ++ (lw_privs_8 ++ (lw_privs_9)))))))), lw_okq q
  exact List.forall_mem_append.mpr ⟨lw_r1, List.forall_mem_append.mpr ⟨lw_r2, List.forall_mem_append.mpr ⟨lw_r3, List.forall_mem_append.mpr ⟨lw_r4, List.forall_mem_append.mpr ⟨lw_r5, List.forall_mem_append.mpr ⟨lw_r6, List.forall_mem_append.mpr ⟨lw_r7, List.forall_mem_append.mpr ⟨lw_r8, lw_r9⟩⟩⟩⟩⟩⟩⟩⟩
def RX0 : String := "HoldChecker$Flow"
def TX0 : u_T := fun k => match k with
  | 0 => ("HoldChecker$Flow", "holds", "[LHoldChecker$Hold;", true)
  | 1 => ("HoldChecker$Flow", "canCome", "[Z", true)
  | 2 => ("HoldChecker$Flow", "reasons", "[I", true)
  | 3 => ("HoldChecker$Flow", "wrongPlaces", "I", false)
  | 4 => ("HoldChecker$Flow", "firstWrong", "I", false)
  | 5 => ("HoldChecker$Flow", "comingPlaces", "I", false)
  | 6 => ("HoldChecker$Flow", "fresh", "[Z", true)
  | _ => ("HoldChecker$Flow", "now", "LHoldChecker$Hold;", true)
def tyX0 : Nat → FieldType := fun k => match k with
  | 0 => .array (.object "HoldChecker$Hold")
  | 1 => .array .boolean
  | 2 => .array .int
  | 3 => .int
  | 4 => .int
  | 5 => .int
  | 6 => .array .boolean
  | _ => .object "HoldChecker$Hold"
theorem nmX0 : ∀ a, a < 8 → ∀ b, b < 8 → a ≠ b → (TX0 a).2.1 ≠ (TX0 b).2.1 := by decide +kernel
theorem tyX0_ok : ∀ k, k < 8 → parseFieldDescriptor (TX0 k).2.2.1 = some (tyX0 k) := by decide +kernel
abbrev cX0_init : ByteArray := prog_2_method_1_code
def yX0_init : MethodName := ⟨RX0, "<init>", "()V"⟩
abbrev cX0_firstReason : ByteArray := prog_2_method_2_code
def yX0_firstReason : MethodName := ⟨RX0, "firstReason", "()I"⟩
abbrev cX0_solve : ByteArray := prog_2_method_3_code
def yX0_solve : MethodName := ⟨RX0, "solve", "(LHoldChecker$Program;I)V"⟩
abbrev cX0_goOn : ByteArray := prog_2_method_4_code
def yX0_goOn : MethodName := ⟨RX0, "goOn", "(LHoldChecker$Program;IZ)V"⟩
abbrev cX0_arrive : ByteArray := prog_2_method_5_code
def yX0_arrive : MethodName := ⟨RX0, "arrive", "(I)V"⟩
abbrev cX0_judge : ByteArray := prog_2_method_6_code
def yX0_judge : MethodName := ⟨RX0, "judge", "(LHoldChecker$Program;I)V"⟩
def RX1 : String := "HoldChecker$Hold"
def TX1 : u_T := fun k => match k with
  | _ => ("HoldChecker$Hold", "bits", "[I", true)
def tyX1 : Nat → FieldType := fun k => match k with
  | _ => .array .int
theorem nmX1 : ∀ a, a < 1 → ∀ b, b < 1 → a ≠ b → (TX1 a).2.1 ≠ (TX1 b).2.1 := by decide +kernel
theorem tyX1_ok : ∀ k, k < 1 → parseFieldDescriptor (TX1 k).2.2.1 = some (tyX1 k) := by decide +kernel
abbrev cX1_init : ByteArray := prog_3_method_1_code
def yX1_init : MethodName := ⟨RX1, "<init>", "()V"⟩
abbrev cX1_part : ByteArray := prog_3_method_2_code
def yX1_part : MethodName := ⟨RX1, "part", "(II)I"⟩
abbrev cX1_states : ByteArray := prog_3_method_3_code
def yX1_states : MethodName := ⟨RX1, "states", "(I)I"⟩
abbrev cX1_isAlone : ByteArray := prog_3_method_4_code
def yX1_isAlone : MethodName := ⟨RX1, "isAlone", "(I)Z"⟩
abbrev cX1_begin : ByteArray := prog_3_method_5_code
def yX1_begin : MethodName := ⟨RX1, "begin", "()V"⟩
abbrev cX1_copyFrom : ByteArray := prog_3_method_6_code
def yX1_copyFrom : MethodName := ⟨RX1, "copyFrom", "(LHoldChecker$Hold;)V"⟩
abbrev cX1_meet : ByteArray := prog_3_method_7_code
def yX1_meet : MethodName := ⟨RX1, "meet", "(LHoldChecker$Hold;)Z"⟩
abbrev cX1_things : ByteArray := prog_3_method_8_code
def yX1_things : MethodName := ⟨RX1, "things", "(I)I"⟩
abbrev cX1_reasonAt : ByteArray := prog_3_method_9_code
def yX1_reasonAt : MethodName := ⟨RX1, "reasonAt", "(LHoldChecker$Program;I)I"⟩
abbrev cX1_reasonAtEnd : ByteArray := prog_3_method_10_code
def yX1_reasonAtEnd : MethodName := ⟨RX1, "reasonAtEnd", "(LHoldChecker$Program;)I"⟩
abbrev cX1_reasonOfHow : ByteArray := prog_3_method_11_code
def yX1_reasonOfHow : MethodName := ⟨RX1, "reasonOfHow", "(I)I"⟩
abbrev cX1_reasonOfJoin : ByteArray := prog_3_method_12_code
def yX1_reasonOfJoin : MethodName := ⟨RX1, "reasonOfJoin", "(II)I"⟩
abbrev cX1_reasonOfDrop : ByteArray := prog_3_method_13_code
def yX1_reasonOfDrop : MethodName := ⟨RX1, "reasonOfDrop", "(LHoldChecker$Program;I)I"⟩
abbrev cX1_reasonOfAsking : ByteArray := prog_3_method_14_code
def yX1_reasonOfAsking : MethodName := ⟨RX1, "reasonOfAsking", "(LHoldChecker$Program;II)I"⟩
abbrev cX1_mayHold : ByteArray := prog_3_method_15_code
def yX1_mayHold : MethodName := ⟨RX1, "mayHold", "(I)Z"⟩
abbrev cX1_mayLack : ByteArray := prog_3_method_16_code
def yX1_mayLack : MethodName := ⟨RX1, "mayLack", "(I)Z"⟩
abbrev cX1_inNoEnd : ByteArray := prog_3_method_17_code
def yX1_inNoEnd : MethodName := ⟨RX1, "inNoEnd", "(LHoldChecker$Program;I)Z"⟩
abbrev cX1_pass : ByteArray := prog_3_method_18_code
def yX1_pass : MethodName := ⟨RX1, "pass", "(LHoldChecker$Program;IZ)Z"⟩
abbrev cX1_lookForWhole : ByteArray := prog_3_method_19_code
def yX1_lookForWhole : MethodName := ⟨RX1, "lookForWhole", "(I)I"⟩
abbrev cX1_passJoin : ByteArray := prog_3_method_20_code
def yX1_passJoin : MethodName := ⟨RX1, "passJoin", "(II)V"⟩
abbrev cX1_ask : ByteArray := prog_3_method_21_code
def yX1_ask : MethodName := ⟨RX1, "ask", "(LHoldChecker$Program;IIZ)Z"⟩
abbrev cX1_letGo : ByteArray := prog_3_method_22_code
def yX1_letGo : MethodName := ⟨RX1, "letGo", "(I)V"⟩
abbrev cX1_becomeLike : ByteArray := prog_3_method_23_code
def yX1_becomeLike : MethodName := ⟨RX1, "becomeLike", "(II)V"⟩
abbrev cX1_makeOne : ByteArray := prog_3_method_24_code
def yX1_makeOne : MethodName := ⟨RX1, "makeOne", "(II)V"⟩
abbrev cX1_key : ByteArray := prog_3_method_25_code
def yX1_key : MethodName := ⟨RX1, "key", "(I)J"⟩
abbrev cX1_placeOf : ByteArray := prog_3_method_26_code
def yX1_placeOf : MethodName := ⟨RX1, "placeOf", "(J)I"⟩
abbrev cX1_setFrom : ByteArray := prog_3_method_27_code
def yX1_setFrom : MethodName := ⟨RX1, "setFrom", "(J)V"⟩
abbrev cX1_keyPart : ByteArray := prog_3_method_28_code
def yX1_keyPart : MethodName := ⟨RX1, "keyPart", "(JI)I"⟩
abbrev cX1_lowestBit : ByteArray := prog_3_method_29_code
def yX1_lowestBit : MethodName := ⟨RX1, "lowestBit", "(I)I"⟩
def RX2 : String := "HoldChecker$Kinds"
def TX2 : u_T := fun k => match k with
  | 0 => ("HoldChecker$Kinds", "count", "I", false)
  | 1 => ("HoldChecker$Kinds", "states", "[I", true)
  | 2 => ("HoldChecker$Kinds", "ends", "[I", true)
  | 3 => ("HoldChecker$Kinds", "methods", "[I", true)
  | 4 => ("HoldChecker$Kinds", "sorts", "[I", true)
  | 5 => ("HoldChecker$Kinds", "can", "[I", true)
  | 6 => ("HoldChecker$Kinds", "byYes", "[I", true)
  | 7 => ("HoldChecker$Kinds", "byNo", "[I", true)
  | 8 => ("HoldChecker$Kinds", "steps", "[I", true)
  | 9 => ("HoldChecker$Kinds", "likes", "[I", true)
  | 10 => ("HoldChecker$Kinds", "ways", "[J", true)
  | _ => ("HoldChecker$Kinds", "longerWays", "[J", true)
def tyX2 : Nat → FieldType := fun k => match k with
  | 0 => .int
  | 1 => .array .int
  | 2 => .array .int
  | 3 => .array .int
  | 4 => .array .int
  | 5 => .array .int
  | 6 => .array .int
  | 7 => .array .int
  | 8 => .array .int
  | 9 => .array .int
  | 10 => .array .long
  | _ => .array .long
theorem nmX2 : ∀ a, a < 12 → ∀ b, b < 12 → a ≠ b → (TX2 a).2.1 ≠ (TX2 b).2.1 := by decide +kernel
theorem tyX2_ok : ∀ k, k < 12 → parseFieldDescriptor (TX2 k).2.2.1 = some (tyX2 k) := by decide +kernel
abbrev cX2_init : ByteArray := prog_4_method_1_code
def yX2_init : MethodName := ⟨RX2, "<init>", "()V"⟩
abbrev cX2_hasKind : ByteArray := prog_4_method_2_code
def yX2_hasKind : MethodName := ⟨RX2, "hasKind", "(I)Z"⟩
abbrev cX2_hasState : ByteArray := prog_4_method_3_code
def yX2_hasState : MethodName := ⟨RX2, "hasState", "(II)Z"⟩
abbrev cX2_hasMethod : ByteArray := prog_4_method_4_code
def yX2_hasMethod : MethodName := ⟨RX2, "hasMethod", "(II)Z"⟩
abbrev cX2_addKind : ByteArray := prog_4_method_5_code
def yX2_addKind : MethodName := ⟨RX2, "addKind", "()I"⟩
abbrev cX2_addMethod : ByteArray := prog_4_method_6_code
def yX2_addMethod : MethodName := ⟨RX2, "addMethod", "(II)I"⟩
abbrev cX2_sortOf : ByteArray := prog_4_method_7_code
def yX2_sortOf : MethodName := ⟨RX2, "sortOf", "(II)I"⟩
abbrev cX2_statesOf : ByteArray := prog_4_method_8_code
def yX2_statesOf : MethodName := ⟨RX2, "statesOf", "(II)I"⟩
abbrev cX2_canBe : ByteArray := prog_4_method_9_code
def yX2_canBe : MethodName := ⟨RX2, "canBe", "(III)Z"⟩
abbrev cX2_following : ByteArray := prog_4_method_10_code
def yX2_following : MethodName := ⟨RX2, "following", "(IIIZ)I"⟩
abbrev cX2_allow : ByteArray := prog_4_method_11_code
def yX2_allow : MethodName := ⟨RX2, "allow", "(IIIII)V"⟩
abbrev cX2_change : ByteArray := prog_4_method_12_code
def yX2_change : MethodName := ⟨RX2, "change", "(IIIZI)V"⟩
abbrev cX2_image : ByteArray := prog_4_method_13_code
def yX2_image : MethodName := ⟨RX2, "image", "(IIIZ)I"⟩
abbrev cX2_reachable : ByteArray := prog_4_method_14_code
def yX2_reachable : MethodName := ⟨RX2, "reachable", "(I)I"⟩
abbrev cX2_hopeless : ByteArray := prog_4_method_15_code
def yX2_hopeless : MethodName := ⟨RX2, "hopeless", "(I)I"⟩
abbrev cX2_stepsToEnd : ByteArray := prog_4_method_16_code
def yX2_stepsToEnd : MethodName := ⟨RX2, "stepsToEnd", "(II)I"⟩
abbrev cX2_measureSteps : ByteArray := prog_4_method_17_code
def yX2_measureSteps : MethodName := ⟨RX2, "measureSteps", "(I)V"⟩
abbrev cX2_methodTo : ByteArray := prog_4_method_18_code
def yX2_methodTo : MethodName := ⟨RX2, "methodTo", "(III)I"⟩
abbrev cX2_areAlike : ByteArray := prog_4_method_19_code
def yX2_areAlike : MethodName := ⟨RX2, "areAlike", "(III)Z"⟩
abbrev cX2_partUnlike : ByteArray := prog_4_method_20_code
def yX2_partUnlike : MethodName := ⟨RX2, "partUnlike", "(I)Z"⟩
abbrev cX2_differ : ByteArray := prog_4_method_21_code
def yX2_differ : MethodName := ⟨RX2, "differ", "(III)Z"⟩
abbrev cX2_comeUnlike : ByteArray := prog_4_method_22_code
def yX2_comeUnlike : MethodName := ⟨RX2, "comeUnlike", "(IIIIZ)Z"⟩
abbrev cX2_countRows : ByteArray := prog_4_method_23_code
def yX2_countRows : MethodName := ⟨RX2, "countRows", "(IIZ)I"⟩
abbrev cX2_lengthenWays : ByteArray := prog_4_method_24_code
def yX2_lengthenWays : MethodName := ⟨RX2, "lengthenWays", "(I)V"⟩
def RX3 : String := "HoldChecker$Parser"
def TX3 : u_T := fun k => match k with
  | 0 => ("HoldChecker$Parser", "tape", "LHoldChecker$Tape;", true)
  | 1 => ("HoldChecker$Parser", "faultSort", "I", false)
  | 2 => ("HoldChecker$Parser", "faultPlace", "I", false)
  | 3 => ("HoldChecker$Parser", "draft", "LHoldChecker$Program;", false)
  | 4 => ("HoldChecker$Parser", "kindNames", "[J", true)
  | 5 => ("HoldChecker$Parser", "stateNames", "[J", true)
  | 6 => ("HoldChecker$Parser", "methodNames", "[J", true)
  | 7 => ("HoldChecker$Parser", "variableNames", "[J", true)
  | 8 => ("HoldChecker$Parser", "openOnes", "[I", true)
  | 9 => ("HoldChecker$Parser", "inElse", "[Z", true)
  | _ => ("HoldChecker$Parser", "open", "I", false)
def tyX3 : Nat → FieldType := fun k => match k with
  | 0 => .object "HoldChecker$Tape"
  | 1 => .int
  | 2 => .int
  | 3 => .object "HoldChecker$Program"
  | 4 => .array .long
  | 5 => .array .long
  | 6 => .array .long
  | 7 => .array .long
  | 8 => .array .int
  | 9 => .array .boolean
  | _ => .int
theorem nmX3 : ∀ a, a < 11 → ∀ b, b < 11 → a ≠ b → (TX3 a).2.1 ≠ (TX3 b).2.1 := by decide +kernel
theorem tyX3_ok : ∀ k, k < 11 → parseFieldDescriptor (TX3 k).2.2.1 = some (tyX3 k) := by decide +kernel
abbrev cX3_init : ByteArray := prog_5_method_1_code
def yX3_init : MethodName := ⟨RX3, "<init>", "()V"⟩
abbrev cX3_handOver : ByteArray := prog_5_method_2_code
def yX3_handOver : MethodName := ⟨RX3, "handOver", "(LHoldChecker$Program;)LHoldChecker$Program;"⟩
abbrev cX3_parse : ByteArray := prog_5_method_3_code
def yX3_parse : MethodName := ⟨RX3, "parse", "(I)Z"⟩
abbrev cX3_atTheEnd : ByteArray := prog_5_method_4_code
def yX3_atTheEnd : MethodName := ⟨RX3, "atTheEnd", "()Z"⟩
abbrev cX3_readPiece : ByteArray := prog_5_method_5_code
def yX3_readPiece : MethodName := ⟨RX3, "readPiece", "()Z"⟩
abbrev cX3_readKind : ByteArray := prog_5_method_6_code
def yX3_readKind : MethodName := ⟨RX3, "readKind", "()Z"⟩
abbrev cX3_readEnd : ByteArray := prog_5_method_7_code
def yX3_readEnd : MethodName := ⟨RX3, "readEnd", "()Z"⟩
abbrev cX3_readMethod : ByteArray := prog_5_method_8_code
def yX3_readMethod : MethodName := ⟨RX3, "readMethod", "(I)Z"⟩
abbrev cX3_readWhatComes : ByteArray := prog_5_method_9_code
def yX3_readWhatComes : MethodName := ⟨RX3, "readWhatComes", "(III)Z"⟩
abbrev cX3_readVariable : ByteArray := prog_5_method_10_code
def yX3_readVariable : MethodName := ⟨RX3, "readVariable", "()Z"⟩
abbrev cX3_readStatement : ByteArray := prog_5_method_11_code
def yX3_readStatement : MethodName := ⟨RX3, "readStatement", "(I)Z"⟩
abbrev cX3_readFirst : ByteArray := prog_5_method_12_code
def yX3_readFirst : MethodName := ⟨RX3, "readFirst", "(I)Z"⟩
abbrev cX3_readSecond : ByteArray := prog_5_method_13_code
def yX3_readSecond : MethodName := ⟨RX3, "readSecond", "(I)Z"⟩
abbrev cX3_readAsked : ByteArray := prog_5_method_14_code
def yX3_readAsked : MethodName := ⟨RX3, "readAsked", "(IZ)Z"⟩
abbrev cX3_closeBlock : ByteArray := prog_5_method_15_code
def yX3_closeBlock : MethodName := ⟨RX3, "closeBlock", "()Z"⟩
abbrev cX3_methodToTell : ByteArray := prog_5_method_16_code
def yX3_methodToTell : MethodName := ⟨RX3, "methodToTell", "(II)I"⟩
abbrev cX3_isNewName : ByteArray := prog_5_method_17_code
def yX3_isNewName : MethodName := ⟨RX3, "isNewName", "([JII)Z"⟩
abbrev cX3_known : ByteArray := prog_5_method_18_code
def yX3_known : MethodName := ⟨RX3, "known", "([JII)I"⟩
abbrev cX3_find : ByteArray := prog_5_method_19_code
def yX3_find : MethodName := ⟨RX3, "find", "([JII)I"⟩
abbrev cX3_takeSign : ByteArray := prog_5_method_20_code
def yX3_takeSign : MethodName := ⟨RX3, "takeSign", "(I)Z"⟩
abbrev cX3_fail : ByteArray := prog_5_method_21_code
def yX3_fail : MethodName := ⟨RX3, "fail", "(I)Z"⟩
def RX4 : String := "HoldChecker$Program"
def TX4 : u_T := fun k => match k with
  | 0 => ("HoldChecker$Program", "kinds", "LHoldChecker$Kinds;", true)
  | 1 => ("HoldChecker$Program", "variables", "I", false)
  | 2 => ("HoldChecker$Program", "kindOf", "[I", true)
  | 3 => ("HoldChecker$Program", "statements", "I", false)
  | 4 => ("HoldChecker$Program", "sort", "[I", true)
  | 5 => ("HoldChecker$Program", "first", "[I", true)
  | 6 => ("HoldChecker$Program", "second", "[I", true)
  | 7 => ("HoldChecker$Program", "asked", "[I", true)
  | 8 => ("HoldChecker$Program", "depth", "[I", true)
  | 9 => ("HoldChecker$Program", "parent", "[I", true)
  | 10 => ("HoldChecker$Program", "split", "[I", true)
  | 11 => ("HoldChecker$Program", "close", "[I", true)
  | 12 => ("HoldChecker$Program", "after", "[I", true)
  | 13 => ("HoldChecker$Program", "byYes", "[I", true)
  | _ => ("HoldChecker$Program", "byNo", "[I", true)
def tyX4 : Nat → FieldType := fun k => match k with
  | 0 => .object "HoldChecker$Kinds"
  | 1 => .int
  | 2 => .array .int
  | 3 => .int
  | 4 => .array .int
  | 5 => .array .int
  | 6 => .array .int
  | 7 => .array .int
  | 8 => .array .int
  | 9 => .array .int
  | 10 => .array .int
  | 11 => .array .int
  | 12 => .array .int
  | 13 => .array .int
  | _ => .array .int
theorem nmX4 : ∀ a, a < 15 → ∀ b, b < 15 → a ≠ b → (TX4 a).2.1 ≠ (TX4 b).2.1 := by decide +kernel
theorem tyX4_ok : ∀ k, k < 15 → parseFieldDescriptor (TX4 k).2.2.1 = some (tyX4 k) := by decide +kernel
abbrev cX4_init : ByteArray := prog_6_method_1_code
def yX4_init : MethodName := ⟨RX4, "<init>", "()V"⟩
abbrev cX4_empty : ByteArray := prog_6_method_2_code
def yX4_empty : MethodName := ⟨RX4, "empty", "()V"⟩
abbrev cX4_hasVariable : ByteArray := prog_6_method_3_code
def yX4_hasVariable : MethodName := ⟨RX4, "hasVariable", "(I)Z"⟩
abbrev cX4_hasStatement : ByteArray := prog_6_method_4_code
def yX4_hasStatement : MethodName := ⟨RX4, "hasStatement", "(I)Z"⟩
abbrev cX4_hasPlace : ByteArray := prog_6_method_5_code
def yX4_hasPlace : MethodName := ⟨RX4, "hasPlace", "(I)Z"⟩
abbrev cX4_variablesOf : ByteArray := prog_6_method_6_code
def yX4_variablesOf : MethodName := ⟨RX4, "variablesOf", "(I)I"⟩
abbrev cX4_addStatement : ByteArray := prog_6_method_7_code
def yX4_addStatement : MethodName := ⟨RX4, "addStatement", "(III)I"⟩
abbrev cX4_link : ByteArray := prog_6_method_8_code
def yX4_link : MethodName := ⟨RX4, "link", "()V"⟩
abbrev cX4_linkBlocks : ByteArray := prog_6_method_9_code
def yX4_linkBlocks : MethodName := ⟨RX4, "linkBlocks", "(I)V"⟩
abbrev cX4_placeAfter : ByteArray := prog_6_method_10_code
def yX4_placeAfter : MethodName := ⟨RX4, "placeAfter", "(I)I"⟩
abbrev cX4_goesRound : ByteArray := prog_6_method_11_code
def yX4_goesRound : MethodName := ⟨RX4, "goesRound", "(I)Z"⟩
def RX5 : String := "HoldChecker$Runner"
def TX5 : u_T := fun k => match k with
  | 0 => ("HoldChecker$Runner", "steps", "I", false)
  | 1 => ("HoldChecker$Runner", "ending", "I", false)
  | 2 => ("HoldChecker$Runner", "place", "I", false)
  | 3 => ("HoldChecker$Runner", "made", "I", false)
  | 4 => ("HoldChecker$Runner", "draw", "I", false)
  | _ => ("HoldChecker$Runner", "here", "LHoldChecker$Hold;", true)
def tyX5 : Nat → FieldType := fun k => match k with
  | 0 => .int
  | 1 => .int
  | 2 => .int
  | 3 => .int
  | 4 => .int
  | _ => .object "HoldChecker$Hold"
theorem nmX5 : ∀ a, a < 6 → ∀ b, b < 6 → a ≠ b → (TX5 a).2.1 ≠ (TX5 b).2.1 := by decide +kernel
theorem tyX5_ok : ∀ k, k < 6 → parseFieldDescriptor (TX5 k).2.2.1 = some (tyX5 k) := by decide +kernel
abbrev cX5_init : ByteArray := prog_7_method_1_code
def yX5_init : MethodName := ⟨RX5, "<init>", "()V"⟩
abbrev cX5_go : ByteArray := prog_7_method_2_code
def yX5_go : MethodName := ⟨RX5, "go", "(LHoldChecker$Program;I)V"⟩
abbrev cX5_step : ByteArray := prog_7_method_3_code
def yX5_step : MethodName := ⟨RX5, "step", "(LHoldChecker$Program;)Z"⟩
abbrev cX5_drawYes : ByteArray := prog_7_method_4_code
def yX5_drawYes : MethodName := ⟨RX5, "drawYes", "()Z"⟩
def RX6 : String := "HoldChecker$Search"
def TX6 : u_T := fun k => match k with
  | 0 => ("HoldChecker$Search", "count", "I", false)
  | 1 => ("HoldChecker$Search", "more", "Z", false)
  | 2 => ("HoldChecker$Search", "wrongs", "I", false)
  | 3 => ("HoldChecker$Search", "wrongLength", "I", false)
  | 4 => ("HoldChecker$Search", "wrongReason", "I", false)
  | 5 => ("HoldChecker$Search", "mostThings", "I", false)
  | 6 => ("HoldChecker$Search", "goodEndings", "I", false)
  | 7 => ("HoldChecker$Search", "reached", "[Z", true)
  | 8 => ("HoldChecker$Search", "leftStates", "[I", true)
  | 9 => ("HoldChecker$Search", "firstWrong", "I", false)
  | 10 => ("HoldChecker$Search", "keys", "[J", true)
  | 11 => ("HoldChecker$Search", "cameFrom", "[I", true)
  | 12 => ("HoldChecker$Search", "slots", "[I", true)
  | 13 => ("HoldChecker$Search", "here", "LHoldChecker$Hold;", true)
  | _ => ("HoldChecker$Search", "next", "LHoldChecker$Hold;", true)
def tyX6 : Nat → FieldType := fun k => match k with
  | 0 => .int
  | 1 => .boolean
  | 2 => .int
  | 3 => .int
  | 4 => .int
  | 5 => .int
  | 6 => .int
  | 7 => .array .boolean
  | 8 => .array .int
  | 9 => .int
  | 10 => .array .long
  | 11 => .array .int
  | 12 => .array .int
  | 13 => .object "HoldChecker$Hold"
  | _ => .object "HoldChecker$Hold"
theorem nmX6 : ∀ a, a < 15 → ∀ b, b < 15 → a ≠ b → (TX6 a).2.1 ≠ (TX6 b).2.1 := by decide +kernel
theorem tyX6_ok : ∀ k, k < 15 → parseFieldDescriptor (TX6 k).2.2.1 = some (tyX6 k) := by decide +kernel
abbrev cX6_init : ByteArray := prog_8_method_1_code
def yX6_init : MethodName := ⟨RX6, "<init>", "()V"⟩
abbrev cX6_explore : ByteArray := prog_8_method_2_code
def yX6_explore : MethodName := ⟨RX6, "explore", "(LHoldChecker$Program;)V"⟩
abbrev cX6_forget : ByteArray := prog_8_method_3_code
def yX6_forget : MethodName := ⟨RX6, "forget", "()V"⟩
abbrev cX6_goesOnFrom : ByteArray := prog_8_method_4_code
def yX6_goesOnFrom : MethodName := ⟨RX6, "goesOnFrom", "(LHoldChecker$Program;II)Z"⟩
abbrev cX6_noteLeft : ByteArray := prog_8_method_5_code
def yX6_noteLeft : MethodName := ⟨RX6, "noteLeft", "(LHoldChecker$Program;I)V"⟩
abbrev cX6_follow : ByteArray := prog_8_method_6_code
def yX6_follow : MethodName := ⟨RX6, "follow", "(LHoldChecker$Program;IIZ)V"⟩
abbrev cX6_add : ByteArray := prog_8_method_7_code
def yX6_add : MethodName := ⟨RX6, "add", "(JI)V"⟩
abbrev cX6_addAt : ByteArray := prog_8_method_8_code
def yX6_addAt : MethodName := ⟨RX6, "addAt", "(IJI)V"⟩
abbrev cX6_lengthTo : ByteArray := prog_8_method_9_code
def yX6_lengthTo : MethodName := ⟨RX6, "lengthTo", "(I)I"⟩
abbrev cX6_placeOnWrongPath : ByteArray := prog_8_method_10_code
def yX6_placeOnWrongPath : MethodName := ⟨RX6, "placeOnWrongPath", "(I)I"⟩
abbrev cX6_gather : ByteArray := prog_8_method_11_code
def yX6_gather : MethodName := ⟨RX6, "gather", "(III)I"⟩
def RX7 : String := "HoldChecker$Tape"
def TX7 : u_T := fun k => match k with
  | 0 => ("HoldChecker$Tape", "bytes", "I", false)
  | 1 => ("HoldChecker$Tape", "start", "I", false)
  | 2 => ("HoldChecker$Tape", "token", "I", false)
  | 3 => ("HoldChecker$Tape", "word", "J", false)
  | 4 => ("HoldChecker$Tape", "textLength", "I", false)
  | 5 => ("HoldChecker$Tape", "next", "I", false)
  | 6 => ("HoldChecker$Tape", "tape", "[B", true)
  | _ => ("HoldChecker$Tape", "reserved", "[J", true)
def tyX7 : Nat → FieldType := fun k => match k with
  | 0 => .int
  | 1 => .int
  | 2 => .int
  | 3 => .long
  | 4 => .int
  | 5 => .int
  | 6 => .array .byte
  | _ => .array .long
theorem nmX7 : ∀ a, a < 8 → ∀ b, b < 8 → a ≠ b → (TX7 a).2.1 ≠ (TX7 b).2.1 := by decide +kernel
theorem tyX7_ok : ∀ k, k < 8 → parseFieldDescriptor (TX7 k).2.2.1 = some (tyX7 k) := by decide +kernel
abbrev cX7_init : ByteArray := prog_9_method_1_code
def yX7_init : MethodName := ⟨RX7, "<init>", "()V"⟩
abbrev cX7_putInt : ByteArray := prog_9_method_2_code
def yX7_putInt : MethodName := ⟨RX7, "putInt", "(I)V"⟩
abbrev cX7_putByte : ByteArray := prog_9_method_3_code
def yX7_putByte : MethodName := ⟨RX7, "putByte", "(I)V"⟩
abbrev cX7_open : ByteArray := prog_9_method_4_code
def yX7_open : MethodName := ⟨RX7, "open", "(I)V"⟩
abbrev cX7_advance : ByteArray := prog_9_method_5_code
def yX7_advance : MethodName := ⟨RX7, "advance", "()V"⟩
abbrev cX7_takeWord : ByteArray := prog_9_method_6_code
def yX7_takeWord : MethodName := ⟨RX7, "takeWord", "()V"⟩
abbrev cX7_signSort : ByteArray := prog_9_method_7_code
def yX7_signSort : MethodName := ⟨RX7, "signSort", "(I)I"⟩
def RX8 : String := "HoldChecker"
def TX8 : u_T := fun k => match k with
  | 0 => ("HoldChecker", "parser", "LHoldChecker$Parser;", true)
  | 1 => ("HoldChecker", "flow", "LHoldChecker$Flow;", true)
  | 2 => ("HoldChecker", "trial", "LHoldChecker$Flow;", true)
  | 3 => ("HoldChecker", "search", "LHoldChecker$Search;", true)
  | 4 => ("HoldChecker", "runner", "LHoldChecker$Runner;", true)
  | 5 => ("HoldChecker", "acceptedWithout", "[I", true)
  | 6 => ("HoldChecker", "program", "LHoldChecker$Program;", false)
  | 7 => ("HoldChecker", "flowKnown", "Z", false)
  | 8 => ("HoldChecker", "searchKnown", "Z", false)
  | 9 => ("HoldChecker", "status", "I", false)
  | 10 => ("HoldChecker", "faultSort", "I", false)
  | _ => ("HoldChecker", "faultPlace", "I", false)
def tyX8 : Nat → FieldType := fun k => match k with
  | 0 => .object "HoldChecker$Parser"
  | 1 => .object "HoldChecker$Flow"
  | 2 => .object "HoldChecker$Flow"
  | 3 => .object "HoldChecker$Search"
  | 4 => .object "HoldChecker$Runner"
  | 5 => .array .int
  | 6 => .object "HoldChecker$Program"
  | 7 => .boolean
  | 8 => .boolean
  | 9 => .int
  | 10 => .int
  | _ => .int
theorem nmX8 : ∀ a, a < 12 → ∀ b, b < 12 → a ≠ b → (TX8 a).2.1 ≠ (TX8 b).2.1 := by decide +kernel
theorem tyX8_ok : ∀ k, k < 12 → parseFieldDescriptor (TX8 k).2.2.1 = some (tyX8 k) := by decide +kernel
abbrev cX8_init : ByteArray := prog_1_method_1_code
def yX8_init : MethodName := ⟨RX8, "<init>", "()V"⟩
abbrev cX8_status : ByteArray := prog_1_method_2_code
def yX8_status : MethodName := ⟨RX8, "status", "()I"⟩
abbrev cX8_feed : ByteArray := prog_1_method_3_code
def yX8_feed : MethodName := ⟨RX8, "feed", "(IIIII)I"⟩
abbrev cX8_load : ByteArray := prog_1_method_4_code
def yX8_load : MethodName := ⟨RX8, "load", "(I)I"⟩
abbrev cX8_fault : ByteArray := prog_1_method_5_code
def yX8_fault : MethodName := ⟨RX8, "fault", "(I)I"⟩
abbrev cX8_many : ByteArray := prog_1_method_6_code
def yX8_many : MethodName := ⟨RX8, "many", "(I)I"⟩
abbrev cX8_kind : ByteArray := prog_1_method_7_code
def yX8_kind : MethodName := ⟨RX8, "kind", "(II)I"⟩
abbrev cX8_method : ByteArray := prog_1_method_8_code
def yX8_method : MethodName := ⟨RX8, "method", "(III)I"⟩
abbrev cX8_comes : ByteArray := prog_1_method_9_code
def yX8_comes : MethodName := ⟨RX8, "comes", "(IIIZ)I"⟩
abbrev cX8_tell : ByteArray := prog_1_method_10_code
def yX8_tell : MethodName := ⟨RX8, "tell", "(IIIZI)I"⟩
abbrev cX8_toEnd : ByteArray := prog_1_method_11_code
def yX8_toEnd : MethodName := ⟨RX8, "toEnd", "(II)I"⟩
abbrev cX8_towards : ByteArray := prog_1_method_12_code
def yX8_towards : MethodName := ⟨RX8, "towards", "(II)I"⟩
abbrev cX8_alike : ByteArray := prog_1_method_13_code
def yX8_alike : MethodName := ⟨RX8, "alike", "(III)I"⟩
abbrev cX8_rows : ByteArray := prog_1_method_14_code
def yX8_rows : MethodName := ⟨RX8, "rows", "(IIZ)I"⟩
abbrev cX8_statement : ByteArray := prog_1_method_15_code
def yX8_statement : MethodName := ⟨RX8, "statement", "(II)I"⟩
abbrev cX8_variable : ByteArray := prog_1_method_16_code
def yX8_variable : MethodName := ⟨RX8, "variable", "(I)I"⟩
abbrev cX8_check : ByteArray := prog_1_method_17_code
def yX8_check : MethodName := ⟨RX8, "check", "(I)I"⟩
abbrev cX8_at : ByteArray := prog_1_method_18_code
def yX8_at : MethodName := ⟨RX8, "at", "(III)I"⟩
abbrev cX8_without : ByteArray := prog_1_method_19_code
def yX8_without : MethodName := ⟨RX8, "without", "(I)I"⟩
abbrev cX8_mend : ByteArray := prog_1_method_20_code
def yX8_mend : MethodName := ⟨RX8, "mend", "()I"⟩
abbrev cX8_paths : ByteArray := prog_1_method_21_code
def yX8_paths : MethodName := ⟨RX8, "paths", "(I)I"⟩
abbrev cX8_path : ByteArray := prog_1_method_22_code
def yX8_path : MethodName := ⟨RX8, "path", "(I)I"⟩
abbrev cX8_truly : ByteArray := prog_1_method_23_code
def yX8_truly : MethodName := ⟨RX8, "truly", "(III)I"⟩
abbrev cX8_left : ByteArray := prog_1_method_24_code
def yX8_left : MethodName := ⟨RX8, "left", "(I)I"⟩
abbrev cX8_never : ByteArray := prog_1_method_25_code
def yX8_never : MethodName := ⟨RX8, "never", "(I)I"⟩
abbrev cX8_run : ByteArray := prog_1_method_26_code
def yX8_run : MethodName := ⟨RX8, "run", "(II)I"⟩
abbrev cX8_runs : ByteArray := prog_1_method_27_code
def yX8_runs : MethodName := ⟨RX8, "runs", "(III)I"⟩
abbrev cX8_answer : ByteArray := prog_1_method_28_code
def yX8_answer : MethodName := ⟨RX8, "answer", "(I)I"⟩
abbrev cX8_refuse : ByteArray := prog_1_method_29_code
def yX8_refuse : MethodName := ⟨RX8, "refuse", "(I)I"⟩
abbrev cX8_forgetAnswers : ByteArray := prog_1_method_30_code
def yX8_forgetAnswers : MethodName := ⟨RX8, "forgetAnswers", "()V"⟩
abbrev cX8_solvedFlow : ByteArray := prog_1_method_31_code
def yX8_solvedFlow : MethodName := ⟨RX8, "solvedFlow", "()LHoldChecker$Flow;"⟩
abbrev cX8_triedWithout : ByteArray := prog_1_method_32_code
def yX8_triedWithout : MethodName := ⟨RX8, "triedWithout", "(I)I"⟩
abbrev cX8_finishedSearch : ByteArray := prog_1_method_33_code
def yX8_finishedSearch : MethodName := ⟨RX8, "finishedSearch", "()LHoldChecker$Search;"⟩
def RX9 : String := "HoldCheckerModel"
def TX9 : u_T := fun k => match k with
  | 0 => ("HoldCheckerModel", "tape", "[I", true)
  | 1 => ("HoldCheckerModel", "now", "[I", true)
  | 2 => ("HoldCheckerModel", "read", "[I", true)
  | 3 => ("HoldCheckerModel", "readNames", "[J", true)
  | 4 => ("HoldCheckerModel", "taped", "I", false)
  | 5 => ("HoldCheckerModel", "status", "I", false)
  | 6 => ("HoldCheckerModel", "faultKind", "I", false)
  | 7 => ("HoldCheckerModel", "faultPlace", "I", false)
  | 8 => ("HoldCheckerModel", "size", "I", false)
  | 9 => ("HoldCheckerModel", "from", "I", false)
  | 10 => ("HoldCheckerModel", "to", "I", false)
  | 11 => ("HoldCheckerModel", "kind", "I", false)
  | 12 => ("HoldCheckerModel", "sign", "I", false)
  | 13 => ("HoldCheckerModel", "fault", "I", false)
  | 14 => ("HoldCheckerModel", "place", "I", false)
  | 15 => ("HoldCheckerModel", "word", "J", false)
  | 16 => ("HoldCheckerModel", "found", "I", false)
  | 17 => ("HoldCheckerModel", "ends", "[I", true)
  | 18 => ("HoldCheckerModel", "unlike", "[Z", true)
  | 19 => ("HoldCheckerModel", "rowsNow", "[J", true)
  | 20 => ("HoldCheckerModel", "rowsNext", "[J", true)
  | 21 => ("HoldCheckerModel", "isOut", "[Z", true)
  | 22 => ("HoldCheckerModel", "comesAt", "[Z", true)
  | 23 => ("HoldCheckerModel", "how", "[I", true)
  | 24 => ("HoldCheckerModel", "states", "[I", true)
  | 25 => ("HoldCheckerModel", "may", "[I", true)
  | 26 => ("HoldCheckerModel", "must", "[I", true)
  | 27 => ("HoldCheckerModel", "h", "[I", true)
  | 28 => ("HoldCheckerModel", "st", "[I", true)
  | 29 => ("HoldCheckerModel", "ma", "[I", true)
  | 30 => ("HoldCheckerModel", "mu", "[I", true)
  | 31 => ("HoldCheckerModel", "isAnew", "Z", false)
  | 32 => ("HoldCheckerModel", "wrongMany", "I", false)
  | 33 => ("HoldCheckerModel", "wrongPlace", "I", false)
  | 34 => ("HoldCheckerModel", "wrongWhy", "I", false)
  | 35 => ("HoldCheckerModel", "thing", "[I", true)
  | 36 => ("HoldCheckerModel", "mode", "[I", true)
  | 37 => ("HoldCheckerModel", "state", "[I", true)
  | 38 => ("HoldCheckerModel", "leftBy", "[I", true)
  | 39 => ("HoldCheckerModel", "conf", "[J", true)
  | 40 => ("HoldCheckerModel", "cameFrom", "[I", true)
  | 41 => ("HoldCheckerModel", "wrong", "[I", true)
  | 42 => ("HoldCheckerModel", "confMany", "I", false)
  | 43 => ("HoldCheckerModel", "mostThings", "I", false)
  | 44 => ("HoldCheckerModel", "isMore", "Z", false)
  | 45 => ("HoldCheckerModel", "seedNow", "I", false)
  | 46 => ("HoldCheckerModel", "ranMany", "I", false)
  | 47 => ("HoldCheckerModel", "ranHow", "I", false)
  | 48 => ("HoldCheckerModel", "ranPlace", "I", false)
  | _ => ("HoldCheckerModel", "ranNew", "I", false)
def tyX9 : Nat → FieldType := fun k => match k with
  | 0 => .array .int
  | 1 => .array .int
  | 2 => .array .int
  | 3 => .array .long
  | 4 => .int
  | 5 => .int
  | 6 => .int
  | 7 => .int
  | 8 => .int
  | 9 => .int
  | 10 => .int
  | 11 => .int
  | 12 => .int
  | 13 => .int
  | 14 => .int
  | 15 => .long
  | 16 => .int
  | 17 => .array .int
  | 18 => .array .boolean
  | 19 => .array .long
  | 20 => .array .long
  | 21 => .array .boolean
  | 22 => .array .boolean
  | 23 => .array .int
  | 24 => .array .int
  | 25 => .array .int
  | 26 => .array .int
  | 27 => .array .int
  | 28 => .array .int
  | 29 => .array .int
  | 30 => .array .int
  | 31 => .boolean
  | 32 => .int
  | 33 => .int
  | 34 => .int
  | 35 => .array .int
  | 36 => .array .int
  | 37 => .array .int
  | 38 => .array .int
  | 39 => .array .long
  | 40 => .array .int
  | 41 => .array .int
  | 42 => .int
  | 43 => .int
  | 44 => .boolean
  | 45 => .int
  | 46 => .int
  | 47 => .int
  | 48 => .int
  | _ => .int
theorem nmX9 : ∀ a, a < 50 → ∀ b, b < 50 → a ≠ b → (TX9 a).2.1 ≠ (TX9 b).2.1 := by decide +kernel
theorem tyX9_ok : ∀ k, k < 50 → parseFieldDescriptor (TX9 k).2.2.1 = some (tyX9 k) := by decide +kernel
abbrev cX9_init : ByteArray := prog_11_method_1_code
def yX9_init : MethodName := ⟨RX9, "<init>", "()V"⟩
abbrev cX9_status : ByteArray := prog_11_method_2_code
def yX9_status : MethodName := ⟨RX9, "status", "()I"⟩
abbrev cX9_refuse : ByteArray := prog_11_method_3_code
def yX9_refuse : MethodName := ⟨RX9, "refuse", "(I)I"⟩
abbrev cX9_gives : ByteArray := prog_11_method_4_code
def yX9_gives : MethodName := ⟨RX9, "gives", "(I)I"⟩
abbrev cX9_isFrom : ByteArray := prog_11_method_5_code
def yX9_isFrom : MethodName := ⟨RX9, "isFrom", "(III)Z"⟩
abbrev cX9_has : ByteArray := prog_11_method_6_code
def yX9_has : MethodName := ⟨RX9, "has", "(II)Z"⟩
abbrev cX9_come : ByteArray := prog_11_method_7_code
def yX9_come : MethodName := ⟨RX9, "come", "(I)V"⟩
abbrev cX9_feed : ByteArray := prog_11_method_8_code
def yX9_feed : MethodName := ⟨RX9, "feed", "(IIIII)I"⟩
abbrev cX9_byteAt : ByteArray := prog_11_method_9_code
def yX9_byteAt : MethodName := ⟨RX9, "byteAt", "(I)I"⟩
abbrev cX9_isLetter : ByteArray := prog_11_method_10_code
def yX9_isLetter : MethodName := ⟨RX9, "isLetter", "(I)Z"⟩
abbrev cX9_go : ByteArray := prog_11_method_11_code
def yX9_go : MethodName := ⟨RX9, "go", "()V"⟩
abbrev cX9_spelt : ByteArray := prog_11_method_12_code
def yX9_spelt : MethodName := ⟨RX9, "spelt", "(IIIII)J"⟩
abbrev cX9_wordOf : ByteArray := prog_11_method_13_code
def yX9_wordOf : MethodName := ⟨RX9, "wordOf", "(I)J"⟩
abbrev cX9_wordHere : ByteArray := prog_11_method_14_code
def yX9_wordHere : MethodName := ⟨RX9, "wordHere", "()I"⟩
abbrev cX9_isName : ByteArray := prog_11_method_15_code
def yX9_isName : MethodName := ⟨RX9, "isName", "()Z"⟩
abbrev cX9_isSign : ByteArray := prog_11_method_16_code
def yX9_isSign : MethodName := ⟨RX9, "isSign", "(I)Z"⟩
abbrev cX9_bad : ByteArray := prog_11_method_17_code
def yX9_bad : MethodName := ⟨RX9, "bad", "(I)Z"⟩
abbrev cX9_eats : ByteArray := prog_11_method_18_code
def yX9_eats : MethodName := ⟨RX9, "eats", "(I)Z"⟩
abbrev cX9_findIn : ByteArray := prog_11_method_19_code
def yX9_findIn : MethodName := ⟨RX9, "findIn", "(II)I"⟩
abbrev cX9_readKnown : ByteArray := prog_11_method_20_code
def yX9_readKnown : MethodName := ⟨RX9, "readKnown", "(II)Z"⟩
abbrev cX9_readKind : ByteArray := prog_11_method_21_code
def yX9_readKind : MethodName := ⟨RX9, "readKind", "()Z"⟩
abbrev cX9_readState : ByteArray := prog_11_method_22_code
def yX9_readState : MethodName := ⟨RX9, "readState", "(I)Z"⟩
abbrev cX9_readVariable : ByteArray := prog_11_method_23_code
def yX9_readVariable : MethodName := ⟨RX9, "readVariable", "()Z"⟩
abbrev cX9_readKindLine : ByteArray := prog_11_method_24_code
def yX9_readKindLine : MethodName := ⟨RX9, "readKindLine", "()Z"⟩
abbrev cX9_readEndLine : ByteArray := prog_11_method_25_code
def yX9_readEndLine : MethodName := ⟨RX9, "readEndLine", "()Z"⟩
abbrev cX9_methodAt : ByteArray := prog_11_method_26_code
def yX9_methodAt : MethodName := ⟨RX9, "methodAt", "(II)I"⟩
abbrev cX9_cell : ByteArray := prog_11_method_27_code
def yX9_cell : MethodName := ⟨RX9, "cell", "(IIII)I"⟩
abbrev cX9_readMethodLine : ByteArray := prog_11_method_28_code
def yX9_readMethodLine : MethodName := ⟨RX9, "readMethodLine", "(I)Z"⟩
abbrev cX9_readVarLine : ByteArray := prog_11_method_29_code
def yX9_readVarLine : MethodName := ⟨RX9, "readVarLine", "()Z"⟩
abbrev cX9_readLine : ByteArray := prog_11_method_30_code
def yX9_readLine : MethodName := ⟨RX9, "readLine", "(I)Z"⟩
abbrev cX9_isTwo : ByteArray := prog_11_method_31_code
def yX9_isTwo : MethodName := ⟨RX9, "isTwo", "(I)Z"⟩
abbrev cX9_isAsked : ByteArray := prog_11_method_32_code
def yX9_isAsked : MethodName := ⟨RX9, "isAsked", "(I)Z"⟩
abbrev cX9_hasBlock : ByteArray := prog_11_method_33_code
def yX9_hasBlock : MethodName := ⟨RX9, "hasBlock", "(I)Z"⟩
abbrev cX9_isStatement : ByteArray := prog_11_method_34_code
def yX9_isStatement : MethodName := ⟨RX9, "isStatement", "()Z"⟩
abbrev cX9_readStatement : ByteArray := prog_11_method_35_code
def yX9_readStatement : MethodName := ⟨RX9, "readStatement", "(III)Z"⟩
abbrev cX9_readOther : ByteArray := prog_11_method_36_code
def yX9_readOther : MethodName := ⟨RX9, "readOther", "(I)Z"⟩
abbrev cX9_readMethod : ByteArray := prog_11_method_37_code
def yX9_readMethod : MethodName := ⟨RX9, "readMethod", "(IZ)Z"⟩
abbrev cX9_readBlock : ByteArray := prog_11_method_38_code
def yX9_readBlock : MethodName := ⟨RX9, "readBlock", "(III)Z"⟩
abbrev cX9_readText : ByteArray := prog_11_method_39_code
def yX9_readText : MethodName := ⟨RX9, "readText", "()Z"⟩
abbrev cX9_load : ByteArray := prog_11_method_40_code
def yX9_load : MethodName := ⟨RX9, "load", "(I)I"⟩
abbrev cX9_fault : ByteArray := prog_11_method_41_code
def yX9_fault : MethodName := ⟨RX9, "fault", "(I)I"⟩
abbrev cX9_isKind : ByteArray := prog_11_method_42_code
def yX9_isKind : MethodName := ⟨RX9, "isKind", "(I)Z"⟩
abbrev cX9_isState : ByteArray := prog_11_method_43_code
def yX9_isState : MethodName := ⟨RX9, "isState", "(II)Z"⟩
abbrev cX9_isMethod : ByteArray := prog_11_method_44_code
def yX9_isMethod : MethodName := ⟨RX9, "isMethod", "(II)Z"⟩
abbrev cX9_yes : ByteArray := prog_11_method_45_code
def yX9_yes : MethodName := ⟨RX9, "yes", "(III)I"⟩
abbrev cX9_no : ByteArray := prog_11_method_46_code
def yX9_no : MethodName := ⟨RX9, "no", "(III)I"⟩
abbrev cX9_canBe : ByteArray := prog_11_method_47_code
def yX9_canBe : MethodName := ⟨RX9, "canBe", "(III)Z"⟩
abbrev cX9_isEnd : ByteArray := prog_11_method_48_code
def yX9_isEnd : MethodName := ⟨RX9, "isEnd", "(II)Z"⟩
abbrev cX9_many : ByteArray := prog_11_method_49_code
def yX9_many : MethodName := ⟨RX9, "many", "(I)I"⟩
abbrev cX9_reached : ByteArray := prog_11_method_50_code
def yX9_reached : MethodName := ⟨RX9, "reached", "(II)I"⟩
abbrev cX9_kind : ByteArray := prog_11_method_51_code
def yX9_kind : MethodName := ⟨RX9, "kind", "(II)I"⟩
abbrev cX9_canSet : ByteArray := prog_11_method_52_code
def yX9_canSet : MethodName := ⟨RX9, "canSet", "(II)I"⟩
abbrev cX9_method : ByteArray := prog_11_method_53_code
def yX9_method : MethodName := ⟨RX9, "method", "(III)I"⟩
abbrev cX9_comes : ByteArray := prog_11_method_54_code
def yX9_comes : MethodName := ⟨RX9, "comes", "(IIIZ)I"⟩
abbrev cX9_tell : ByteArray := prog_11_method_55_code
def yX9_tell : MethodName := ⟨RX9, "tell", "(IIIZI)I"⟩
abbrev cX9_leastOf : ByteArray := prog_11_method_56_code
def yX9_leastOf : MethodName := ⟨RX9, "leastOf", "(III)I"⟩
abbrev cX9_laysEnds : ByteArray := prog_11_method_57_code
def yX9_laysEnds : MethodName := ⟨RX9, "laysEnds", "(I)V"⟩
abbrev cX9_toEnd : ByteArray := prog_11_method_58_code
def yX9_toEnd : MethodName := ⟨RX9, "toEnd", "(II)I"⟩
abbrev cX9_towards : ByteArray := prog_11_method_59_code
def yX9_towards : MethodName := ⟨RX9, "towards", "(II)I"⟩
abbrev cX9_differ : ByteArray := prog_11_method_60_code
def yX9_differ : MethodName := ⟨RX9, "differ", "(III)Z"⟩
abbrev cX9_alike : ByteArray := prog_11_method_61_code
def yX9_alike : MethodName := ⟨RX9, "alike", "(III)I"⟩
abbrev cX9_rows : ByteArray := prog_11_method_62_code
def yX9_rows : MethodName := ⟨RX9, "rows", "(IIZ)I"⟩
abbrev cX9_statements : ByteArray := prog_11_method_63_code
def yX9_statements : MethodName := ⟨RX9, "statements", "()I"⟩
abbrev cX9_isStatementAt : ByteArray := prog_11_method_64_code
def yX9_isStatementAt : MethodName := ⟨RX9, "isStatementAt", "(I)Z"⟩
abbrev cX9_isVariable : ByteArray := prog_11_method_65_code
def yX9_isVariable : MethodName := ⟨RX9, "isVariable", "(I)Z"⟩
abbrev cX9_sortAt : ByteArray := prog_11_method_66_code
def yX9_sortAt : MethodName := ⟨RX9, "sortAt", "(I)I"⟩
abbrev cX9_nextIn : ByteArray := prog_11_method_67_code
def yX9_nextIn : MethodName := ⟨RX9, "nextIn", "(III)I"⟩
abbrev cX9_isRound : ByteArray := prog_11_method_68_code
def yX9_isRound : MethodName := ⟨RX9, "isRound", "(I)Z"⟩
abbrev cX9_behind : ByteArray := prog_11_method_69_code
def yX9_behind : MethodName := ⟨RX9, "behind", "(I)I"⟩
abbrev cX9_firstPlace : ByteArray := prog_11_method_70_code
def yX9_firstPlace : MethodName := ⟨RX9, "firstPlace", "()I"⟩
abbrev cX9_byYes : ByteArray := prog_11_method_71_code
def yX9_byYes : MethodName := ⟨RX9, "byYes", "(I)I"⟩
abbrev cX9_byNo : ByteArray := prog_11_method_72_code
def yX9_byNo : MethodName := ⟨RX9, "byNo", "(I)I"⟩
abbrev cX9_allIn : ByteArray := prog_11_method_73_code
def yX9_allIn : MethodName := ⟨RX9, "allIn", "()V"⟩
abbrev cX9_statement : ByteArray := prog_11_method_74_code
def yX9_statement : MethodName := ⟨RX9, "statement", "(II)I"⟩
abbrev cX9_variable : ByteArray := prog_11_method_75_code
def yX9_variable : MethodName := ⟨RX9, "variable", "(I)I"⟩
abbrev cX9_at : ByteArray := prog_11_method_76_code
def yX9_at : MethodName := ⟨RX9, "at", "(II)I"⟩
abbrev cX9_takes : ByteArray := prog_11_method_77_code
def yX9_takes : MethodName := ⟨RX9, "takes", "(I)V"⟩
abbrev cX9_merges : ByteArray := prog_11_method_78_code
def yX9_merges : MethodName := ⟨RX9, "merges", "(I)V"⟩
abbrev cX9_frees : ByteArray := prog_11_method_79_code
def yX9_frees : MethodName := ⟨RX9, "frees", "(I)V"⟩
abbrev cX9_empties : ByteArray := prog_11_method_80_code
def yX9_empties : MethodName := ⟨RX9, "empties", "(I)V"⟩
abbrev cX9_joins : ByteArray := prog_11_method_81_code
def yX9_joins : MethodName := ⟨RX9, "joins", "(IIZ)V"⟩
abbrev cX9_goes : ByteArray := prog_11_method_82_code
def yX9_goes : MethodName := ⟨RX9, "goes", "(I)V"⟩
abbrev cX9_imageOf : ByteArray := prog_11_method_83_code
def yX9_imageOf : MethodName := ⟨RX9, "imageOf", "(IIIZ)I"⟩
abbrev cX9_asks : ByteArray := prog_11_method_84_code
def yX9_asks : MethodName := ⟨RX9, "asks", "(IZ)Z"⟩
abbrev cX9_passes : ByteArray := prog_11_method_85_code
def yX9_passes : MethodName := ⟨RX9, "passes", "(I)V"⟩
abbrev cX9_checks : ByteArray := prog_11_method_86_code
def yX9_checks : MethodName := ⟨RX9, "checks", "()V"⟩
abbrev cX9_endsOf : ByteArray := prog_11_method_87_code
def yX9_endsOf : MethodName := ⟨RX9, "endsOf", "(I)I"⟩
abbrev cX9_whyAt : ByteArray := prog_11_method_88_code
def yX9_whyAt : MethodName := ⟨RX9, "whyAt", "(I)I"⟩
abbrev cX9_checksAll : ByteArray := prog_11_method_89_code
def yX9_checksAll : MethodName := ⟨RX9, "checksAll", "()V"⟩
abbrev cX9_check : ByteArray := prog_11_method_90_code
def yX9_check : MethodName := ⟨RX9, "check", "(I)I"⟩
abbrev cX9_isPlace : ByteArray := prog_11_method_91_code
def yX9_isPlace : MethodName := ⟨RX9, "isPlace", "(I)Z"⟩
abbrev cX9_at_ : ByteArray := prog_11_method_92_code
def yX9_at_ : MethodName := ⟨RX9, "at", "(III)I"⟩
abbrev cX9_isMended : ByteArray := prog_11_method_93_code
def yX9_isMended : MethodName := ⟨RX9, "isMended", "(I)Z"⟩
abbrev cX9_without : ByteArray := prog_11_method_94_code
def yX9_without : MethodName := ⟨RX9, "without", "(I)I"⟩
abbrev cX9_mend : ByteArray := prog_11_method_95_code
def yX9_mend : MethodName := ⟨RX9, "mend", "()I"⟩
abbrev cX9_isAlone : ByteArray := prog_11_method_96_code
def yX9_isAlone : MethodName := ⟨RX9, "isAlone", "(I)Z"⟩
abbrev cX9_lets : ByteArray := prog_11_method_97_code
def yX9_lets : MethodName := ⟨RX9, "lets", "(I)V"⟩
abbrev cX9_does : ByteArray := prog_11_method_98_code
def yX9_does : MethodName := ⟨RX9, "does", "(IZI)I"⟩
abbrev cX9_gets : ByteArray := prog_11_method_99_code
def yX9_gets : MethodName := ⟨RX9, "gets", "(III)I"⟩
abbrev cX9_drops : ByteArray := prog_11_method_100_code
def yX9_drops : MethodName := ⟨RX9, "drops", "(I)I"⟩
abbrev cX9_finishes : ByteArray := prog_11_method_101_code
def yX9_finishes : MethodName := ⟨RX9, "finishes", "()I"⟩
abbrev cX9_things : ByteArray := prog_11_method_102_code
def yX9_things : MethodName := ⟨RX9, "things", "()I"⟩
abbrev cX9_empty : ByteArray := prog_11_method_103_code
def yX9_empty : MethodName := ⟨RX9, "empty", "()V"⟩
abbrev cX9_codeOf : ByteArray := prog_11_method_104_code
def yX9_codeOf : MethodName := ⟨RX9, "codeOf", "(I)J"⟩
abbrev cX9_lays : ByteArray := prog_11_method_105_code
def yX9_lays : MethodName := ⟨RX9, "lays", "(J)I"⟩
abbrev cX9_adds : ByteArray := prog_11_method_106_code
def yX9_adds : MethodName := ⟨RX9, "adds", "(II)V"⟩
abbrev cX9_explores : ByteArray := prog_11_method_107_code
def yX9_explores : MethodName := ⟨RX9, "explores", "(I)V"⟩
abbrev cX9_laysPaths : ByteArray := prog_11_method_108_code
def yX9_laysPaths : MethodName := ⟨RX9, "laysPaths", "()V"⟩
abbrev cX9_firstWrong : ByteArray := prog_11_method_109_code
def yX9_firstWrong : MethodName := ⟨RX9, "firstWrong", "()I"⟩
abbrev cX9_stepsTo : ByteArray := prog_11_method_110_code
def yX9_stepsTo : MethodName := ⟨RX9, "stepsTo", "(I)I"⟩
abbrev cX9_placeOf : ByteArray := prog_11_method_111_code
def yX9_placeOf : MethodName := ⟨RX9, "placeOf", "(I)I"⟩
abbrev cX9_paths : ByteArray := prog_11_method_112_code
def yX9_paths : MethodName := ⟨RX9, "paths", "(I)I"⟩
abbrev cX9_path : ByteArray := prog_11_method_113_code
def yX9_path : MethodName := ⟨RX9, "path", "(I)I"⟩
abbrev cX9_onesWith : ByteArray := prog_11_method_114_code
def yX9_onesWith : MethodName := ⟨RX9, "onesWith", "(I)I"⟩
abbrev cX9_truly : ByteArray := prog_11_method_115_code
def yX9_truly : MethodName := ⟨RX9, "truly", "(III)I"⟩
abbrev cX9_left : ByteArray := prog_11_method_116_code
def yX9_left : MethodName := ⟨RX9, "left", "(I)I"⟩
abbrev cX9_never : ByteArray := prog_11_method_117_code
def yX9_never : MethodName := ⟨RX9, "never", "(I)I"⟩
abbrev cX9_drawsYes : ByteArray := prog_11_method_118_code
def yX9_drawsYes : MethodName := ⟨RX9, "drawsYes", "()Z"⟩
abbrev cX9_stands : ByteArray := prog_11_method_119_code
def yX9_stands : MethodName := ⟨RX9, "stands", "()I"⟩
abbrev cX9_asksWrong : ByteArray := prog_11_method_120_code
def yX9_asksWrong : MethodName := ⟨RX9, "asksWrong", "(I)I"⟩
abbrev cX9_runsBy : ByteArray := prog_11_method_121_code
def yX9_runsBy : MethodName := ⟨RX9, "runsBy", "(I)V"⟩
abbrev cX9_run : ByteArray := prog_11_method_122_code
def yX9_run : MethodName := ⟨RX9, "run", "(II)I"⟩
abbrev cX9_runs : ByteArray := prog_11_method_123_code
def yX9_runs : MethodName := ⟨RX9, "runs", "(III)I"⟩
def RJ6 : String := "java/lang/Integer"
abbrev cJ6_numberOfTrailingZeros_0f7a4 : ByteArray := prog_12_method_48_code
def yJ6_numberOfTrailingZeros_0f7a4 : MethodName := ⟨RJ6, "numberOfTrailingZeros", "(I)I"⟩
def RJ9 : String := "java/lang/Math"
abbrev cJ9_max_7cf53 : ByteArray := prog_13_method_65_code
def yJ9_max_7cf53 : MethodName := ⟨RJ9, "max", "(II)I"⟩
abbrev cJ9_min_7cf53 : ByteArray := prog_13_method_69_code
def yJ9_min_7cf53 : MethodName := ⟨RJ9, "min", "(II)I"⟩
def RJ0 : String := "java/lang/String"
abbrev cJ0_length_8abf5 : ByteArray := prog_14_method_54_code
def yJ0_length_8abf5 : MethodName := ⟨RJ0, "length", "()I"⟩
abbrev cJ0_charAt_5068e : ByteArray := prog_14_method_56_code
def yJ0_charAt_5068e : MethodName := ⟨RJ0, "charAt", "(I)C"⟩
abbrev cJ0_coder_7d493 : ByteArray := prog_14_method_152_code
def yJ0_coder_7d493 : MethodName := ⟨RJ0, "coder", "()B"⟩
abbrev cJ0_isLatin1_aae02 : ByteArray := prog_14_method_154_code
def yJ0_isLatin1_aae02 : MethodName := ⟨RJ0, "isLatin1", "()Z"⟩
abbrev cJ0_checkIndex_df160 : ByteArray := prog_14_method_155_code
def yJ0_checkIndex_df160 : MethodName := ⟨RJ0, "checkIndex", "(II)V"⟩
def RJ1 : String := "java/lang/StringLatin1"
abbrev cJ1_charAt_3b067 : ByteArray := prog_15_method_2_code
def yJ1_charAt_3b067 : MethodName := ⟨RJ1, "charAt", "([BI)C"⟩
def RJ2 : String := "java/lang/StringUTF16"
abbrev cJ2_getChar_3b067 : ByteArray := prog_16_method_5_code
def yJ2_getChar_3b067 : MethodName := ⟨RJ2, "getChar", "([BI)C"⟩
abbrev cJ2_length_9d52b : ByteArray := prog_16_method_6_code
def yJ2_length_9d52b : MethodName := ⟨RJ2, "length", "([B)I"⟩
abbrev cJ2_charAt_3b067 : ByteArray := prog_16_method_83_code
def yJ2_charAt_3b067 : MethodName := ⟨RJ2, "charAt", "([BI)C"⟩
abbrev cJ2_checkIndex_2214a : ByteArray := prog_16_method_91_code
def yJ2_checkIndex_2214a : MethodName := ⟨RJ2, "checkIndex", "(I[B)V"⟩
def RJ10 : String := "java/lang/System"
def RJ7 : String := "java/util/Arrays"
abbrev cJ7_fill_d0a16 : ByteArray := prog_18_method_101_code
def yJ7_fill_d0a16 : MethodName := ⟨RJ7, "fill", "([JJ)V"⟩
abbrev cJ7_fill_53178 : ByteArray := prog_18_method_103_code
def yJ7_fill_53178 : MethodName := ⟨RJ7, "fill", "([II)V"⟩
def RJ3 : String := "jdk/internal/util/Preconditions"
abbrev cJ3_checkIndex_8e157 : ByteArray := prog_19_method_11_code
def yJ3_checkIndex_8e157 : MethodName := ⟨RJ3, "checkIndex", "(IILjava/util/function/BiFunction;)I"⟩
def RL : String := "HoldCheckerLaw"
abbrev vwCl : List vw_C := [(RX0, TX0, 8), (RX1, TX1, 1), (RX2, TX2, 12), (RX3, TX3, 11), (RX4, TX4, 15), (RX5, TX5, 6), (RX6, TX6, 15), (RX7, TX7, 8), (RX8, TX8, 12), (RX9, TX9, 50)]
/-- a method's instructions, as a list -/
def TB (cc : ByteArray) (t : List (Nat × Instr × Nat)) : Prop := ∀ q ∈ t, decode cc q.1 = .ok (q.2.1, q.2.2)
theorem TB.get {cc : ByteArray} {t : List (Nat × Instr × Nat)} (T : TB cc t) (i : Nat) {pc : Nat} {ins : Instr} {len : Nat} (h : t[i]? = some (pc, ins, len)) : decode cc pc = .ok (ins, len) := T (pc, ins, len) (List.mem_of_getElem? h)
theorem TB_of {cc : ByteArray} {t : List (Nat × Instr × Nat)} (h : t.all (fun q => decide (decode cc q.1 = .ok (q.2.1, q.2.2))) = true) : TB cc t := by
  intro q hq
  have := List.all_eq_true.mp h q hq
  exact of_decide_eq_true this
