section
-- ===== PART A: goes FIRST, ahead of the names: the tables' words, and 'selects' of the private methods out of them =====
/-- a private method of a class that the tables say can be made, by its rows of tables_1 -/
def lw_okq (q : MethodName × Nat) : Prop := (q.1.cls ≠ "java/lang/invoke/MethodHandle" ∧ q.1.cls ≠ "java/lang/invoke/VarHandle") ∧ Cond.instantiable q.1.cls q.2 ∈ tables_1 ∧ Cond.privateMethod q.1 ∈ tables_1 ∧ Cond.instanceMethod q.1 ∈ tables_1
theorem lw_p0 : lw_okq (⟨"GrainPit$Reader", "advance", "()V"⟩, 11) := ⟨⟨by decide +kernel, by decide +kernel⟩, List.mem_of_getElem? (i := 40) (by decide +kernel), List.mem_of_getElem? (i := 220) (by decide +kernel), List.mem_of_getElem? (i := 221) (by decide +kernel)⟩
theorem lw_p1 : lw_okq (⟨"GrainPit$Reader", "wordFrom", "(II)I"⟩, 11) := ⟨⟨by decide +kernel, by decide +kernel⟩, List.mem_of_getElem? (i := 40) (by decide +kernel), List.mem_of_getElem? (i := 227) (by decide +kernel), List.mem_of_getElem? (i := 228) (by decide +kernel)⟩
theorem lw_p2 : lw_okq (⟨"GrainPit$Reader", "refuseIf", "(ZI)V"⟩, 11) := ⟨⟨by decide +kernel, by decide +kernel⟩, List.mem_of_getElem? (i := 40) (by decide +kernel), List.mem_of_getElem? (i := 280) (by decide +kernel), List.mem_of_getElem? (i := 281) (by decide +kernel)⟩
theorem lw_p3 : lw_okq (⟨"GrainPit$Reader", "readNumber", "()V"⟩, 11) := ⟨⟨by decide +kernel, by decide +kernel⟩, List.mem_of_getElem? (i := 40) (by decide +kernel), List.mem_of_getElem? (i := 287) (by decide +kernel), List.mem_of_getElem? (i := 288) (by decide +kernel)⟩
theorem lw_p4 : lw_okq (⟨"GrainPit$Reader", "readRule", "(Ljava/util/ArrayList;)V"⟩, 11) := ⟨⟨by decide +kernel, by decide +kernel⟩, List.mem_of_getElem? (i := 40) (by decide +kernel), List.mem_of_getElem? (i := 354) (by decide +kernel), List.mem_of_getElem? (i := 355) (by decide +kernel)⟩
theorem lw_p5 : lw_okq (⟨"GrainPit$Reader", "readOnly", "(I)V"⟩, 11) := ⟨⟨by decide +kernel, by decide +kernel⟩, List.mem_of_getElem? (i := 40) (by decide +kernel), List.mem_of_getElem? (i := 358) (by decide +kernel), List.mem_of_getElem? (i := 359) (by decide +kernel)⟩
theorem lw_p6 : lw_okq (⟨"GrainPit$Reader", "readExpr", "(I)V"⟩, 11) := ⟨⟨by decide +kernel, by decide +kernel⟩, List.mem_of_getElem? (i := 40) (by decide +kernel), List.mem_of_getElem? (i := 362) (by decide +kernel), List.mem_of_getElem? (i := 363) (by decide +kernel)⟩
theorem lw_p7 : lw_okq (⟨"GrainPit$Reader", "readCond", "(I)V"⟩, 11) := ⟨⟨by decide +kernel, by decide +kernel⟩, List.mem_of_getElem? (i := 40) (by decide +kernel), List.mem_of_getElem? (i := 366) (by decide +kernel), List.mem_of_getElem? (i := 367) (by decide +kernel)⟩
theorem lw_p8 : lw_okq (⟨"GrainPit$Reader", "readSum", "(I)V"⟩, 11) := ⟨⟨by decide +kernel, by decide +kernel⟩, List.mem_of_getElem? (i := 40) (by decide +kernel), List.mem_of_getElem? (i := 370) (by decide +kernel), List.mem_of_getElem? (i := 371) (by decide +kernel)⟩
theorem lw_p9 : lw_okq (⟨"GrainPit$Reader", "readPart", "(I)V"⟩, 11) := ⟨⟨by decide +kernel, by decide +kernel⟩, List.mem_of_getElem? (i := 40) (by decide +kernel), List.mem_of_getElem? (i := 374) (by decide +kernel), List.mem_of_getElem? (i := 375) (by decide +kernel)⟩
theorem lw_p10 : lw_okq (⟨"GrainPit$Reader", "readFactor", "(I)V"⟩, 11) := ⟨⟨by decide +kernel, by decide +kernel⟩, List.mem_of_getElem? (i := 40) (by decide +kernel), List.mem_of_getElem? (i := 378) (by decide +kernel), List.mem_of_getElem? (i := 379) (by decide +kernel)⟩
theorem lw_p11 : lw_okq (⟨"GrainPit$Reader", "emit", "(I)V"⟩, 11) := ⟨⟨by decide +kernel, by decide +kernel⟩, List.mem_of_getElem? (i := 40) (by decide +kernel), List.mem_of_getElem? (i := 382) (by decide +kernel), List.mem_of_getElem? (i := 383) (by decide +kernel)⟩
theorem lw_p12 : lw_okq (⟨"GrainPit$Reader", "take", "()V"⟩, 11) := ⟨⟨by decide +kernel, by decide +kernel⟩, List.mem_of_getElem? (i := 40) (by decide +kernel), List.mem_of_getElem? (i := 386) (by decide +kernel), List.mem_of_getElem? (i := 387) (by decide +kernel)⟩
theorem lw_p13 : lw_okq (⟨"GrainPit$Reader", "readBracket", "(IZ)V"⟩, 11) := ⟨⟨by decide +kernel, by decide +kernel⟩, List.mem_of_getElem? (i := 40) (by decide +kernel), List.mem_of_getElem? (i := 390) (by decide +kernel), List.mem_of_getElem? (i := 391) (by decide +kernel)⟩
theorem lw_p14 : lw_okq (⟨"java/util/ArrayList", "add", "(Ljava/lang/Object;[Ljava/lang/Object;I)V"⟩, 3) := ⟨⟨by decide +kernel, by decide +kernel⟩, List.mem_of_getElem? (i := 91) (by decide +kernel), List.mem_of_getElem? (i := 432) (by decide +kernel), List.mem_of_getElem? (i := 433) (by decide +kernel)⟩
theorem lw_p15 : lw_okq (⟨"java/util/ArrayList", "grow", "()[Ljava/lang/Object;"⟩, 3) := ⟨⟨by decide +kernel, by decide +kernel⟩, List.mem_of_getElem? (i := 91) (by decide +kernel), List.mem_of_getElem? (i := 436) (by decide +kernel), List.mem_of_getElem? (i := 437) (by decide +kernel)⟩
def lw_privs_1 : List (MethodName × Nat) := [(⟨"GrainPit$Reader", "advance", "()V"⟩, 11), (⟨"GrainPit$Reader", "wordFrom", "(II)I"⟩, 11), (⟨"GrainPit$Reader", "refuseIf", "(ZI)V"⟩, 11), (⟨"GrainPit$Reader", "readNumber", "()V"⟩, 11), (⟨"GrainPit$Reader", "readRule", "(Ljava/util/ArrayList;)V"⟩, 11), (⟨"GrainPit$Reader", "readOnly", "(I)V"⟩, 11), (⟨"GrainPit$Reader", "readExpr", "(I)V"⟩, 11), (⟨"GrainPit$Reader", "readCond", "(I)V"⟩, 11), (⟨"GrainPit$Reader", "readSum", "(I)V"⟩, 11), (⟨"GrainPit$Reader", "readPart", "(I)V"⟩, 11), (⟨"GrainPit$Reader", "readFactor", "(I)V"⟩, 11), (⟨"GrainPit$Reader", "emit", "(I)V"⟩, 11), (⟨"GrainPit$Reader", "take", "()V"⟩, 11), (⟨"GrainPit$Reader", "readBracket", "(IZ)V"⟩, 11), (⟨"java/util/ArrayList", "add", "(Ljava/lang/Object;[Ljava/lang/Object;I)V"⟩, 3), (⟨"java/util/ArrayList", "grow", "()[Ljava/lang/Object;"⟩, 3)]
theorem lw_r1 : ∀ q ∈ lw_privs_1, lw_okq q := List.forall_mem_cons.mpr ⟨lw_p0, List.forall_mem_cons.mpr ⟨lw_p1, List.forall_mem_cons.mpr ⟨lw_p2, List.forall_mem_cons.mpr ⟨lw_p3, List.forall_mem_cons.mpr ⟨lw_p4, List.forall_mem_cons.mpr ⟨lw_p5, List.forall_mem_cons.mpr ⟨lw_p6, List.forall_mem_cons.mpr ⟨lw_p7, List.forall_mem_cons.mpr ⟨lw_p8, List.forall_mem_cons.mpr ⟨lw_p9, List.forall_mem_cons.mpr ⟨lw_p10, List.forall_mem_cons.mpr ⟨lw_p11, List.forall_mem_cons.mpr ⟨lw_p12, List.forall_mem_cons.mpr ⟨lw_p13, List.forall_mem_cons.mpr ⟨lw_p14, List.forall_mem_cons.mpr ⟨lw_p15, fun _ h => absurd h List.not_mem_nil⟩⟩⟩⟩⟩⟩⟩⟩⟩⟩⟩⟩⟩⟩⟩⟩
theorem lw_p16 : lw_okq (⟨"java/util/ArrayList", "grow", "(I)[Ljava/lang/Object;"⟩, 3) := ⟨⟨by decide +kernel, by decide +kernel⟩, List.mem_of_getElem? (i := 91) (by decide +kernel), List.mem_of_getElem? (i := 440) (by decide +kernel), List.mem_of_getElem? (i := 441) (by decide +kernel)⟩
theorem lw_p17 : lw_okq (⟨"java/util/ArrayList", "fastRemove", "([Ljava/lang/Object;I)V"⟩, 3) := ⟨⟨by decide +kernel, by decide +kernel⟩, List.mem_of_getElem? (i := 91) (by decide +kernel), List.mem_of_getElem? (i := 490) (by decide +kernel), List.mem_of_getElem? (i := 491) (by decide +kernel)⟩
theorem lw_p18 : lw_okq (⟨"GrainPit", "reasonAgainst", "(IZIII)I"⟩, 11) := ⟨⟨by decide +kernel, by decide +kernel⟩, List.mem_of_getElem? (i := 32) (by decide +kernel), List.mem_of_getElem? (i := 533) (by decide +kernel), List.mem_of_getElem? (i := 534) (by decide +kernel)⟩
theorem lw_p19 : lw_okq (⟨"GrainPit", "memberOf", "(I)LGrainPit$Member;"⟩, 11) := ⟨⟨by decide +kernel, by decide +kernel⟩, List.mem_of_getElem? (i := 32) (by decide +kernel), List.mem_of_getElem? (i := 537) (by decide +kernel), List.mem_of_getElem? (i := 538) (by decide +kernel)⟩
theorem lw_p20 : lw_okq (⟨"GrainPit", "isTooFar", "(II)Z"⟩, 11) := ⟨⟨by decide +kernel, by decide +kernel⟩, List.mem_of_getElem? (i := 32) (by decide +kernel), List.mem_of_getElem? (i := 555) (by decide +kernel), List.mem_of_getElem? (i := 556) (by decide +kernel)⟩
theorem lw_p21 : lw_okq (⟨"GrainPit", "latestPrice", "(I)I"⟩, 11) := ⟨⟨by decide +kernel, by decide +kernel⟩, List.mem_of_getElem? (i := 32) (by decide +kernel), List.mem_of_getElem? (i := 559) (by decide +kernel), List.mem_of_getElem? (i := 560) (by decide +kernel)⟩
theorem lw_p22 : lw_okq (⟨"GrainPit$Rulebook", "inForce", "(II)LGrainPit$Rule;"⟩, 4) := ⟨⟨by decide +kernel, by decide +kernel⟩, List.mem_of_getElem? (i := 85) (by decide +kernel), List.mem_of_getElem? (i := 575) (by decide +kernel), List.mem_of_getElem? (i := 576) (by decide +kernel)⟩
theorem lw_p23 : lw_okq (⟨"GrainPit$Rulebook", "work", "([I)I"⟩, 4) := ⟨⟨by decide +kernel, by decide +kernel⟩, List.mem_of_getElem? (i := 85) (by decide +kernel), List.mem_of_getElem? (i := 582) (by decide +kernel), List.mem_of_getElem? (i := 583) (by decide +kernel)⟩
theorem lw_p24 : lw_okq (⟨"GrainPit$Rulebook", "push", "(I)V"⟩, 4) := ⟨⟨by decide +kernel, by decide +kernel⟩, List.mem_of_getElem? (i := 85) (by decide +kernel), List.mem_of_getElem? (i := 586) (by decide +kernel), List.mem_of_getElem? (i := 587) (by decide +kernel)⟩
theorem lw_p25 : lw_okq (⟨"GrainPit$Rulebook", "apply", "(I)V"⟩, 4) := ⟨⟨by decide +kernel, by decide +kernel⟩, List.mem_of_getElem? (i := 85) (by decide +kernel), List.mem_of_getElem? (i := 590) (by decide +kernel), List.mem_of_getElem? (i := 591) (by decide +kernel)⟩
theorem lw_p26 : lw_okq (⟨"GrainPit$Rulebook", "pop", "()I"⟩, 4) := ⟨⟨by decide +kernel, by decide +kernel⟩, List.mem_of_getElem? (i := 85) (by decide +kernel), List.mem_of_getElem? (i := 594) (by decide +kernel), List.mem_of_getElem? (i := 595) (by decide +kernel)⟩
theorem lw_p27 : lw_okq (⟨"GrainPit", "allWaiting", "()I"⟩, 11) := ⟨⟨by decide +kernel, by decide +kernel⟩, List.mem_of_getElem? (i := 32) (by decide +kernel), List.mem_of_getElem? (i := 614) (by decide +kernel), List.mem_of_getElem? (i := 615) (by decide +kernel)⟩
theorem lw_p28 : lw_okq (⟨"GrainPit", "fill", "(IZIII)I"⟩, 11) := ⟨⟨by decide +kernel, by decide +kernel⟩, List.mem_of_getElem? (i := 32) (by decide +kernel), List.mem_of_getElem? (i := 618) (by decide +kernel), List.mem_of_getElem? (i := 619) (by decide +kernel)⟩
theorem lw_p29 : lw_okq (⟨"GrainPit", "exchange", "(IIIII)V"⟩, 11) := ⟨⟨by decide +kernel, by decide +kernel⟩, List.mem_of_getElem? (i := 32) (by decide +kernel), List.mem_of_getElem? (i := 659) (by decide +kernel), List.mem_of_getElem? (i := 660) (by decide +kernel)⟩
theorem lw_p30 : lw_okq (⟨"java/util/ArrayList", "rangeCheckForAdd", "(I)V"⟩, 3) := ⟨⟨by decide +kernel, by decide +kernel⟩, List.mem_of_getElem? (i := 91) (by decide +kernel), List.mem_of_getElem? (i := 711) (by decide +kernel), List.mem_of_getElem? (i := 712) (by decide +kernel)⟩
theorem lw_p31 : lw_okq (⟨"GrainPit", "tradeOf", "(I)LGrainPit$Trade;"⟩, 11) := ⟨⟨by decide +kernel, by decide +kernel⟩, List.mem_of_getElem? (i := 32) (by decide +kernel), List.mem_of_getElem? (i := 737) (by decide +kernel), List.mem_of_getElem? (i := 738) (by decide +kernel)⟩
def lw_privs_2 : List (MethodName × Nat) := [(⟨"java/util/ArrayList", "grow", "(I)[Ljava/lang/Object;"⟩, 3), (⟨"java/util/ArrayList", "fastRemove", "([Ljava/lang/Object;I)V"⟩, 3), (⟨"GrainPit", "reasonAgainst", "(IZIII)I"⟩, 11), (⟨"GrainPit", "memberOf", "(I)LGrainPit$Member;"⟩, 11), (⟨"GrainPit", "isTooFar", "(II)Z"⟩, 11), (⟨"GrainPit", "latestPrice", "(I)I"⟩, 11), (⟨"GrainPit$Rulebook", "inForce", "(II)LGrainPit$Rule;"⟩, 4), (⟨"GrainPit$Rulebook", "work", "([I)I"⟩, 4), (⟨"GrainPit$Rulebook", "push", "(I)V"⟩, 4), (⟨"GrainPit$Rulebook", "apply", "(I)V"⟩, 4), (⟨"GrainPit$Rulebook", "pop", "()I"⟩, 4), (⟨"GrainPit", "allWaiting", "()I"⟩, 11), (⟨"GrainPit", "fill", "(IZIII)I"⟩, 11), (⟨"GrainPit", "exchange", "(IIIII)V"⟩, 11), (⟨"java/util/ArrayList", "rangeCheckForAdd", "(I)V"⟩, 3), (⟨"GrainPit", "tradeOf", "(I)LGrainPit$Trade;"⟩, 11)]
theorem lw_r2 : ∀ q ∈ lw_privs_2, lw_okq q := List.forall_mem_cons.mpr ⟨lw_p16, List.forall_mem_cons.mpr ⟨lw_p17, List.forall_mem_cons.mpr ⟨lw_p18, List.forall_mem_cons.mpr ⟨lw_p19, List.forall_mem_cons.mpr ⟨lw_p20, List.forall_mem_cons.mpr ⟨lw_p21, List.forall_mem_cons.mpr ⟨lw_p22, List.forall_mem_cons.mpr ⟨lw_p23, List.forall_mem_cons.mpr ⟨lw_p24, List.forall_mem_cons.mpr ⟨lw_p25, List.forall_mem_cons.mpr ⟨lw_p26, List.forall_mem_cons.mpr ⟨lw_p27, List.forall_mem_cons.mpr ⟨lw_p28, List.forall_mem_cons.mpr ⟨lw_p29, List.forall_mem_cons.mpr ⟨lw_p30, List.forall_mem_cons.mpr ⟨lw_p31, fun _ h => absurd h List.not_mem_nil⟩⟩⟩⟩⟩⟩⟩⟩⟩⟩⟩⟩⟩⟩⟩⟩
theorem lw_p32 : lw_okq (⟨"GrainPit", "inDefault", "(I)Z"⟩, 11) := ⟨⟨by decide +kernel, by decide +kernel⟩, List.mem_of_getElem? (i := 32) (by decide +kernel), List.mem_of_getElem? (i := 745) (by decide +kernel), List.mem_of_getElem? (i := 746) (by decide +kernel)⟩
theorem lw_p33 : lw_okq (⟨"GrainPit", "endPrice", "(I)I"⟩, 11) := ⟨⟨by decide +kernel, by decide +kernel⟩, List.mem_of_getElem? (i := 32) (by decide +kernel), List.mem_of_getElem? (i := 782) (by decide +kernel), List.mem_of_getElem? (i := 783) (by decide +kernel)⟩
theorem lw_p34 : lw_okq (⟨"GrainPit", "fallsTonight", "(LGrainPit$Member;)Z"⟩, 11) := ⟨⟨by decide +kernel, by decide +kernel⟩, List.mem_of_getElem? (i := 32) (by decide +kernel), List.mem_of_getElem? (i := 805) (by decide +kernel), List.mem_of_getElem? (i := 806) (by decide +kernel)⟩
theorem lw_p35 : lw_okq (⟨"GrainPit", "worthOf", "(LGrainPit$Member;)J"⟩, 11) := ⟨⟨by decide +kernel, by decide +kernel⟩, List.mem_of_getElem? (i := 32) (by decide +kernel), List.mem_of_getElem? (i := 809) (by decide +kernel), List.mem_of_getElem? (i := 810) (by decide +kernel)⟩
theorem lw_p36 : lw_okq (⟨"GrainPit", "needOf", "(LGrainPit$Member;I)J"⟩, 11) := ⟨⟨by decide +kernel, by decide +kernel⟩, List.mem_of_getElem? (i := 32) (by decide +kernel), List.mem_of_getElem? (i := 813) (by decide +kernel), List.mem_of_getElem? (i := 814) (by decide +kernel)⟩
theorem lw_p37 : lw_okq (⟨"GrainPit", "closeOut", "(I)V"⟩, 11) := ⟨⟨by decide +kernel, by decide +kernel⟩, List.mem_of_getElem? (i := 32) (by decide +kernel), List.mem_of_getElem? (i := 817) (by decide +kernel), List.mem_of_getElem? (i := 818) (by decide +kernel)⟩
theorem lw_p38 : lw_okq (⟨"GrainPit", "nextOpposite", "(IIZ)I"⟩, 11) := ⟨⟨by decide +kernel, by decide +kernel⟩, List.mem_of_getElem? (i := 32) (by decide +kernel), List.mem_of_getElem? (i := 821) (by decide +kernel), List.mem_of_getElem? (i := 822) (by decide +kernel)⟩
theorem lw_p39 : lw_okq (⟨"GrainPit", "rememberMembers", "(LGrainPit$Day;)V"⟩, 11) := ⟨⟨by decide +kernel, by decide +kernel⟩, List.mem_of_getElem? (i := 32) (by decide +kernel), List.mem_of_getElem? (i := 825) (by decide +kernel), List.mem_of_getElem? (i := 826) (by decide +kernel)⟩
theorem lw_p40 : lw_okq (⟨"GrainPit", "allHeld", "()I"⟩, 11) := ⟨⟨by decide +kernel, by decide +kernel⟩, List.mem_of_getElem? (i := 32) (by decide +kernel), List.mem_of_getElem? (i := 838) (by decide +kernel), List.mem_of_getElem? (i := 839) (by decide +kernel)⟩
theorem lw_p41 : lw_okq (⟨"GrainPit", "receiptOf", "(I)LGrainPit$Receipt;"⟩, 11) := ⟨⟨by decide +kernel, by decide +kernel⟩, List.mem_of_getElem? (i := 32) (by decide +kernel), List.mem_of_getElem? (i := 878) (by decide +kernel), List.mem_of_getElem? (i := 879) (by decide +kernel)⟩
theorem lw_p42 : lw_okq (⟨"GrainPit", "heldOf", "(II)I"⟩, 11) := ⟨⟨by decide +kernel, by decide +kernel⟩, List.mem_of_getElem? (i := 32) (by decide +kernel), List.mem_of_getElem? (i := 882) (by decide +kernel), List.mem_of_getElem? (i := 883) (by decide +kernel)⟩
theorem lw_p43 : lw_okq (⟨"GrainPit", "heldNotice", "(I)LGrainPit$Notice;"⟩, 11) := ⟨⟨by decide +kernel, by decide +kernel⟩, List.mem_of_getElem? (i := 32) (by decide +kernel), List.mem_of_getElem? (i := 923) (by decide +kernel), List.mem_of_getElem? (i := 924) (by decide +kernel)⟩
theorem lw_p44 : lw_okq (⟨"GrainPit", "noticeOf", "(I)LGrainPit$Notice;"⟩, 11) := ⟨⟨by decide +kernel, by decide +kernel⟩, List.mem_of_getElem? (i := 32) (by decide +kernel), List.mem_of_getElem? (i := 927) (by decide +kernel), List.mem_of_getElem? (i := 928) (by decide +kernel)⟩
theorem lw_p45 : lw_okq (⟨"GrainPit", "nextHolder", "(LGrainPit$Notice;)I"⟩, 11) := ⟨⟨by decide +kernel, by decide +kernel⟩, List.mem_of_getElem? (i := 32) (by decide +kernel), List.mem_of_getElem? (i := 931) (by decide +kernel), List.mem_of_getElem? (i := 932) (by decide +kernel)⟩
theorem lw_p46 : lw_okq (⟨"GrainPit", "dueIn", "(I)I"⟩, 11) := ⟨⟨by decide +kernel, by decide +kernel⟩, List.mem_of_getElem? (i := 32) (by decide +kernel), List.mem_of_getElem? (i := 963) (by decide +kernel), List.mem_of_getElem? (i := 964) (by decide +kernel)⟩
theorem lw_p47 : lw_okq (⟨"GrainPit", "cornerOf", "(I)I"⟩, 11) := ⟨⟨by decide +kernel, by decide +kernel⟩, List.mem_of_getElem? (i := 32) (by decide +kernel), List.mem_of_getElem? (i := 967) (by decide +kernel), List.mem_of_getElem? (i := 968) (by decide +kernel)⟩
def lw_privs_3 : List (MethodName × Nat) := [(⟨"GrainPit", "inDefault", "(I)Z"⟩, 11), (⟨"GrainPit", "endPrice", "(I)I"⟩, 11), (⟨"GrainPit", "fallsTonight", "(LGrainPit$Member;)Z"⟩, 11), (⟨"GrainPit", "worthOf", "(LGrainPit$Member;)J"⟩, 11), (⟨"GrainPit", "needOf", "(LGrainPit$Member;I)J"⟩, 11), (⟨"GrainPit", "closeOut", "(I)V"⟩, 11), (⟨"GrainPit", "nextOpposite", "(IIZ)I"⟩, 11), (⟨"GrainPit", "rememberMembers", "(LGrainPit$Day;)V"⟩, 11), (⟨"GrainPit", "allHeld", "()I"⟩, 11), (⟨"GrainPit", "receiptOf", "(I)LGrainPit$Receipt;"⟩, 11), (⟨"GrainPit", "heldOf", "(II)I"⟩, 11), (⟨"GrainPit", "heldNotice", "(I)LGrainPit$Notice;"⟩, 11), (⟨"GrainPit", "noticeOf", "(I)LGrainPit$Notice;"⟩, 11), (⟨"GrainPit", "nextHolder", "(LGrainPit$Notice;)I"⟩, 11), (⟨"GrainPit", "dueIn", "(I)I"⟩, 11), (⟨"GrainPit", "cornerOf", "(I)I"⟩, 11)]
theorem lw_r3 : ∀ q ∈ lw_privs_3, lw_okq q := List.forall_mem_cons.mpr ⟨lw_p32, List.forall_mem_cons.mpr ⟨lw_p33, List.forall_mem_cons.mpr ⟨lw_p34, List.forall_mem_cons.mpr ⟨lw_p35, List.forall_mem_cons.mpr ⟨lw_p36, List.forall_mem_cons.mpr ⟨lw_p37, List.forall_mem_cons.mpr ⟨lw_p38, List.forall_mem_cons.mpr ⟨lw_p39, List.forall_mem_cons.mpr ⟨lw_p40, List.forall_mem_cons.mpr ⟨lw_p41, List.forall_mem_cons.mpr ⟨lw_p42, List.forall_mem_cons.mpr ⟨lw_p43, List.forall_mem_cons.mpr ⟨lw_p44, List.forall_mem_cons.mpr ⟨lw_p45, List.forall_mem_cons.mpr ⟨lw_p46, List.forall_mem_cons.mpr ⟨lw_p47, fun _ h => absurd h List.not_mem_nil⟩⟩⟩⟩⟩⟩⟩⟩⟩⟩⟩⟩⟩⟩⟩⟩
theorem lw_p48 : lw_okq (⟨"GrainPit", "receiptsBut", "(I)I"⟩, 11) := ⟨⟨by decide +kernel, by decide +kernel⟩, List.mem_of_getElem? (i := 32) (by decide +kernel), List.mem_of_getElem? (i := 971) (by decide +kernel), List.mem_of_getElem? (i := 972) (by decide +kernel)⟩
theorem lw_p49 : lw_okq (⟨"GrainPit", "isSqueezed", "(I)Z"⟩, 11) := ⟨⟨by decide +kernel, by decide +kernel⟩, List.mem_of_getElem? (i := 32) (by decide +kernel), List.mem_of_getElem? (i := 975) (by decide +kernel), List.mem_of_getElem? (i := 976) (by decide +kernel)⟩
theorem lw_p50 : lw_okq (⟨"GrainPit", "isOver", "(I)Z"⟩, 11) := ⟨⟨by decide +kernel, by decide +kernel⟩, List.mem_of_getElem? (i := 32) (by decide +kernel), List.mem_of_getElem? (i := 983) (by decide +kernel), List.mem_of_getElem? (i := 984) (by decide +kernel)⟩
theorem lw_p51 : lw_okq (⟨"GrainPit", "isKnown", "(II)Z"⟩, 11) := ⟨⟨by decide +kernel, by decide +kernel⟩, List.mem_of_getElem? (i := 32) (by decide +kernel), List.mem_of_getElem? (i := 991) (by decide +kernel), List.mem_of_getElem? (i := 992) (by decide +kernel)⟩
theorem lw_p52 : lw_okq (⟨"GrainPit", "priceOn", "(III)I"⟩, 11) := ⟨⟨by decide +kernel, by decide +kernel⟩, List.mem_of_getElem? (i := 32) (by decide +kernel), List.mem_of_getElem? (i := 995) (by decide +kernel), List.mem_of_getElem? (i := 996) (by decide +kernel)⟩
theorem lw_p53 : lw_okq (⟨"java/lang/Throwable", "fillInStackTrace", "(I)Ljava/lang/Throwable;"⟩, 6) := ⟨⟨by decide +kernel, by decide +kernel⟩, List.mem_of_getElem? (i := 1043) (by decide +kernel), List.mem_of_getElem? (i := 1041) (by decide +kernel), List.mem_of_getElem? (i := 1042) (by decide +kernel)⟩
theorem lw_p54 : lw_okq (⟨"GrainPit", "freeReceiptsOf", "(I)I"⟩, 11) := ⟨⟨by decide +kernel, by decide +kernel⟩, List.mem_of_getElem? (i := 32) (by decide +kernel), List.mem_of_getElem? (i := 1090) (by decide +kernel), List.mem_of_getElem? (i := 1091) (by decide +kernel)⟩
theorem lw_p55 : lw_okq (⟨"GrainPitModel", "lay", "(I)V"⟩, 48) := ⟨⟨by decide +kernel, by decide +kernel⟩, List.mem_of_getElem? (i := 1110) (by decide +kernel), List.mem_of_getElem? (i := 1270) (by decide +kernel), List.mem_of_getElem? (i := 1271) (by decide +kernel)⟩
theorem lw_p56 : lw_okq (⟨"GrainPitModel", "next", "()V"⟩, 48) := ⟨⟨by decide +kernel, by decide +kernel⟩, List.mem_of_getElem? (i := 1110) (by decide +kernel), List.mem_of_getElem? (i := 1282) (by decide +kernel), List.mem_of_getElem? (i := 1283) (by decide +kernel)⟩
theorem lw_p57 : lw_okq (⟨"GrainPitModel", "wordAt", "(II)I"⟩, 48) := ⟨⟨by decide +kernel, by decide +kernel⟩, List.mem_of_getElem? (i := 1110) (by decide +kernel), List.mem_of_getElem? (i := 1289) (by decide +kernel), List.mem_of_getElem? (i := 1290) (by decide +kernel)⟩
theorem lw_p58 : lw_okq (⟨"GrainPitModel", "readRule", "()Z"⟩, 48) := ⟨⟨by decide +kernel, by decide +kernel⟩, List.mem_of_getElem? (i := 1110) (by decide +kernel), List.mem_of_getElem? (i := 1303) (by decide +kernel), List.mem_of_getElem? (i := 1304) (by decide +kernel)⟩
theorem lw_p59 : lw_okq (⟨"GrainPitModel", "fails", "(I)Z"⟩, 48) := ⟨⟨by decide +kernel, by decide +kernel⟩, List.mem_of_getElem? (i := 1110) (by decide +kernel), List.mem_of_getElem? (i := 1307) (by decide +kernel), List.mem_of_getElem? (i := 1308) (by decide +kernel)⟩
theorem lw_p60 : lw_okq (⟨"GrainPitModel", "readExpr", "()Z"⟩, 48) := ⟨⟨by decide +kernel, by decide +kernel⟩, List.mem_of_getElem? (i := 1110) (by decide +kernel), List.mem_of_getElem? (i := 1311) (by decide +kernel), List.mem_of_getElem? (i := 1312) (by decide +kernel)⟩
theorem lw_p61 : lw_okq (⟨"GrainPitModel", "readSum", "()Z"⟩, 48) := ⟨⟨by decide +kernel, by decide +kernel⟩, List.mem_of_getElem? (i := 1110) (by decide +kernel), List.mem_of_getElem? (i := 1315) (by decide +kernel), List.mem_of_getElem? (i := 1316) (by decide +kernel)⟩
theorem lw_p62 : lw_okq (⟨"GrainPitModel", "readPart", "()Z"⟩, 48) := ⟨⟨by decide +kernel, by decide +kernel⟩, List.mem_of_getElem? (i := 1110) (by decide +kernel), List.mem_of_getElem? (i := 1319) (by decide +kernel), List.mem_of_getElem? (i := 1320) (by decide +kernel)⟩
theorem lw_p63 : lw_okq (⟨"GrainPitModel", "readFactor", "()Z"⟩, 48) := ⟨⟨by decide +kernel, by decide +kernel⟩, List.mem_of_getElem? (i := 1110) (by decide +kernel), List.mem_of_getElem? (i := 1323) (by decide +kernel), List.mem_of_getElem? (i := 1324) (by decide +kernel)⟩
def lw_privs_4 : List (MethodName × Nat) := [(⟨"GrainPit", "receiptsBut", "(I)I"⟩, 11), (⟨"GrainPit", "isSqueezed", "(I)Z"⟩, 11), (⟨"GrainPit", "isOver", "(I)Z"⟩, 11), (⟨"GrainPit", "isKnown", "(II)Z"⟩, 11), (⟨"GrainPit", "priceOn", "(III)I"⟩, 11), (⟨"java/lang/Throwable", "fillInStackTrace", "(I)Ljava/lang/Throwable;"⟩, 6), (⟨"GrainPit", "freeReceiptsOf", "(I)I"⟩, 11), (⟨"GrainPitModel", "lay", "(I)V"⟩, 48), (⟨"GrainPitModel", "next", "()V"⟩, 48), (⟨"GrainPitModel", "wordAt", "(II)I"⟩, 48), (⟨"GrainPitModel", "readRule", "()Z"⟩, 48), (⟨"GrainPitModel", "fails", "(I)Z"⟩, 48), (⟨"GrainPitModel", "readExpr", "()Z"⟩, 48), (⟨"GrainPitModel", "readSum", "()Z"⟩, 48), (⟨"GrainPitModel", "readPart", "()Z"⟩, 48), (⟨"GrainPitModel", "readFactor", "()Z"⟩, 48)]
theorem lw_r4 : ∀ q ∈ lw_privs_4, lw_okq q := List.forall_mem_cons.mpr ⟨lw_p48, List.forall_mem_cons.mpr ⟨lw_p49, List.forall_mem_cons.mpr ⟨lw_p50, List.forall_mem_cons.mpr ⟨lw_p51, List.forall_mem_cons.mpr ⟨lw_p52, List.forall_mem_cons.mpr ⟨lw_p53, List.forall_mem_cons.mpr ⟨lw_p54, List.forall_mem_cons.mpr ⟨lw_p55, List.forall_mem_cons.mpr ⟨lw_p56, List.forall_mem_cons.mpr ⟨lw_p57, List.forall_mem_cons.mpr ⟨lw_p58, List.forall_mem_cons.mpr ⟨lw_p59, List.forall_mem_cons.mpr ⟨lw_p60, List.forall_mem_cons.mpr ⟨lw_p61, List.forall_mem_cons.mpr ⟨lw_p62, List.forall_mem_cons.mpr ⟨lw_p63, fun _ h => absurd h List.not_mem_nil⟩⟩⟩⟩⟩⟩⟩⟩⟩⟩⟩⟩⟩⟩⟩⟩
theorem lw_p64 : lw_okq (⟨"GrainPitModel", "take", "()Z"⟩, 48) := ⟨⟨by decide +kernel, by decide +kernel⟩, List.mem_of_getElem? (i := 1110) (by decide +kernel), List.mem_of_getElem? (i := 1327) (by decide +kernel), List.mem_of_getElem? (i := 1328) (by decide +kernel)⟩
theorem lw_p65 : lw_okq (⟨"GrainPitModel", "isSign", "(I)Z"⟩, 48) := ⟨⟨by decide +kernel, by decide +kernel⟩, List.mem_of_getElem? (i := 1110) (by decide +kernel), List.mem_of_getElem? (i := 1331) (by decide +kernel), List.mem_of_getElem? (i := 1332) (by decide +kernel)⟩
theorem lw_p66 : lw_okq (⟨"GrainPitModel", "opens", "()Z"⟩, 48) := ⟨⟨by decide +kernel, by decide +kernel⟩, List.mem_of_getElem? (i := 1110) (by decide +kernel), List.mem_of_getElem? (i := 1335) (by decide +kernel), List.mem_of_getElem? (i := 1336) (by decide +kernel)⟩
theorem lw_p67 : lw_okq (⟨"GrainPitModel", "takeSign", "(I)Z"⟩, 48) := ⟨⟨by decide +kernel, by decide +kernel⟩, List.mem_of_getElem? (i := 1110) (by decide +kernel), List.mem_of_getElem? (i := 1339) (by decide +kernel), List.mem_of_getElem? (i := 1340) (by decide +kernel)⟩
theorem lw_p68 : lw_okq (⟨"GrainPitModel", "ruleOf", "(IIIIIII)I"⟩, 48) := ⟨⟨by decide +kernel, by decide +kernel⟩, List.mem_of_getElem? (i := 1110) (by decide +kernel), List.mem_of_getElem? (i := 1356) (by decide +kernel), List.mem_of_getElem? (i := 1357) (by decide +kernel)⟩
theorem lw_p69 : lw_okq (⟨"GrainPitModel", "expr", "()I"⟩, 48) := ⟨⟨by decide +kernel, by decide +kernel⟩, List.mem_of_getElem? (i := 1110) (by decide +kernel), List.mem_of_getElem? (i := 1360) (by decide +kernel), List.mem_of_getElem? (i := 1361) (by decide +kernel)⟩
theorem lw_p70 : lw_okq (⟨"GrainPitModel", "sum", "()I"⟩, 48) := ⟨⟨by decide +kernel, by decide +kernel⟩, List.mem_of_getElem? (i := 1110) (by decide +kernel), List.mem_of_getElem? (i := 1364) (by decide +kernel), List.mem_of_getElem? (i := 1365) (by decide +kernel)⟩
theorem lw_p71 : lw_okq (⟨"GrainPitModel", "part", "()I"⟩, 48) := ⟨⟨by decide +kernel, by decide +kernel⟩, List.mem_of_getElem? (i := 1110) (by decide +kernel), List.mem_of_getElem? (i := 1368) (by decide +kernel), List.mem_of_getElem? (i := 1369) (by decide +kernel)⟩
theorem lw_p72 : lw_okq (⟨"GrainPitModel", "factor", "()I"⟩, 48) := ⟨⟨by decide +kernel, by decide +kernel⟩, List.mem_of_getElem? (i := 1110) (by decide +kernel), List.mem_of_getElem? (i := 1372) (by decide +kernel), List.mem_of_getElem? (i := 1373) (by decide +kernel)⟩
theorem lw_p73 : lw_okq (⟨"GrainPitModel", "isNext", "(I)Z"⟩, 48) := ⟨⟨by decide +kernel, by decide +kernel⟩, List.mem_of_getElem? (i := 1110) (by decide +kernel), List.mem_of_getElem? (i := 1376) (by decide +kernel), List.mem_of_getElem? (i := 1377) (by decide +kernel)⟩
theorem lw_p74 : lw_okq (⟨"GrainPitModel", "reason", "(IZIII)I"⟩, 48) := ⟨⟨by decide +kernel, by decide +kernel⟩, List.mem_of_getElem? (i := 1110) (by decide +kernel), List.mem_of_getElem? (i := 1384) (by decide +kernel), List.mem_of_getElem? (i := 1385) (by decide +kernel)⟩
theorem lw_p75 : lw_okq (⟨"GrainPitModel", "isMember", "(I)Z"⟩, 48) := ⟨⟨by decide +kernel, by decide +kernel⟩, List.mem_of_getElem? (i := 1110) (by decide +kernel), List.mem_of_getElem? (i := 1388) (by decide +kernel), List.mem_of_getElem? (i := 1389) (by decide +kernel)⟩
theorem lw_p76 : lw_okq (⟨"GrainPitModel", "latest", "(I)I"⟩, 48) := ⟨⟨by decide +kernel, by decide +kernel⟩, List.mem_of_getElem? (i := 1110) (by decide +kernel), List.mem_of_getElem? (i := 1397) (by decide +kernel), List.mem_of_getElem? (i := 1398) (by decide +kernel)⟩
theorem lw_p77 : lw_okq (⟨"GrainPitModel", "settleOf", "(III)I"⟩, 48) := ⟨⟨by decide +kernel, by decide +kernel⟩, List.mem_of_getElem? (i := 1110) (by decide +kernel), List.mem_of_getElem? (i := 1401) (by decide +kernel), List.mem_of_getElem? (i := 1402) (by decide +kernel)⟩
theorem lw_p78 : lw_okq (⟨"GrainPitModel", "ranked", "(ZII)I"⟩, 48) := ⟨⟨by decide +kernel, by decide +kernel⟩, List.mem_of_getElem? (i := 1110) (by decide +kernel), List.mem_of_getElem? (i := 1406) (by decide +kernel), List.mem_of_getElem? (i := 1407) (by decide +kernel)⟩
theorem lw_p79 : lw_okq (⟨"GrainPitModel", "isBehind", "(IIZ)Z"⟩, 48) := ⟨⟨by decide +kernel, by decide +kernel⟩, List.mem_of_getElem? (i := 1110) (by decide +kernel), List.mem_of_getElem? (i := 1410) (by decide +kernel), List.mem_of_getElem? (i := 1411) (by decide +kernel)⟩
def lw_privs_5 : List (MethodName × Nat) := [(⟨"GrainPitModel", "take", "()Z"⟩, 48), (⟨"GrainPitModel", "isSign", "(I)Z"⟩, 48), (⟨"GrainPitModel", "opens", "()Z"⟩, 48), (⟨"GrainPitModel", "takeSign", "(I)Z"⟩, 48), (⟨"GrainPitModel", "ruleOf", "(IIIIIII)I"⟩, 48), (⟨"GrainPitModel", "expr", "()I"⟩, 48), (⟨"GrainPitModel", "sum", "()I"⟩, 48), (⟨"GrainPitModel", "part", "()I"⟩, 48), (⟨"GrainPitModel", "factor", "()I"⟩, 48), (⟨"GrainPitModel", "isNext", "(I)Z"⟩, 48), (⟨"GrainPitModel", "reason", "(IZIII)I"⟩, 48), (⟨"GrainPitModel", "isMember", "(I)Z"⟩, 48), (⟨"GrainPitModel", "latest", "(I)I"⟩, 48), (⟨"GrainPitModel", "settleOf", "(III)I"⟩, 48), (⟨"GrainPitModel", "ranked", "(ZII)I"⟩, 48), (⟨"GrainPitModel", "isBehind", "(IIZ)Z"⟩, 48)]
theorem lw_r5 : ∀ q ∈ lw_privs_5, lw_okq q := List.forall_mem_cons.mpr ⟨lw_p64, List.forall_mem_cons.mpr ⟨lw_p65, List.forall_mem_cons.mpr ⟨lw_p66, List.forall_mem_cons.mpr ⟨lw_p67, List.forall_mem_cons.mpr ⟨lw_p68, List.forall_mem_cons.mpr ⟨lw_p69, List.forall_mem_cons.mpr ⟨lw_p70, List.forall_mem_cons.mpr ⟨lw_p71, List.forall_mem_cons.mpr ⟨lw_p72, List.forall_mem_cons.mpr ⟨lw_p73, List.forall_mem_cons.mpr ⟨lw_p74, List.forall_mem_cons.mpr ⟨lw_p75, List.forall_mem_cons.mpr ⟨lw_p76, List.forall_mem_cons.mpr ⟨lw_p77, List.forall_mem_cons.mpr ⟨lw_p78, List.forall_mem_cons.mpr ⟨lw_p79, fun _ h => absurd h List.not_mem_nil⟩⟩⟩⟩⟩⟩⟩⟩⟩⟩⟩⟩⟩⟩⟩⟩
theorem lw_p80 : lw_okq (⟨"GrainPitModel", "move", "(IIIII)V"⟩, 48) := ⟨⟨by decide +kernel, by decide +kernel⟩, List.mem_of_getElem? (i := 1110) (by decide +kernel), List.mem_of_getElem? (i := 1414) (by decide +kernel), List.mem_of_getElem? (i := 1415) (by decide +kernel)⟩
theorem lw_p81 : lw_okq (⟨"GrainPitModel", "dropOrder", "(I)V"⟩, 48) := ⟨⟨by decide +kernel, by decide +kernel⟩, List.mem_of_getElem? (i := 1110) (by decide +kernel), List.mem_of_getElem? (i := 1418) (by decide +kernel), List.mem_of_getElem? (i := 1419) (by decide +kernel)⟩
theorem lw_p82 : lw_okq (⟨"GrainPitModel", "equityOf", "(I)J"⟩, 48) := ⟨⟨by decide +kernel, by decide +kernel⟩, List.mem_of_getElem? (i := 1110) (by decide +kernel), List.mem_of_getElem? (i := 1444) (by decide +kernel), List.mem_of_getElem? (i := 1445) (by decide +kernel)⟩
theorem lw_p83 : lw_okq (⟨"GrainPitModel", "need", "(II)J"⟩, 48) := ⟨⟨by decide +kernel, by decide +kernel⟩, List.mem_of_getElem? (i := 1110) (by decide +kernel), List.mem_of_getElem? (i := 1448) (by decide +kernel), List.mem_of_getElem? (i := 1449) (by decide +kernel)⟩
theorem lw_p84 : lw_okq (⟨"GrainPitModel", "fail", "(I)V"⟩, 48) := ⟨⟨by decide +kernel, by decide +kernel⟩, List.mem_of_getElem? (i := 1110) (by decide +kernel), List.mem_of_getElem? (i := 1452) (by decide +kernel), List.mem_of_getElem? (i := 1453) (by decide +kernel)⟩
theorem lw_p85 : lw_okq (⟨"GrainPitModel", "latestPrices", "()V"⟩, 48) := ⟨⟨by decide +kernel, by decide +kernel⟩, List.mem_of_getElem? (i := 1110) (by decide +kernel), List.mem_of_getElem? (i := 1470) (by decide +kernel), List.mem_of_getElem? (i := 1471) (by decide +kernel)⟩
theorem lw_p86 : lw_okq (⟨"GrainPitModel", "isHeld", "(I)Z"⟩, 48) := ⟨⟨by decide +kernel, by decide +kernel⟩, List.mem_of_getElem? (i := 1110) (by decide +kernel), List.mem_of_getElem? (i := 1503) (by decide +kernel), List.mem_of_getElem? (i := 1504) (by decide +kernel)⟩
def lw_privs_6 : List (MethodName × Nat) := [(⟨"GrainPitModel", "move", "(IIIII)V"⟩, 48), (⟨"GrainPitModel", "dropOrder", "(I)V"⟩, 48), (⟨"GrainPitModel", "equityOf", "(I)J"⟩, 48), (⟨"GrainPitModel", "need", "(II)J"⟩, 48), (⟨"GrainPitModel", "fail", "(I)V"⟩, 48), (⟨"GrainPitModel", "latestPrices", "()V"⟩, 48), (⟨"GrainPitModel", "isHeld", "(I)Z"⟩, 48)]
theorem lw_r6 : ∀ q ∈ lw_privs_6, lw_okq q := List.forall_mem_cons.mpr ⟨lw_p80, List.forall_mem_cons.mpr ⟨lw_p81, List.forall_mem_cons.mpr ⟨lw_p82, List.forall_mem_cons.mpr ⟨lw_p83, List.forall_mem_cons.mpr ⟨lw_p84, List.forall_mem_cons.mpr ⟨lw_p85, List.forall_mem_cons.mpr ⟨lw_p86, fun _ h => absurd h List.not_mem_nil⟩⟩⟩⟩⟩⟩⟩
def lw_privs : List (MethodName × Nat) := lw_privs_1 ++ (lw_privs_2 ++ (lw_privs_3 ++ (lw_privs_4 ++ (lw_privs_5 ++ (lw_privs_6)))))
def lw_tbl : List Cond := k2_sels lw_privs ++ tables_1
theorem lw_privs_ok : ∀ q ∈ lw_privs, lw_okq q := by
  show ∀ q ∈ lw_privs_1 ++ (lw_privs_2 ++ (lw_privs_3 ++ (lw_privs_4 ++ (lw_privs_5 ++ (lw_privs_6))))), lw_okq q
  exact List.forall_mem_append.mpr ⟨lw_r1, List.forall_mem_append.mpr ⟨lw_r2, List.forall_mem_append.mpr ⟨lw_r3, List.forall_mem_append.mpr ⟨lw_r4, List.forall_mem_append.mpr ⟨lw_r5, lw_r6⟩⟩⟩⟩⟩
/-- the words of the tables that stay true under warmer tables -/
def lw_g : List Cond := lw_tbl.filter goodWord
end
section
def RX0 : String := "GrainPit$Day"
def TX0 : u_T := fun k => match k with
  | 0 => ("GrainPit$Day", "settles", "[LGrainPit$Settle;", true)
  | 1 => ("GrainPit$Day", "positions", "[I", true)
  | _ => ("GrainPit$Day", "balances", "[J", true)
def tyX0 : Nat → FieldType := fun k => match k with
  | 0 => .array (.object "GrainPit$Settle")
  | 1 => .array .int
  | _ => .array .long
abbrev wsX00 : List Cond := u_ws RX0 TX0 3
theorem nmX0 : ∀ a, a < 3 → ∀ b, b < 3 → a ≠ b → (TX0 a).2.1 ≠ (TX0 b).2.1 := by decide +kernel
theorem tyX0_ok : ∀ k, k < 3 → parseFieldDescriptor (TX0 k).2.2.1 = some (tyX0 k) := by decide +kernel
abbrev cX0_init : ByteArray := prog_2_method_1_code
def yX0_init : MethodName := ⟨RX0, "<init>", "(I)V"⟩
def RX1 : String := "GrainPit$Member"
def TX1 : u_T := fun k => match k with
  | 0 => ("GrainPit$Member", "positions", "[I", true)
  | 1 => ("GrainPit$Member", "cost", "J", false)
  | 2 => ("GrainPit$Member", "paid", "J", false)
  | 3 => ("GrainPit$Member", "called", "Z", false)
  | _ => ("GrainPit$Member", "failed", "Z", false)
def tyX1 : Nat → FieldType := fun k => match k with
  | 0 => .array .int
  | 1 => .long
  | 2 => .long
  | 3 => .boolean
  | _ => .boolean
abbrev wsX10 : List Cond := u_ws RX1 TX1 5
theorem nmX1 : ∀ a, a < 5 → ∀ b, b < 5 → a ≠ b → (TX1 a).2.1 ≠ (TX1 b).2.1 := by decide +kernel
theorem tyX1_ok : ∀ k, k < 5 → parseFieldDescriptor (TX1 k).2.2.1 = some (tyX1 k) := by decide +kernel
abbrev cX1_init : ByteArray := prog_3_method_1_code
def yX1_init : MethodName := ⟨RX1, "<init>", "()V"⟩
abbrev cX1_gain : ByteArray := prog_3_method_2_code
def yX1_gain : MethodName := ⟨RX1, "gain", "(III)V"⟩
def RX2 : String := "GrainPit$Month"
def TX2 : u_T := fun k => match k with
  | 0 => ("GrainPit$Month", "bids", "Ljava/util/ArrayList;", true)
  | 1 => ("GrainPit$Month", "offers", "Ljava/util/ArrayList;", true)
  | 2 => ("GrainPit$Month", "longs", "Ljava/util/ArrayList;", true)
  | _ => ("GrainPit$Month", "closed", "Z", false)
def tyX2 : Nat → FieldType := fun k => match k with
  | 0 => .object "java/util/ArrayList"
  | 1 => .object "java/util/ArrayList"
  | 2 => .object "java/util/ArrayList"
  | _ => .boolean
abbrev wsX20 : List Cond := u_ws RX2 TX2 4
theorem nmX2 : ∀ a, a < 4 → ∀ b, b < 4 → a ≠ b → (TX2 a).2.1 ≠ (TX2 b).2.1 := by decide +kernel
theorem tyX2_ok : ∀ k, k < 4 → parseFieldDescriptor (TX2 k).2.2.1 = some (tyX2 k) := by decide +kernel
abbrev cX2_init : ByteArray := prog_4_method_1_code
def yX2_init : MethodName := ⟨RX2, "<init>", "()V"⟩
abbrev cX2_side : ByteArray := prog_4_method_2_code
def yX2_side : MethodName := ⟨RX2, "side", "(Z)Ljava/util/ArrayList;"⟩
abbrev cX2_queue : ByteArray := prog_4_method_3_code
def yX2_queue : MethodName := ⟨RX2, "queue", "(ZLGrainPit$Stake;)V"⟩
abbrev cX2_isBetter : ByteArray := prog_4_method_4_code
def yX2_isBetter : MethodName := ⟨RX2, "isBetter", "(ZII)Z"⟩
abbrev cX2_lotsWaiting : ByteArray := prog_4_method_5_code
def yX2_lotsWaiting : MethodName := ⟨RX2, "lotsWaiting", "(ZI)I"⟩
abbrev cX2_dropAll : ByteArray := prog_4_method_6_code
def yX2_dropAll : MethodName := ⟨RX2, "dropAll", "()V"⟩
abbrev cX2_dropLatest : ByteArray := prog_4_method_7_code
def yX2_dropLatest : MethodName := ⟨RX2, "dropLatest", "(I)I"⟩
abbrev cX2_numberAt : ByteArray := prog_4_method_8_code
def yX2_numberAt : MethodName := ⟨RX2, "numberAt", "(Ljava/util/ArrayList;I)I"⟩
abbrev cX2_latestOf : ByteArray := prog_4_method_9_code
def yX2_latestOf : MethodName := ⟨RX2, "latestOf", "(Ljava/util/ArrayList;I)I"⟩
abbrev cX2_takeLongs : ByteArray := prog_4_method_10_code
def yX2_takeLongs : MethodName := ⟨RX2, "takeLongs", "(II)V"⟩
abbrev cX2_firstLongOf : ByteArray := prog_4_method_11_code
def yX2_firstLongOf : MethodName := ⟨RX2, "firstLongOf", "(I)I"⟩
def RX3 : String := "GrainPit$Notice"
def TX3 : u_T := fun k => match k with
  | 0 => ("GrainPit$Notice", "giver", "I", true)
  | 1 => ("GrainPit$Notice", "month", "I", true)
  | 2 => ("GrainPit$Notice", "receipt", "I", true)
  | 3 => ("GrainPit$Notice", "holder", "I", false)
  | 4 => ("GrainPit$Notice", "passed", "I", false)
  | 5 => ("GrainPit$Notice", "state", "I", false)
  | _ => ("GrainPit$Notice", "had", "I", false)
def tyX3 : Nat → FieldType := fun k => match k with
  | 0 => .int
  | 1 => .int
  | 2 => .int
  | 3 => .int
  | 4 => .int
  | 5 => .int
  | _ => .int
abbrev wsX30 : List Cond := u_ws RX3 TX3 7
theorem nmX3 : ∀ a, a < 7 → ∀ b, b < 7 → a ≠ b → (TX3 a).2.1 ≠ (TX3 b).2.1 := by decide +kernel
theorem tyX3_ok : ∀ k, k < 7 → parseFieldDescriptor (TX3 k).2.2.1 = some (tyX3 k) := by decide +kernel
abbrev cX3_init : ByteArray := prog_5_method_1_code
def yX3_init : MethodName := ⟨RX3, "<init>", "(IIII)V"⟩
abbrev cX3_wasWith : ByteArray := prog_5_method_2_code
def yX3_wasWith : MethodName := ⟨RX3, "wasWith", "(I)Z"⟩
abbrev cX3_handTo : ByteArray := prog_5_method_3_code
def yX3_handTo : MethodName := ⟨RX3, "handTo", "(I)V"⟩
def RX4 : String := "GrainPit$Reader"
def TX4 : u_T := fun k => match k with
  | 0 => ("GrainPit$Reader", "tape", "[C", true)
  | 1 => ("GrainPit$Reader", "length", "I", false)
  | 2 => ("GrainPit$Reader", "faultNumber", "I", false)
  | 3 => ("GrainPit$Reader", "faultPlace", "I", false)
  | 4 => ("GrainPit$Reader", "at", "I", false)
  | 5 => ("GrainPit$Reader", "place", "I", false)
  | 6 => ("GrainPit$Reader", "kind", "I", false)
  | 7 => ("GrainPit$Reader", "number", "I", false)
  | 8 => ("GrainPit$Reader", "tokens", "I", false)
  | 9 => ("GrainPit$Reader", "code", "[I", true)
  | _ => ("GrainPit$Reader", "codeLength", "I", false)
def tyX4 : Nat → FieldType := fun k => match k with
  | 0 => .array .char
  | 1 => .int
  | 2 => .int
  | 3 => .int
  | 4 => .int
  | 5 => .int
  | 6 => .int
  | 7 => .int
  | 8 => .int
  | 9 => .array .int
  | _ => .int
abbrev wsX40 : List Cond := u_ws RX4 TX4 11
theorem nmX4 : ∀ a, a < 11 → ∀ b, b < 11 → a ≠ b → (TX4 a).2.1 ≠ (TX4 b).2.1 := by decide +kernel
theorem tyX4_ok : ∀ k, k < 11 → parseFieldDescriptor (TX4 k).2.2.1 = some (tyX4 k) := by decide +kernel
abbrev cX4_init : ByteArray := prog_6_method_1_code
def yX4_init : MethodName := ⟨RX4, "<init>", "()V"⟩
abbrev cX4_hasRoomForFive : ByteArray := prog_6_method_2_code
def yX4_hasRoomForFive : MethodName := ⟨RX4, "hasRoomForFive", "()Z"⟩
abbrev cX4_append : ByteArray := prog_6_method_3_code
def yX4_append : MethodName := ⟨RX4, "append", "(I)V"⟩
abbrev cX4_readText : ByteArray := prog_6_method_4_code
def yX4_readText : MethodName := ⟨RX4, "readText", "(Ljava/util/ArrayList;)I"⟩
abbrev cX4_readRule : ByteArray := prog_6_method_5_code
def yX4_readRule : MethodName := ⟨RX4, "readRule", "(Ljava/util/ArrayList;)V"⟩
abbrev cX4_readExpr : ByteArray := prog_6_method_6_code
def yX4_readExpr : MethodName := ⟨RX4, "readExpr", "(I)V"⟩
abbrev cX4_readCond : ByteArray := prog_6_method_7_code
def yX4_readCond : MethodName := ⟨RX4, "readCond", "(I)V"⟩
abbrev cX4_readSum : ByteArray := prog_6_method_8_code
def yX4_readSum : MethodName := ⟨RX4, "readSum", "(I)V"⟩
abbrev cX4_readPart : ByteArray := prog_6_method_9_code
def yX4_readPart : MethodName := ⟨RX4, "readPart", "(I)V"⟩
abbrev cX4_readFactor : ByteArray := prog_6_method_10_code
def yX4_readFactor : MethodName := ⟨RX4, "readFactor", "(I)V"⟩
abbrev cX4_readBracket : ByteArray := prog_6_method_11_code
def yX4_readBracket : MethodName := ⟨RX4, "readBracket", "(IZ)V"⟩
abbrev cX4_emit : ByteArray := prog_6_method_12_code
def yX4_emit : MethodName := ⟨RX4, "emit", "(I)V"⟩
abbrev cX4_readOnly : ByteArray := prog_6_method_13_code
def yX4_readOnly : MethodName := ⟨RX4, "readOnly", "(I)V"⟩
abbrev cX4_take : ByteArray := prog_6_method_14_code
def yX4_take : MethodName := ⟨RX4, "take", "()V"⟩
abbrev cX4_refuseIf : ByteArray := prog_6_method_15_code
def yX4_refuseIf : MethodName := ⟨RX4, "refuseIf", "(ZI)V"⟩
abbrev cX4_advance : ByteArray := prog_6_method_16_code
def yX4_advance : MethodName := ⟨RX4, "advance", "()V"⟩
abbrev cX4_readNumber : ByteArray := prog_6_method_17_code
def yX4_readNumber : MethodName := ⟨RX4, "readNumber", "()V"⟩
abbrev cX4_wordFrom : ByteArray := prog_6_method_18_code
def yX4_wordFrom : MethodName := ⟨RX4, "wordFrom", "(II)I"⟩
abbrev cX4_isLetter : ByteArray := prog_6_method_19_code
def yX4_isLetter : MethodName := ⟨RX4, "isLetter", "(I)Z"⟩
abbrev cX4_isDigit : ByteArray := prog_6_method_20_code
def yX4_isDigit : MethodName := ⟨RX4, "isDigit", "(I)Z"⟩
def RX5 : String := "GrainPit$Receipt"
def TX5 : u_T := fun k => match k with
  | 0 => ("GrainPit$Receipt", "grade", "I", true)
  | 1 => ("GrainPit$Receipt", "place", "I", true)
  | 2 => ("GrainPit$Receipt", "owner", "I", false)
  | _ => ("GrainPit$Receipt", "free", "Z", false)
def tyX5 : Nat → FieldType := fun k => match k with
  | 0 => .int
  | 1 => .int
  | 2 => .int
  | _ => .boolean
abbrev wsX50 : List Cond := u_ws RX5 TX5 4
theorem nmX5 : ∀ a, a < 4 → ∀ b, b < 4 → a ≠ b → (TX5 a).2.1 ≠ (TX5 b).2.1 := by decide +kernel
theorem tyX5_ok : ∀ k, k < 4 → parseFieldDescriptor (TX5 k).2.2.1 = some (tyX5 k) := by decide +kernel
abbrev cX5_init : ByteArray := prog_7_method_1_code
def yX5_init : MethodName := ⟨RX5, "<init>", "(III)V"⟩
def RX6 : String := "GrainPit$Rule"
def TX6 : u_T := fun k => match k with
  | 0 => ("GrainPit$Rule", "name", "I", true)
  | 1 => ("GrainPit$Rule", "from", "I", true)
  | _ => ("GrainPit$Rule", "code", "[I", true)
def tyX6 : Nat → FieldType := fun k => match k with
  | 0 => .int
  | 1 => .int
  | _ => .array .int
abbrev wsX60 : List Cond := u_ws RX6 TX6 3
theorem nmX6 : ∀ a, a < 3 → ∀ b, b < 3 → a ≠ b → (TX6 a).2.1 ≠ (TX6 b).2.1 := by decide +kernel
theorem tyX6_ok : ∀ k, k < 3 → parseFieldDescriptor (TX6 k).2.2.1 = some (tyX6 k) := by decide +kernel
abbrev cX6_init : ByteArray := prog_8_method_1_code
def yX6_init : MethodName := ⟨RX6, "<init>", "(II[I)V"⟩
def RX7 : String := "GrainPit$Rulebook"
def TX7 : u_T := fun k => match k with
  | 0 => ("GrainPit$Rulebook", "all", "Ljava/util/ArrayList;", true)
  | 1 => ("GrainPit$Rulebook", "words", "[I", true)
  | 2 => ("GrainPit$Rulebook", "stack", "[I", true)
  | _ => ("GrainPit$Rulebook", "depth", "I", false)
def tyX7 : Nat → FieldType := fun k => match k with
  | 0 => .object "java/util/ArrayList"
  | 1 => .array .int
  | 2 => .array .int
  | _ => .int
abbrev wsX70 : List Cond := u_ws RX7 TX7 4
theorem nmX7 : ∀ a, a < 4 → ∀ b, b < 4 → a ≠ b → (TX7 a).2.1 ≠ (TX7 b).2.1 := by decide +kernel
theorem tyX7_ok : ∀ k, k < 4 → parseFieldDescriptor (TX7 k).2.2.1 = some (tyX7 k) := by decide +kernel
abbrev cX7_init : ByteArray := prog_9_method_1_code
def yX7_init : MethodName := ⟨RX7, "<init>", "()V"⟩
abbrev cX7_valueOf : ByteArray := prog_9_method_2_code
def yX7_valueOf : MethodName := ⟨RX7, "valueOf", "(IIIIIII)I"⟩
abbrev cX7_inForce : ByteArray := prog_9_method_3_code
def yX7_inForce : MethodName := ⟨RX7, "inForce", "(II)LGrainPit$Rule;"⟩
abbrev cX7_work : ByteArray := prog_9_method_4_code
def yX7_work : MethodName := ⟨RX7, "work", "([I)I"⟩
abbrev cX7_apply : ByteArray := prog_9_method_5_code
def yX7_apply : MethodName := ⟨RX7, "apply", "(I)V"⟩
abbrev cX7_combine : ByteArray := prog_9_method_6_code
def yX7_combine : MethodName := ⟨RX7, "combine", "(III)I"⟩
abbrev cX7_push : ByteArray := prog_9_method_7_code
def yX7_push : MethodName := ⟨RX7, "push", "(I)V"⟩
abbrev cX7_pop : ByteArray := prog_9_method_8_code
def yX7_pop : MethodName := ⟨RX7, "pop", "()I"⟩
def RX8 : String := "GrainPit$Settle"
def TX8 : u_T := fun k => match k with
  | 0 => ("GrainPit$Settle", "price", "I", true)
  | 1 => ("GrainPit$Settle", "told", "I", true)
  | _ => ("GrainPit$Settle", "before", "LGrainPit$Settle;", true)
def tyX8 : Nat → FieldType := fun k => match k with
  | 0 => .int
  | 1 => .int
  | _ => .object "GrainPit$Settle"
abbrev wsX80 : List Cond := u_ws RX8 TX8 3
theorem nmX8 : ∀ a, a < 3 → ∀ b, b < 3 → a ≠ b → (TX8 a).2.1 ≠ (TX8 b).2.1 := by decide +kernel
theorem tyX8_ok : ∀ k, k < 3 → parseFieldDescriptor (TX8 k).2.2.1 = some (tyX8 k) := by decide +kernel
abbrev cX8_init : ByteArray := prog_10_method_1_code
def yX8_init : MethodName := ⟨RX8, "<init>", "(IILGrainPit$Settle;)V"⟩
def RX9 : String := "GrainPit$Stake"
def TX9 : u_T := fun k => match k with
  | 0 => ("GrainPit$Stake", "member", "I", true)
  | 1 => ("GrainPit$Stake", "price", "I", true)
  | 2 => ("GrainPit$Stake", "number", "I", true)
  | _ => ("GrainPit$Stake", "lots", "I", false)
def tyX9 : Nat → FieldType := fun k => match k with
  | 0 => .int
  | 1 => .int
  | 2 => .int
  | _ => .int
abbrev wsX90 : List Cond := u_ws RX9 TX9 4
theorem nmX9 : ∀ a, a < 4 → ∀ b, b < 4 → a ≠ b → (TX9 a).2.1 ≠ (TX9 b).2.1 := by decide +kernel
theorem tyX9_ok : ∀ k, k < 4 → parseFieldDescriptor (TX9 k).2.2.1 = some (tyX9 k) := by decide +kernel
abbrev cX9_init : ByteArray := prog_11_method_1_code
def yX9_init : MethodName := ⟨RX9, "<init>", "(IIII)V"⟩
def RX10 : String := "GrainPit$Trade"
def TX10 : u_T := fun k => match k with
  | 0 => ("GrainPit$Trade", "month", "I", true)
  | 1 => ("GrainPit$Trade", "price", "I", true)
  | 2 => ("GrainPit$Trade", "lots", "I", true)
  | 3 => ("GrainPit$Trade", "buyer", "I", true)
  | 4 => ("GrainPit$Trade", "seller", "I", true)
  | 5 => ("GrainPit$Trade", "day", "I", true)
  | _ => ("GrainPit$Trade", "struck", "Z", false)
def tyX10 : Nat → FieldType := fun k => match k with
  | 0 => .int
  | 1 => .int
  | 2 => .int
  | 3 => .int
  | 4 => .int
  | 5 => .int
  | _ => .boolean
abbrev wsX100 : List Cond := u_ws RX10 TX10 7
theorem nmX10 : ∀ a, a < 7 → ∀ b, b < 7 → a ≠ b → (TX10 a).2.1 ≠ (TX10 b).2.1 := by decide +kernel
theorem tyX10_ok : ∀ k, k < 7 → parseFieldDescriptor (TX10 k).2.2.1 = some (tyX10 k) := by decide +kernel
abbrev cX10_init : ByteArray := prog_12_method_1_code
def yX10_init : MethodName := ⟨RX10, "<init>", "(IIIIII)V"⟩
def RX11 : String := "GrainPit"
def TX11 : u_T := fun k => match k with
  | 0 => ("GrainPit", "reader", "LGrainPit$Reader;", true)
  | 1 => ("GrainPit", "rulebook", "LGrainPit$Rulebook;", true)
  | 2 => ("GrainPit", "months", "[LGrainPit$Month;", true)
  | 3 => ("GrainPit", "members", "Ljava/util/ArrayList;", true)
  | 4 => ("GrainPit", "trades", "Ljava/util/ArrayList;", true)
  | 5 => ("GrainPit", "receipts", "Ljava/util/ArrayList;", true)
  | 6 => ("GrainPit", "notices", "Ljava/util/ArrayList;", true)
  | 7 => ("GrainPit", "days", "Ljava/util/ArrayList;", true)
  | 8 => ("GrainPit", "today", "I", false)
  | 9 => ("GrainPit", "ordersSoFar", "I", false)
  | _ => ("GrainPit", "rightedSoFar", "I", false)
def tyX11 : Nat → FieldType := fun k => match k with
  | 0 => .object "GrainPit$Reader"
  | 1 => .object "GrainPit$Rulebook"
  | 2 => .array (.object "GrainPit$Month")
  | 3 => .object "java/util/ArrayList"
  | 4 => .object "java/util/ArrayList"
  | 5 => .object "java/util/ArrayList"
  | 6 => .object "java/util/ArrayList"
  | 7 => .object "java/util/ArrayList"
  | 8 => .int
  | 9 => .int
  | _ => .int
abbrev wsX110 : List Cond := u_ws RX11 TX11 11
theorem nmX11 : ∀ a, a < 11 → ∀ b, b < 11 → a ≠ b → (TX11 a).2.1 ≠ (TX11 b).2.1 := by decide +kernel
theorem tyX11_ok : ∀ k, k < 11 → parseFieldDescriptor (TX11 k).2.2.1 = some (tyX11 k) := by decide +kernel
abbrev cX11_init : ByteArray := prog_1_method_1_code
def yX11_init : MethodName := ⟨RX11, "<init>", "()V"⟩
abbrev cX11_feed : ByteArray := prog_1_method_2_code
def yX11_feed : MethodName := ⟨RX11, "feed", "(IIIII)I"⟩
abbrev cX11_end : ByteArray := prog_1_method_3_code
def yX11_end : MethodName := ⟨RX11, "end", "(I)Z"⟩
abbrev cX11_rules : ByteArray := prog_1_method_4_code
def yX11_rules : MethodName := ⟨RX11, "rules", "()I"⟩
abbrev cX11_fault : ByteArray := prog_1_method_5_code
def yX11_fault : MethodName := ⟨RX11, "fault", "(I)I"⟩
abbrev cX11_rule : ByteArray := prog_1_method_6_code
def yX11_rule : MethodName := ⟨RX11, "rule", "(IIIIIII)I"⟩
abbrev cX11_member : ByteArray := prog_1_method_7_code
def yX11_member : MethodName := ⟨RX11, "member", "()I"⟩
abbrev cX11_pay : ByteArray := prog_1_method_8_code
def yX11_pay : MethodName := ⟨RX11, "pay", "(II)J"⟩
abbrev cX11_order : ByteArray := prog_1_method_9_code
def yX11_order : MethodName := ⟨RX11, "order", "(IZIII)I"⟩
abbrev cX11_cancel : ByteArray := prog_1_method_10_code
def yX11_cancel : MethodName := ⟨RX11, "cancel", "(II)I"⟩
abbrev cX11_waiting : ByteArray := prog_1_method_11_code
def yX11_waiting : MethodName := ⟨RX11, "waiting", "(ZIII)I"⟩
abbrev cX11_trade : ByteArray := prog_1_method_12_code
def yX11_trade : MethodName := ⟨RX11, "trade", "(II)I"⟩
abbrev cX11_strike : ByteArray := prog_1_method_13_code
def yX11_strike : MethodName := ⟨RX11, "strike", "(I)Z"⟩
abbrev cX11_night : ByteArray := prog_1_method_14_code
def yX11_night : MethodName := ⟨RX11, "night", "()I"⟩
abbrev cX11_money : ByteArray := prog_1_method_15_code
def yX11_money : MethodName := ⟨RX11, "money", "(II)J"⟩
abbrev cX11_position : ByteArray := prog_1_method_16_code
def yX11_position : MethodName := ⟨RX11, "position", "(II)I"⟩
abbrev cX11_longOf : ByteArray := prog_1_method_17_code
def yX11_longOf : MethodName := ⟨RX11, "longOf", "(III)I"⟩
abbrev cX11_count : ByteArray := prog_1_method_18_code
def yX11_count : MethodName := ⟨RX11, "count", "(I)I"⟩
abbrev cX11_deliver : ByteArray := prog_1_method_19_code
def yX11_deliver : MethodName := ⟨RX11, "deliver", "(I)Z"⟩
abbrev cX11_receipt : ByteArray := prog_1_method_20_code
def yX11_receipt : MethodName := ⟨RX11, "receipt", "(III)I"⟩
abbrev cX11_notice : ByteArray := prog_1_method_21_code
def yX11_notice : MethodName := ⟨RX11, "notice", "(III)I"⟩
abbrev cX11_pass : ByteArray := prog_1_method_22_code
def yX11_pass : MethodName := ⟨RX11, "pass", "(I)I"⟩
abbrev cX11_keep : ByteArray := prog_1_method_23_code
def yX11_keep : MethodName := ⟨RX11, "keep", "(I)I"⟩
abbrev cX11_told : ByteArray := prog_1_method_24_code
def yX11_told : MethodName := ⟨RX11, "told", "(II)I"⟩
abbrev cX11_stored : ByteArray := prog_1_method_25_code
def yX11_stored : MethodName := ⟨RX11, "stored", "(II)I"⟩
abbrev cX11_squeeze : ByteArray := prog_1_method_26_code
def yX11_squeeze : MethodName := ⟨RX11, "squeeze", "(II)I"⟩
abbrev cX11_right : ByteArray := prog_1_method_27_code
def yX11_right : MethodName := ⟨RX11, "right", "(III)Z"⟩
abbrev cX11_settle : ByteArray := prog_1_method_28_code
def yX11_settle : MethodName := ⟨RX11, "settle", "(III)I"⟩
abbrev cX11_equity : ByteArray := prog_1_method_29_code
def yX11_equity : MethodName := ⟨RX11, "equity", "(III)J"⟩
abbrev cX11_isMonth : ByteArray := prog_1_method_30_code
def yX11_isMonth : MethodName := ⟨RX11, "isMonth", "(I)Z"⟩
abbrev cX11_isPrice : ByteArray := prog_1_method_31_code
def yX11_isPrice : MethodName := ⟨RX11, "isPrice", "(I)Z"⟩
abbrev cX11_isOver : ByteArray := prog_1_method_32_code
def yX11_isOver : MethodName := ⟨RX11, "isOver", "(I)Z"⟩
abbrev cX11_isKnown : ByteArray := prog_1_method_33_code
def yX11_isKnown : MethodName := ⟨RX11, "isKnown", "(II)Z"⟩
abbrev cX11_memberOf : ByteArray := prog_1_method_34_code
def yX11_memberOf : MethodName := ⟨RX11, "memberOf", "(I)LGrainPit$Member;"⟩
abbrev cX11_tradeOf : ByteArray := prog_1_method_35_code
def yX11_tradeOf : MethodName := ⟨RX11, "tradeOf", "(I)LGrainPit$Trade;"⟩
abbrev cX11_receiptOf : ByteArray := prog_1_method_36_code
def yX11_receiptOf : MethodName := ⟨RX11, "receiptOf", "(I)LGrainPit$Receipt;"⟩
abbrev cX11_noticeOf : ByteArray := prog_1_method_37_code
def yX11_noticeOf : MethodName := ⟨RX11, "noticeOf", "(I)LGrainPit$Notice;"⟩
abbrev cX11_heldNotice : ByteArray := prog_1_method_38_code
def yX11_heldNotice : MethodName := ⟨RX11, "heldNotice", "(I)LGrainPit$Notice;"⟩
abbrev cX11_inDefault : ByteArray := prog_1_method_39_code
def yX11_inDefault : MethodName := ⟨RX11, "inDefault", "(I)Z"⟩
abbrev cX11_allWaiting : ByteArray := prog_1_method_40_code
def yX11_allWaiting : MethodName := ⟨RX11, "allWaiting", "()I"⟩
abbrev cX11_allHeld : ByteArray := prog_1_method_41_code
def yX11_allHeld : MethodName := ⟨RX11, "allHeld", "()I"⟩
abbrev cX11_latestPrice : ByteArray := prog_1_method_42_code
def yX11_latestPrice : MethodName := ⟨RX11, "latestPrice", "(I)I"⟩
abbrev cX11_priceOn : ByteArray := prog_1_method_43_code
def yX11_priceOn : MethodName := ⟨RX11, "priceOn", "(III)I"⟩
abbrev cX11_worthOf : ByteArray := prog_1_method_44_code
def yX11_worthOf : MethodName := ⟨RX11, "worthOf", "(LGrainPit$Member;)J"⟩
abbrev cX11_needOf : ByteArray := prog_1_method_45_code
def yX11_needOf : MethodName := ⟨RX11, "needOf", "(LGrainPit$Member;I)J"⟩
abbrev cX11_reasonAgainst : ByteArray := prog_1_method_46_code
def yX11_reasonAgainst : MethodName := ⟨RX11, "reasonAgainst", "(IZIII)I"⟩
abbrev cX11_isTooFar : ByteArray := prog_1_method_47_code
def yX11_isTooFar : MethodName := ⟨RX11, "isTooFar", "(II)Z"⟩
abbrev cX11_fill : ByteArray := prog_1_method_48_code
def yX11_fill : MethodName := ⟨RX11, "fill", "(IZIII)I"⟩
abbrev cX11_exchange : ByteArray := prog_1_method_49_code
def yX11_exchange : MethodName := ⟨RX11, "exchange", "(IIIII)V"⟩
abbrev cX11_endPrice : ByteArray := prog_1_method_50_code
def yX11_endPrice : MethodName := ⟨RX11, "endPrice", "(I)I"⟩
abbrev cX11_fallsTonight : ByteArray := prog_1_method_51_code
def yX11_fallsTonight : MethodName := ⟨RX11, "fallsTonight", "(LGrainPit$Member;)Z"⟩
abbrev cX11_closeOut : ByteArray := prog_1_method_52_code
def yX11_closeOut : MethodName := ⟨RX11, "closeOut", "(I)V"⟩
abbrev cX11_nextOpposite : ByteArray := prog_1_method_53_code
def yX11_nextOpposite : MethodName := ⟨RX11, "nextOpposite", "(IIZ)I"⟩
abbrev cX11_rememberMembers : ByteArray := prog_1_method_54_code
def yX11_rememberMembers : MethodName := ⟨RX11, "rememberMembers", "(LGrainPit$Day;)V"⟩
abbrev cX11_freeReceiptsOf : ByteArray := prog_1_method_55_code
def yX11_freeReceiptsOf : MethodName := ⟨RX11, "freeReceiptsOf", "(I)I"⟩
abbrev cX11_receiptsBut : ByteArray := prog_1_method_56_code
def yX11_receiptsBut : MethodName := ⟨RX11, "receiptsBut", "(I)I"⟩
abbrev cX11_heldOf : ByteArray := prog_1_method_57_code
def yX11_heldOf : MethodName := ⟨RX11, "heldOf", "(II)I"⟩
abbrev cX11_nextHolder : ByteArray := prog_1_method_58_code
def yX11_nextHolder : MethodName := ⟨RX11, "nextHolder", "(LGrainPit$Notice;)I"⟩
abbrev cX11_dueIn : ByteArray := prog_1_method_59_code
def yX11_dueIn : MethodName := ⟨RX11, "dueIn", "(I)I"⟩
abbrev cX11_cornerOf : ByteArray := prog_1_method_60_code
def yX11_cornerOf : MethodName := ⟨RX11, "cornerOf", "(I)I"⟩
abbrev cX11_isSqueezed : ByteArray := prog_1_method_61_code
def yX11_isSqueezed : MethodName := ⟨RX11, "isSqueezed", "(I)Z"⟩
def RX12 : String := "GrainPitModel"
def TX12 : u_T := fun k => match k with
  | 0 => ("GrainPitModel", "tape", "[I", true)
  | 1 => ("GrainPitModel", "taped", "I", false)
  | 2 => ("GrainPitModel", "faultKind", "I", false)
  | 3 => ("GrainPitModel", "faultPlace", "I", false)
  | 4 => ("GrainPitModel", "ruleName", "[I", true)
  | 5 => ("GrainPitModel", "ruleDay", "[I", true)
  | 6 => ("GrainPitModel", "ruleMany", "[I", true)
  | 7 => ("GrainPitModel", "tokenKind", "[I", true)
  | 8 => ("GrainPitModel", "tokenValue", "[I", true)
  | 9 => ("GrainPitModel", "rules", "I", false)
  | 10 => ("GrainPitModel", "members", "I", false)
  | 11 => ("GrainPitModel", "paid", "[J", true)
  | 12 => ("GrainPitModel", "called", "[Z", true)
  | 13 => ("GrainPitModel", "failed", "[Z", true)
  | 14 => ("GrainPitModel", "position", "[I", true)
  | 15 => ("GrainPitModel", "cost", "[J", true)
  | 16 => ("GrainPitModel", "longMember", "[I", true)
  | 17 => ("GrainPitModel", "longLots", "[I", true)
  | 18 => ("GrainPitModel", "longMany", "[I", true)
  | 19 => ("GrainPitModel", "closed", "[Z", true)
  | 20 => ("GrainPitModel", "orders", "[I", true)
  | 21 => ("GrainPitModel", "orderMany", "I", false)
  | 22 => ("GrainPitModel", "trades", "[I", true)
  | 23 => ("GrainPitModel", "tradeMany", "I", false)
  | 24 => ("GrainPitModel", "today", "I", false)
  | 25 => ("GrainPitModel", "settles", "[I", true)
  | 26 => ("GrainPitModel", "dayPaid", "[J", true)
  | 27 => ("GrainPitModel", "dayPosition", "[I", true)
  | 28 => ("GrainPitModel", "dayCost", "[J", true)
  | 29 => ("GrainPitModel", "rights", "[I", true)
  | 30 => ("GrainPitModel", "rightMany", "I", false)
  | 31 => ("GrainPitModel", "receipts", "[I", true)
  | 32 => ("GrainPitModel", "receiptMany", "I", false)
  | 33 => ("GrainPitModel", "notices", "[I", true)
  | 34 => ("GrainPitModel", "noticeMany", "I", false)
  | 35 => ("GrainPitModel", "thrown", "I", false)
  | 36 => ("GrainPitModel", "from", "I", false)
  | 37 => ("GrainPitModel", "to", "I", false)
  | 38 => ("GrainPitModel", "kind", "I", false)
  | 39 => ("GrainPitModel", "value", "I", false)
  | 40 => ("GrainPitModel", "length", "I", false)
  | 41 => ("GrainPitModel", "reading", "I", false)
  | 42 => ("GrainPitModel", "tokens", "I", false)
  | 43 => ("GrainPitModel", "open", "I", false)
  | 44 => ("GrainPitModel", "at", "I", false)
  | 45 => ("GrainPitModel", "askedRule", "I", false)
  | 46 => ("GrainPitModel", "asked", "[I", true)
  | _ => ("GrainPitModel", "price", "[I", true)
def tyX12 : Nat → FieldType := fun k => match k with
  | 0 => .array .int
  | 1 => .int
  | 2 => .int
  | 3 => .int
  | 4 => .array .int
  | 5 => .array .int
  | 6 => .array .int
  | 7 => .array .int
  | 8 => .array .int
  | 9 => .int
  | 10 => .int
  | 11 => .array .long
  | 12 => .array .boolean
  | 13 => .array .boolean
  | 14 => .array .int
  | 15 => .array .long
  | 16 => .array .int
  | 17 => .array .int
  | 18 => .array .int
  | 19 => .array .boolean
  | 20 => .array .int
  | 21 => .int
  | 22 => .array .int
  | 23 => .int
  | 24 => .int
  | 25 => .array .int
  | 26 => .array .long
  | 27 => .array .int
  | 28 => .array .long
  | 29 => .array .int
  | 30 => .int
  | 31 => .array .int
  | 32 => .int
  | 33 => .array .int
  | 34 => .int
  | 35 => .int
  | 36 => .int
  | 37 => .int
  | 38 => .int
  | 39 => .int
  | 40 => .int
  | 41 => .int
  | 42 => .int
  | 43 => .int
  | 44 => .int
  | 45 => .int
  | 46 => .array .int
  | _ => .array .int
abbrev wsX120 : List Cond := u_ws RX12 TX12 48
theorem nmX12 : ∀ a, a < 48 → ∀ b, b < 48 → a ≠ b → (TX12 a).2.1 ≠ (TX12 b).2.1 := by decide +kernel
theorem tyX12_ok : ∀ k, k < 48 → parseFieldDescriptor (TX12 k).2.2.1 = some (tyX12 k) := by decide +kernel
abbrev cX12_init : ByteArray := prog_14_method_1_code
def yX12_init : MethodName := ⟨RX12, "<init>", "()V"⟩
abbrev cX12_thrown : ByteArray := prog_14_method_2_code
def yX12_thrown : MethodName := ⟨RX12, "thrown", "()I"⟩
abbrev cX12_in : ByteArray := prog_14_method_3_code
def yX12_in : MethodName := ⟨RX12, "in", "(JJJ)Z"⟩
abbrev cX12_isMember : ByteArray := prog_14_method_4_code
def yX12_isMember : MethodName := ⟨RX12, "isMember", "(I)Z"⟩
abbrev cX12_isMonth : ByteArray := prog_14_method_5_code
def yX12_isMonth : MethodName := ⟨RX12, "isMonth", "(I)Z"⟩
abbrev cX12_lay : ByteArray := prog_14_method_6_code
def yX12_lay : MethodName := ⟨RX12, "lay", "(I)V"⟩
abbrev cX12_feed : ByteArray := prog_14_method_7_code
def yX12_feed : MethodName := ⟨RX12, "feed", "(IIIII)I"⟩
abbrev cX12_end : ByteArray := prog_14_method_8_code
def yX12_end : MethodName := ⟨RX12, "end", "(I)Z"⟩
abbrev cX12_isLetter : ByteArray := prog_14_method_9_code
def yX12_isLetter : MethodName := ⟨RX12, "isLetter", "(I)Z"⟩
abbrev cX12_isDigit : ByteArray := prog_14_method_10_code
def yX12_isDigit : MethodName := ⟨RX12, "isDigit", "(I)Z"⟩
abbrev cX12_wordAt : ByteArray := prog_14_method_11_code
def yX12_wordAt : MethodName := ⟨RX12, "wordAt", "(II)I"⟩
abbrev cX12_next : ByteArray := prog_14_method_12_code
def yX12_next : MethodName := ⟨RX12, "next", "()V"⟩
abbrev cX12_fails : ByteArray := prog_14_method_13_code
def yX12_fails : MethodName := ⟨RX12, "fails", "(I)Z"⟩
abbrev cX12_isSign : ByteArray := prog_14_method_14_code
def yX12_isSign : MethodName := ⟨RX12, "isSign", "(I)Z"⟩
abbrev cX12_take : ByteArray := prog_14_method_15_code
def yX12_take : MethodName := ⟨RX12, "take", "()Z"⟩
abbrev cX12_takeSign : ByteArray := prog_14_method_16_code
def yX12_takeSign : MethodName := ⟨RX12, "takeSign", "(I)Z"⟩
abbrev cX12_opens : ByteArray := prog_14_method_17_code
def yX12_opens : MethodName := ⟨RX12, "opens", "()Z"⟩
abbrev cX12_readExpr : ByteArray := prog_14_method_18_code
def yX12_readExpr : MethodName := ⟨RX12, "readExpr", "()Z"⟩
abbrev cX12_readSum : ByteArray := prog_14_method_19_code
def yX12_readSum : MethodName := ⟨RX12, "readSum", "()Z"⟩
abbrev cX12_readPart : ByteArray := prog_14_method_20_code
def yX12_readPart : MethodName := ⟨RX12, "readPart", "()Z"⟩
abbrev cX12_readFactor : ByteArray := prog_14_method_21_code
def yX12_readFactor : MethodName := ⟨RX12, "readFactor", "()Z"⟩
abbrev cX12_readRule : ByteArray := prog_14_method_22_code
def yX12_readRule : MethodName := ⟨RX12, "readRule", "()Z"⟩
abbrev cX12_rules : ByteArray := prog_14_method_23_code
def yX12_rules : MethodName := ⟨RX12, "rules", "()I"⟩
abbrev cX12_fault : ByteArray := prog_14_method_24_code
def yX12_fault : MethodName := ⟨RX12, "fault", "(I)I"⟩
abbrev cX12_isNext : ByteArray := prog_14_method_25_code
def yX12_isNext : MethodName := ⟨RX12, "isNext", "(I)Z"⟩
abbrev cX12_expr : ByteArray := prog_14_method_26_code
def yX12_expr : MethodName := ⟨RX12, "expr", "()I"⟩
abbrev cX12_sum : ByteArray := prog_14_method_27_code
def yX12_sum : MethodName := ⟨RX12, "sum", "()I"⟩
abbrev cX12_part : ByteArray := prog_14_method_28_code
def yX12_part : MethodName := ⟨RX12, "part", "()I"⟩
abbrev cX12_factor : ByteArray := prog_14_method_29_code
def yX12_factor : MethodName := ⟨RX12, "factor", "()I"⟩
abbrev cX12_ruleOf : ByteArray := prog_14_method_30_code
def yX12_ruleOf : MethodName := ⟨RX12, "ruleOf", "(IIIIIII)I"⟩
abbrev cX12_rule : ByteArray := prog_14_method_31_code
def yX12_rule : MethodName := ⟨RX12, "rule", "(IIIIIII)I"⟩
abbrev cX12_settleOf : ByteArray := prog_14_method_32_code
def yX12_settleOf : MethodName := ⟨RX12, "settleOf", "(III)I"⟩
abbrev cX12_latest : ByteArray := prog_14_method_33_code
def yX12_latest : MethodName := ⟨RX12, "latest", "(I)I"⟩
abbrev cX12_move : ByteArray := prog_14_method_34_code
def yX12_move : MethodName := ⟨RX12, "move", "(IIIII)V"⟩
abbrev cX12_dropOrder : ByteArray := prog_14_method_35_code
def yX12_dropOrder : MethodName := ⟨RX12, "dropOrder", "(I)V"⟩
abbrev cX12_ranked : ByteArray := prog_14_method_36_code
def yX12_ranked : MethodName := ⟨RX12, "ranked", "(ZII)I"⟩
abbrev cX12_isBehind : ByteArray := prog_14_method_37_code
def yX12_isBehind : MethodName := ⟨RX12, "isBehind", "(IIZ)Z"⟩
abbrev cX12_reason : ByteArray := prog_14_method_38_code
def yX12_reason : MethodName := ⟨RX12, "reason", "(IZIII)I"⟩
abbrev cX12_order : ByteArray := prog_14_method_39_code
def yX12_order : MethodName := ⟨RX12, "order", "(IZIII)I"⟩
abbrev cX12_cancel : ByteArray := prog_14_method_40_code
def yX12_cancel : MethodName := ⟨RX12, "cancel", "(II)I"⟩
abbrev cX12_waiting : ByteArray := prog_14_method_41_code
def yX12_waiting : MethodName := ⟨RX12, "waiting", "(ZIII)I"⟩
abbrev cX12_trade : ByteArray := prog_14_method_42_code
def yX12_trade : MethodName := ⟨RX12, "trade", "(II)I"⟩
abbrev cX12_strike : ByteArray := prog_14_method_43_code
def yX12_strike : MethodName := ⟨RX12, "strike", "(I)Z"⟩
abbrev cX12_equityOf : ByteArray := prog_14_method_44_code
def yX12_equityOf : MethodName := ⟨RX12, "equityOf", "(I)J"⟩
abbrev cX12_need : ByteArray := prog_14_method_45_code
def yX12_need : MethodName := ⟨RX12, "need", "(II)J"⟩
abbrev cX12_latestPrices : ByteArray := prog_14_method_46_code
def yX12_latestPrices : MethodName := ⟨RX12, "latestPrices", "()V"⟩
abbrev cX12_fail : ByteArray := prog_14_method_47_code
def yX12_fail : MethodName := ⟨RX12, "fail", "(I)V"⟩
abbrev cX12_night : ByteArray := prog_14_method_48_code
def yX12_night : MethodName := ⟨RX12, "night", "()I"⟩
abbrev cX12_member : ByteArray := prog_14_method_49_code
def yX12_member : MethodName := ⟨RX12, "member", "()I"⟩
abbrev cX12_pay : ByteArray := prog_14_method_50_code
def yX12_pay : MethodName := ⟨RX12, "pay", "(II)J"⟩
abbrev cX12_money : ByteArray := prog_14_method_51_code
def yX12_money : MethodName := ⟨RX12, "money", "(II)J"⟩
abbrev cX12_position : ByteArray := prog_14_method_52_code
def yX12_position : MethodName := ⟨RX12, "position", "(II)I"⟩
abbrev cX12_longOf : ByteArray := prog_14_method_53_code
def yX12_longOf : MethodName := ⟨RX12, "longOf", "(III)I"⟩
abbrev cX12_count : ByteArray := prog_14_method_54_code
def yX12_count : MethodName := ⟨RX12, "count", "(I)I"⟩
abbrev cX12_deliver : ByteArray := prog_14_method_55_code
def yX12_deliver : MethodName := ⟨RX12, "deliver", "(I)Z"⟩
abbrev cX12_receipt : ByteArray := prog_14_method_56_code
def yX12_receipt : MethodName := ⟨RX12, "receipt", "(III)I"⟩
abbrev cX12_notice : ByteArray := prog_14_method_57_code
def yX12_notice : MethodName := ⟨RX12, "notice", "(III)I"⟩
abbrev cX12_isHeld : ByteArray := prog_14_method_58_code
def yX12_isHeld : MethodName := ⟨RX12, "isHeld", "(I)Z"⟩
abbrev cX12_pass : ByteArray := prog_14_method_59_code
def yX12_pass : MethodName := ⟨RX12, "pass", "(I)I"⟩
abbrev cX12_keep : ByteArray := prog_14_method_60_code
def yX12_keep : MethodName := ⟨RX12, "keep", "(I)I"⟩
abbrev cX12_told : ByteArray := prog_14_method_61_code
def yX12_told : MethodName := ⟨RX12, "told", "(II)I"⟩
abbrev cX12_stored : ByteArray := prog_14_method_62_code
def yX12_stored : MethodName := ⟨RX12, "stored", "(II)I"⟩
abbrev cX12_squeeze : ByteArray := prog_14_method_63_code
def yX12_squeeze : MethodName := ⟨RX12, "squeeze", "(II)I"⟩
abbrev cX12_right : ByteArray := prog_14_method_64_code
def yX12_right : MethodName := ⟨RX12, "right", "(III)Z"⟩
abbrev cX12_settle : ByteArray := prog_14_method_65_code
def yX12_settle : MethodName := ⟨RX12, "settle", "(III)I"⟩
abbrev cX12_equity : ByteArray := prog_14_method_66_code
def yX12_equity : MethodName := ⟨RX12, "equity", "(III)J"⟩
def RJx145de : String := "java/io/Serializable"
def TJx145de : u_T := fun k => match k with
  | _ => ("", "", "", false)
def tyJx145de : Nat → FieldType := fun k => match k with
  | _ => .int
abbrev wsJx145de0 : List Cond := u_ws RJx145de TJx145de 0
theorem nmJx145de : ∀ a, a < 0 → ∀ b, b < 0 → a ≠ b → (TJx145de a).2.1 ≠ (TJx145de b).2.1 := by decide +kernel
theorem tyJx145de_ok : ∀ k, k < 0 → parseFieldDescriptor (TJx145de k).2.2.1 = some (tyJx145de k) := by decide +kernel
def RJ11 : String := "java/lang/Character"
def TJ11 : u_T := fun k => match k with
  | _ => ("", "", "", false)
def tyJ11 : Nat → FieldType := fun k => match k with
  | _ => .int
abbrev wsJ110 : List Cond := u_ws RJ11 TJ11 0
theorem nmJ11 : ∀ a, a < 0 → ∀ b, b < 0 → a ≠ b → (TJ11 a).2.1 ≠ (TJ11 b).2.1 := by decide +kernel
theorem tyJ11_ok : ∀ k, k < 0 → parseFieldDescriptor (TJ11 k).2.2.1 = some (tyJ11 k) := by decide +kernel
abbrev cJ11_isValidCodePoint_9a6ad : ByteArray := prog_16_method_11_code
def yJ11_isValidCodePoint_9a6ad : MethodName := ⟨RJ11, "isValidCodePoint", "(I)Z"⟩
abbrev cJ11_highSurrogate_5068e : ByteArray := prog_16_method_28_code
def yJ11_highSurrogate_5068e : MethodName := ⟨RJ11, "highSurrogate", "(I)C"⟩
abbrev cJ11_lowSurrogate_5068e : ByteArray := prog_16_method_29_code
def yJ11_lowSurrogate_5068e : MethodName := ⟨RJ11, "lowSurrogate", "(I)C"⟩
def RJx8e188 : String := "java/lang/Cloneable"
def TJx8e188 : u_T := fun k => match k with
  | _ => ("", "", "", false)
def tyJx8e188 : Nat → FieldType := fun k => match k with
  | _ => .int
abbrev wsJx8e1880 : List Cond := u_ws RJx8e188 TJx8e188 0
theorem nmJx8e188 : ∀ a, a < 0 → ∀ b, b < 0 → a ≠ b → (TJx8e188 a).2.1 ≠ (TJx8e188 b).2.1 := by decide +kernel
theorem tyJx8e188_ok : ∀ k, k < 0 → parseFieldDescriptor (TJx8e188 k).2.2.1 = some (tyJx8e188 k) := by decide +kernel
def RJxab1ab : String := "java/lang/Iterable"
def TJxab1ab : u_T := fun k => match k with
  | _ => ("", "", "", false)
def tyJxab1ab : Nat → FieldType := fun k => match k with
  | _ => .int
abbrev wsJxab1ab0 : List Cond := u_ws RJxab1ab TJxab1ab 0
theorem nmJxab1ab : ∀ a, a < 0 → ∀ b, b < 0 → a ≠ b → (TJxab1ab a).2.1 ≠ (TJxab1ab b).2.1 := by decide +kernel
theorem tyJxab1ab_ok : ∀ k, k < 0 → parseFieldDescriptor (TJxab1ab k).2.2.1 = some (tyJxab1ab k) := by decide +kernel
def RJ9 : String := "java/lang/Math"
def TJ9 : u_T := fun k => match k with
  | _ => ("", "", "", false)
def tyJ9 : Nat → FieldType := fun k => match k with
  | _ => .int
abbrev wsJ90 : List Cond := u_ws RJ9 TJ9 0
theorem nmJ9 : ∀ a, a < 0 → ∀ b, b < 0 → a ≠ b → (TJ9 a).2.1 ≠ (TJ9 b).2.1 := by decide +kernel
theorem tyJ9_ok : ∀ k, k < 0 → parseFieldDescriptor (TJ9 k).2.2.1 = some (tyJ9 k) := by decide +kernel
abbrev cJ9_abs_0f7a4 : ByteArray := prog_20_method_59_code
def yJ9_abs_0f7a4 : MethodName := ⟨RJ9, "abs", "(I)I"⟩
abbrev cJ9_max_7cf53 : ByteArray := prog_20_method_65_code
def yJ9_max_7cf53 : MethodName := ⟨RJ9, "max", "(II)I"⟩
abbrev cJ9_min_7cf53 : ByteArray := prog_20_method_69_code
def yJ9_min_7cf53 : MethodName := ⟨RJ9, "min", "(II)I"⟩
def RJ0 : String := "java/lang/String"
def TJ0 : u_T := fun k => match k with
  | _ => ("", "", "", false)
def tyJ0 : Nat → FieldType := fun k => match k with
  | _ => .int
abbrev wsJ00 : List Cond := u_ws RJ0 TJ0 0
theorem nmJ0 : ∀ a, a < 0 → ∀ b, b < 0 → a ≠ b → (TJ0 a).2.1 ≠ (TJ0 b).2.1 := by decide +kernel
theorem tyJ0_ok : ∀ k, k < 0 → parseFieldDescriptor (TJ0 k).2.2.1 = some (tyJ0 k) := by decide +kernel
abbrev cJ0_length_8abf5 : ByteArray := prog_22_method_54_code
def yJ0_length_8abf5 : MethodName := ⟨RJ0, "length", "()I"⟩
abbrev cJ0_charAt_5068e : ByteArray := prog_22_method_56_code
def yJ0_charAt_5068e : MethodName := ⟨RJ0, "charAt", "(I)C"⟩
abbrev cJ0_indexOf_0f7a4 : ByteArray := prog_22_method_79_code
def yJ0_indexOf_0f7a4 : MethodName := ⟨RJ0, "indexOf", "(I)I"⟩
abbrev cJ0_indexOf_7cf53 : ByteArray := prog_22_method_80_code
def yJ0_indexOf_7cf53 : MethodName := ⟨RJ0, "indexOf", "(II)I"⟩
abbrev cJ0_coder_7d493 : ByteArray := prog_22_method_152_code
def yJ0_coder_7d493 : MethodName := ⟨RJ0, "coder", "()B"⟩
abbrev cJ0_isLatin1_aae02 : ByteArray := prog_22_method_154_code
def yJ0_isLatin1_aae02 : MethodName := ⟨RJ0, "isLatin1", "()Z"⟩
abbrev cJ0_checkIndex_df160 : ByteArray := prog_22_method_155_code
def yJ0_checkIndex_df160 : MethodName := ⟨RJ0, "checkIndex", "(II)V"⟩
abbrev cJ0_checkBoundsBeginEnd_23922 : ByteArray := prog_22_method_158_code
def yJ0_checkBoundsBeginEnd_23922 : MethodName := ⟨RJ0, "checkBoundsBeginEnd", "(III)V"⟩
def RJ1 : String := "java/lang/StringLatin1"
def TJ1 : u_T := fun k => match k with
  | _ => ("", "", "", false)
def tyJ1 : Nat → FieldType := fun k => match k with
  | _ => .int
abbrev wsJ10 : List Cond := u_ws RJ1 TJ1 0
theorem nmJ1 : ∀ a, a < 0 → ∀ b, b < 0 → a ≠ b → (TJ1 a).2.1 ≠ (TJ1 b).2.1 := by decide +kernel
theorem tyJ1_ok : ∀ k, k < 0 → parseFieldDescriptor (TJ1 k).2.2.1 = some (tyJ1 k) := by decide +kernel
abbrev cJ1_charAt_3b067 : ByteArray := prog_23_method_2_code
def yJ1_charAt_3b067 : MethodName := ⟨RJ1, "charAt", "([BI)C"⟩
abbrev cJ1_canEncode_9a6ad : ByteArray := prog_23_method_4_code
def yJ1_canEncode_9a6ad : MethodName := ⟨RJ1, "canEncode", "(I)Z"⟩
abbrev cJ1_indexOf_4cfef : ByteArray := prog_23_method_22_code
def yJ1_indexOf_4cfef : MethodName := ⟨RJ1, "indexOf", "([BIII)I"⟩
abbrev cJ1_indexOfChar_4cfef : ByteArray := prog_23_method_23_code
def yJ1_indexOfChar_4cfef : MethodName := ⟨RJ1, "indexOfChar", "([BIII)I"⟩
def RJ2 : String := "java/lang/StringUTF16"
def TJ2 : u_T := fun k => match k with
  | _ => ("", "", "", false)
def tyJ2 : Nat → FieldType := fun k => match k with
  | _ => .int
abbrev wsJ20 : List Cond := u_ws RJ2 TJ2 0
theorem nmJ2 : ∀ a, a < 0 → ∀ b, b < 0 → a ≠ b → (TJ2 a).2.1 ≠ (TJ2 b).2.1 := by decide +kernel
theorem tyJ2_ok : ∀ k, k < 0 → parseFieldDescriptor (TJ2 k).2.2.1 = some (tyJ2 k) := by decide +kernel
abbrev cJ2_getChar_3b067 : ByteArray := prog_24_method_5_code
def yJ2_getChar_3b067 : MethodName := ⟨RJ2, "getChar", "([BI)C"⟩
abbrev cJ2_length_9d52b : ByteArray := prog_24_method_6_code
def yJ2_length_9d52b : MethodName := ⟨RJ2, "length", "([B)I"⟩
abbrev cJ2_indexOf_4cfef : ByteArray := prog_24_method_40_code
def yJ2_indexOf_4cfef : MethodName := ⟨RJ2, "indexOf", "([BIII)I"⟩
abbrev cJ2_indexOfChar_4cfef : ByteArray := prog_24_method_47_code
def yJ2_indexOfChar_4cfef : MethodName := ⟨RJ2, "indexOfChar", "([BIII)I"⟩
abbrev cJ2_indexOfCharUnsafe_4cfef : ByteArray := prog_24_method_48_code
def yJ2_indexOfCharUnsafe_4cfef : MethodName := ⟨RJ2, "indexOfCharUnsafe", "([BIII)I"⟩
abbrev cJ2_indexOfSupplementary_4cfef : ByteArray := prog_24_method_49_code
def yJ2_indexOfSupplementary_4cfef : MethodName := ⟨RJ2, "indexOfSupplementary", "([BIII)I"⟩
abbrev cJ2_charAt_3b067 : ByteArray := prog_24_method_83_code
def yJ2_charAt_3b067 : MethodName := ⟨RJ2, "charAt", "([BI)C"⟩
abbrev cJ2_checkIndex_2214a : ByteArray := prog_24_method_91_code
def yJ2_checkIndex_2214a : MethodName := ⟨RJ2, "checkIndex", "(I[B)V"⟩
abbrev cJ2_checkBoundsBeginEnd_d044e : ByteArray := prog_24_method_93_code
def yJ2_checkBoundsBeginEnd_d044e : MethodName := ⟨RJ2, "checkBoundsBeginEnd", "(II[B)V"⟩
def RJ10 : String := "java/lang/System"
def TJ10 : u_T := fun k => match k with
  | _ => ("", "", "", false)
def tyJ10 : Nat → FieldType := fun k => match k with
  | _ => .int
abbrev wsJ100 : List Cond := u_ws RJ10 TJ10 0
theorem nmJ10 : ∀ a, a < 0 → ∀ b, b < 0 → a ≠ b → (TJ10 a).2.1 ≠ (TJ10 b).2.1 := by decide +kernel
theorem tyJ10_ok : ∀ k, k < 0 → parseFieldDescriptor (TJ10 k).2.2.1 = some (tyJ10 k) := by decide +kernel
def RJxa1e45 : String := "java/util/AbstractCollection"
def TJxa1e45 : u_T := fun k => match k with
  | _ => ("", "", "", false)
def tyJxa1e45 : Nat → FieldType := fun k => match k with
  | _ => .int
abbrev wsJxa1e450 : List Cond := u_ws RJxa1e45 TJxa1e45 0
theorem nmJxa1e45 : ∀ a, a < 0 → ∀ b, b < 0 → a ≠ b → (TJxa1e45 a).2.1 ≠ (TJxa1e45 b).2.1 := by decide +kernel
theorem tyJxa1e45_ok : ∀ k, k < 0 → parseFieldDescriptor (TJxa1e45 k).2.2.1 = some (tyJxa1e45 k) := by decide +kernel
abbrev cJxa1e45_init_da8c8 : ByteArray := prog_27_method_1_code
def yJxa1e45_init_da8c8 : MethodName := ⟨RJxa1e45, "<init>", "()V"⟩
def RJxc12de : String := "java/util/AbstractList"
def TJxc12de : u_T := fun k => match k with
  | _ => ("", "", "", false)
def tyJxc12de : Nat → FieldType := fun k => match k with
  | _ => .int
abbrev wsJxc12de0 : List Cond := u_ws RJxc12de TJxc12de 0
theorem nmJxc12de : ∀ a, a < 0 → ∀ b, b < 0 → a ≠ b → (TJxc12de a).2.1 ≠ (TJxc12de b).2.1 := by decide +kernel
theorem tyJxc12de_ok : ∀ k, k < 0 → parseFieldDescriptor (TJxc12de k).2.2.1 = some (tyJxc12de k) := by decide +kernel
abbrev cJxc12de_init_da8c8 : ByteArray := prog_28_method_1_code
def yJxc12de_init_da8c8 : MethodName := ⟨RJxc12de, "<init>", "()V"⟩
def RJx4a65c : String := "java/util/ArrayList"
def TJx4a65c : u_T := fun k => match k with
  | 0 => ("java/util/AbstractList", "modCount", "I", false)
  | 1 => ("java/util/ArrayList", "elementData", "[Ljava/lang/Object;", false)
  | _ => ("java/util/ArrayList", "size", "I", false)
def tyJx4a65c : Nat → FieldType := fun k => match k with
  | 0 => .int
  | 1 => .array (.object "java/lang/Object")
  | _ => .int
abbrev wsJx4a65c0 : List Cond := u_ws RJx4a65c TJx4a65c 3
theorem nmJx4a65c : ∀ a, a < 3 → ∀ b, b < 3 → a ≠ b → (TJx4a65c a).2.1 ≠ (TJx4a65c b).2.1 := by decide +kernel
theorem tyJx4a65c_ok : ∀ k, k < 3 → parseFieldDescriptor (TJx4a65c k).2.2.1 = some (tyJx4a65c k) := by decide +kernel
abbrev cJx4a65c_init_da8c8 : ByteArray := prog_29_method_2_code
def yJx4a65c_init_da8c8 : MethodName := ⟨RJx4a65c, "<init>", "()V"⟩
abbrev cJx4a65c_grow_92f84 : ByteArray := prog_29_method_6_code
def yJx4a65c_grow_92f84 : MethodName := ⟨RJx4a65c, "grow", "(I)[Ljava/lang/Object;"⟩
abbrev cJx4a65c_grow_d5877 : ByteArray := prog_29_method_7_code
def yJx4a65c_grow_d5877 : MethodName := ⟨RJx4a65c, "grow", "()[Ljava/lang/Object;"⟩
abbrev cJx4a65c_size_8abf5 : ByteArray := prog_29_method_8_code
def yJx4a65c_size_8abf5 : MethodName := ⟨RJx4a65c, "size", "()I"⟩
abbrev cJx4a65c_isEmpty_aae02 : ByteArray := prog_29_method_9_code
def yJx4a65c_isEmpty_aae02 : MethodName := ⟨RJx4a65c, "isEmpty", "()Z"⟩
abbrev cJx4a65c_elementData_915e3 : ByteArray := prog_29_method_18_code
def yJx4a65c_elementData_915e3 : MethodName := ⟨RJx4a65c, "elementData", "(I)Ljava/lang/Object;"⟩
abbrev cJx4a65c_get_915e3 : ByteArray := prog_29_method_20_code
def yJx4a65c_get_915e3 : MethodName := ⟨RJx4a65c, "get", "(I)Ljava/lang/Object;"⟩
abbrev cJx4a65c_add_72be8 : ByteArray := prog_29_method_24_code
def yJx4a65c_add_72be8 : MethodName := ⟨RJx4a65c, "add", "(Ljava/lang/Object;[Ljava/lang/Object;I)V"⟩
abbrev cJx4a65c_add_9ea2d : ByteArray := prog_29_method_25_code
def yJx4a65c_add_9ea2d : MethodName := ⟨RJx4a65c, "add", "(Ljava/lang/Object;)Z"⟩
abbrev cJx4a65c_add_7a177 : ByteArray := prog_29_method_26_code
def yJx4a65c_add_7a177 : MethodName := ⟨RJx4a65c, "add", "(ILjava/lang/Object;)V"⟩
abbrev cJx4a65c_remove_915e3 : ByteArray := prog_29_method_29_code
def yJx4a65c_remove_915e3 : MethodName := ⟨RJx4a65c, "remove", "(I)Ljava/lang/Object;"⟩
abbrev cJx4a65c_fastRemove_b59b0 : ByteArray := prog_29_method_39_code
def yJx4a65c_fastRemove_b59b0 : MethodName := ⟨RJx4a65c, "fastRemove", "([Ljava/lang/Object;I)V"⟩
abbrev cJx4a65c_clear_da8c8 : ByteArray := prog_29_method_40_code
def yJx4a65c_clear_da8c8 : MethodName := ⟨RJx4a65c, "clear", "()V"⟩
abbrev cJx4a65c_rangeCheckForAdd_d00df : ByteArray := prog_29_method_45_code
def yJx4a65c_rangeCheckForAdd_d00df : MethodName := ⟨RJx4a65c, "rangeCheckForAdd", "(I)V"⟩
def RJ7 : String := "java/util/Arrays"
def TJ7 : u_T := fun k => match k with
  | _ => ("", "", "", false)
def tyJ7 : Nat → FieldType := fun k => match k with
  | _ => .int
abbrev wsJ70 : List Cond := u_ws RJ7 TJ7 0
theorem nmJ7 : ∀ a, a < 0 → ∀ b, b < 0 → a ≠ b → (TJ7 a).2.1 ≠ (TJ7 b).2.1 := by decide +kernel
theorem tyJ7_ok : ∀ k, k < 0 → parseFieldDescriptor (TJ7 k).2.2.1 = some (tyJ7 k) := by decide +kernel
abbrev cJ7_copyOf_1904c : ByteArray := prog_30_method_119_code
def yJ7_copyOf_1904c : MethodName := ⟨RJ7, "copyOf", "([Ljava/lang/Object;I)[Ljava/lang/Object;"⟩
abbrev cJ7_copyOf_6403c : ByteArray := prog_30_method_120_code
def yJ7_copyOf_6403c : MethodName := ⟨RJ7, "copyOf", "([Ljava/lang/Object;ILjava/lang/Class;)[Ljava/lang/Object;"⟩
abbrev cJ7_copyOf_59c91 : ByteArray := prog_30_method_123_code
def yJ7_copyOf_59c91 : MethodName := ⟨RJ7, "copyOf", "([II)[I"⟩
def RJx5ef63 : String := "java/util/Collection"
def TJx5ef63 : u_T := fun k => match k with
  | _ => ("", "", "", false)
def tyJx5ef63 : Nat → FieldType := fun k => match k with
  | _ => .int
abbrev wsJx5ef630 : List Cond := u_ws RJx5ef63 TJx5ef63 0
theorem nmJx5ef63 : ∀ a, a < 0 → ∀ b, b < 0 → a ≠ b → (TJx5ef63 a).2.1 ≠ (TJx5ef63 b).2.1 := by decide +kernel
theorem tyJx5ef63_ok : ∀ k, k < 0 → parseFieldDescriptor (TJx5ef63 k).2.2.1 = some (tyJx5ef63 k) := by decide +kernel
def RJxbd725 : String := "java/util/List"
def TJxbd725 : u_T := fun k => match k with
  | _ => ("", "", "", false)
def tyJxbd725 : Nat → FieldType := fun k => match k with
  | _ => .int
abbrev wsJxbd7250 : List Cond := u_ws RJxbd725 TJxbd725 0
theorem nmJxbd725 : ∀ a, a < 0 → ∀ b, b < 0 → a ≠ b → (TJxbd725 a).2.1 ≠ (TJxbd725 b).2.1 := by decide +kernel
theorem tyJxbd725_ok : ∀ k, k < 0 → parseFieldDescriptor (TJxbd725 k).2.2.1 = some (tyJxbd725 k) := by decide +kernel
def RJ15 : String := "java/util/Objects"
def TJ15 : u_T := fun k => match k with
  | _ => ("", "", "", false)
def tyJ15 : Nat → FieldType := fun k => match k with
  | _ => .int
abbrev wsJ150 : List Cond := u_ws RJ15 TJ15 0
theorem nmJ15 : ∀ a, a < 0 → ∀ b, b < 0 → a ≠ b → (TJ15 a).2.1 ≠ (TJ15 b).2.1 := by decide +kernel
theorem tyJ15_ok : ∀ k, k < 0 → parseFieldDescriptor (TJ15 k).2.2.1 = some (tyJ15 k) := by decide +kernel
abbrev cJ15_checkIndex_7cf53 : ByteArray := prog_34_method_17_code
def yJ15_checkIndex_7cf53 : MethodName := ⟨RJ15, "checkIndex", "(II)I"⟩
def RJxf0a74 : String := "java/util/RandomAccess"
def TJxf0a74 : u_T := fun k => match k with
  | _ => ("", "", "", false)
def tyJxf0a74 : Nat → FieldType := fun k => match k with
  | _ => .int
abbrev wsJxf0a740 : List Cond := u_ws RJxf0a74 TJxf0a74 0
theorem nmJxf0a74 : ∀ a, a < 0 → ∀ b, b < 0 → a ≠ b → (TJxf0a74 a).2.1 ≠ (TJxf0a74 b).2.1 := by decide +kernel
theorem tyJxf0a74_ok : ∀ k, k < 0 → parseFieldDescriptor (TJxf0a74 k).2.2.1 = some (tyJxf0a74 k) := by decide +kernel
def RJxa66e6 : String := "java/util/SequencedCollection"
def TJxa66e6 : u_T := fun k => match k with
  | _ => ("", "", "", false)
def tyJxa66e6 : Nat → FieldType := fun k => match k with
  | _ => .int
abbrev wsJxa66e60 : List Cond := u_ws RJxa66e6 TJxa66e6 0
theorem nmJxa66e6 : ∀ a, a < 0 → ∀ b, b < 0 → a ≠ b → (TJxa66e6 a).2.1 ≠ (TJxa66e6 b).2.1 := by decide +kernel
theorem tyJxa66e6_ok : ∀ k, k < 0 → parseFieldDescriptor (TJxa66e6 k).2.2.1 = some (tyJxa66e6 k) := by decide +kernel
def RJ8 : String := "jdk/internal/util/ArraysSupport"
def TJ8 : u_T := fun k => match k with
  | _ => ("", "", "", false)
def tyJ8 : Nat → FieldType := fun k => match k with
  | _ => .int
abbrev wsJ80 : List Cond := u_ws RJ8 TJ8 0
theorem nmJ8 : ∀ a, a < 0 → ∀ b, b < 0 → a ≠ b → (TJ8 a).2.1 ≠ (TJ8 b).2.1 := by decide +kernel
theorem tyJ8_ok : ∀ k, k < 0 → parseFieldDescriptor (TJ8 k).2.2.1 = some (tyJ8 k) := by decide +kernel
abbrev cJ8_newLength_cabcc : ByteArray := prog_37_method_27_code
def yJ8_newLength_cabcc : MethodName := ⟨RJ8, "newLength", "(III)I"⟩
abbrev cJ8_hugeLength_7cf53 : ByteArray := prog_37_method_28_code
def yJ8_hugeLength_7cf53 : MethodName := ⟨RJ8, "hugeLength", "(II)I"⟩
def RJ3 : String := "jdk/internal/util/Preconditions"
def TJ3 : u_T := fun k => match k with
  | _ => ("", "", "", false)
def tyJ3 : Nat → FieldType := fun k => match k with
  | _ => .int
abbrev wsJ30 : List Cond := u_ws RJ3 TJ3 0
theorem nmJ3 : ∀ a, a < 0 → ∀ b, b < 0 → a ≠ b → (TJ3 a).2.1 ≠ (TJ3 b).2.1 := by decide +kernel
theorem tyJ3_ok : ∀ k, k < 0 → parseFieldDescriptor (TJ3 k).2.2.1 = some (tyJ3 k) := by decide +kernel
abbrev cJ3_checkIndex_8e157 : ByteArray := prog_38_method_11_code
def yJ3_checkIndex_8e157 : MethodName := ⟨RJ3, "checkIndex", "(IILjava/util/function/BiFunction;)I"⟩
abbrev cJ3_checkFromToIndex_8c36e : ByteArray := prog_38_method_12_code
def yJ3_checkFromToIndex_8c36e : MethodName := ⟨RJ3, "checkFromToIndex", "(IIILjava/util/function/BiFunction;)I"⟩
def RL : String := "GrainPitLaw"
abbrev cL_rule : ByteArray := method_3_code
def yL_rule : MethodName := ⟨RL, "rule", "(LGrainPit;IIIIIII[J)I"⟩
abbrev cL_pay : ByteArray := method_4_code
def yL_pay : MethodName := ⟨RL, "pay", "(LGrainPit;II[J)I"⟩
abbrev cL_money : ByteArray := method_5_code
def yL_money : MethodName := ⟨RL, "money", "(LGrainPit;II[J)I"⟩
abbrev cL_position : ByteArray := method_6_code
def yL_position : MethodName := ⟨RL, "position", "(LGrainPit;II[J)I"⟩
abbrev cL_equity : ByteArray := method_7_code
def yL_equity : MethodName := ⟨RL, "equity", "(LGrainPit;III[J)I"⟩
abbrev cL_law : ByteArray := code
def yL_law : MethodName := ⟨RL, "law", "([I)Z"⟩
end
section
abbrev vcl : List vw_C := [(RX0, TX0, 3), (RX1, TX1, 5), (RX2, TX2, 4), (RX3, TX3, 7), (RX4, TX4, 11), (RX5, TX5, 4), (RX6, TX6, 3), (RX7, TX7, 4), (RX8, TX8, 3), (RX9, TX9, 4), (RX10, TX10, 7), (RX11, TX11, 11), (RX12, TX12, 48), (RJx4a65c, TJx4a65c, 3)]
def ftl : List (List Nat) := [[2, 2, 2], [2, 1, 1, 3, 3], [2, 2, 2, 3], [0, 0, 0, 0, 0, 0, 0], [2, 0, 0, 0, 0, 0, 0, 0, 0, 2, 0], [0, 0, 0, 3], [0, 0, 2], [2, 2, 2, 0], [0, 0, 2], [0, 0, 0, 0], [0, 0, 0, 0, 0, 0, 3], [2, 2, 2, 2, 2, 2, 2, 2, 0, 0, 0], [2, 0, 0, 0, 2, 2, 2, 2, 2, 0, 0, 2, 2, 2, 2, 2, 2, 2, 2, 2, 2, 0, 2, 0, 0, 2, 2, 2, 2, 2, 0, 2, 0, 2, 0, 0, 0, 0, 0, 0, 0, 0, 0, 0, 0, 0, 2, 2], [0, 2, 0]]
/-! ===== the logic: a memory of maps, programs over it (M), the judgement that the machine does what a program says (Ok), a method's contract (Ct) ===== -/
/-- a method: name, bytes, locals, what it returns -/
abbrev Mth : Type := MethodName × ByteArray × Nat × Option FieldType
/-- what a walk is over: the launch, the classes' numbers and slots, the array classes' numbers, the first address of our own cells, what else is known of the outside -/
abbrev Gam : Type := Launch × va_G × (Nat → ClassId) × Nat × (Nat → Option Nat) × (State → Prop)
abbrev gL (Γ : Gam) : Launch := Γ.1
abbrev gD (Γ : Gam) : va_G := Γ.2.1
abbrev gA (Γ : Gam) : Nat → ClassId := Γ.2.2.1
abbrev gB (Γ : Gam) : Nat := Γ.2.2.2.1
abbrev gT (Γ : Gam) : Nat → Option Nat := Γ.2.2.2.2.1
abbrev gE (Γ : Gam) : State → Prop := Γ.2.2.2.2.2
/-- a field's kind: 0 int, 1 long, 2 reference, 3 boolean -/
def fty (c k : Nat) : Nat := (ftl.getD c []).getD k 0
/-- int fields, long fields, reference fields (by 64 * class + place, address); arrays' elements (by kind, address, place); kinds; lengths; the next address; slots made; constants of the outside -/
abbrev Mem : Type := (Nat → Nat → Int32) × (Nat → Nat → Int64) × (Nat → Nat → Option Nat) × (Nat → Nat → Nat → Int32) × (Nat → Nat → Nat → Int64) × (Nat → Nat → Nat → Option Nat) × (Nat → Nat) × (Nat → Nat) × Nat × Nat × (Nat → Option Nat)
def mI (μ : Mem) : Nat → Nat → Int32 := μ.1
def mL (μ : Mem) : Nat → Nat → Int64 := μ.2.1
def mP (μ : Mem) : Nat → Nat → Option Nat := μ.2.2.1
def aI (μ : Mem) : Nat → Nat → Nat → Int32 := μ.2.2.2.1
def aL (μ : Mem) : Nat → Nat → Nat → Int64 := μ.2.2.2.2.1
def aP (μ : Mem) : Nat → Nat → Nat → Option Nat := μ.2.2.2.2.2.1
def mK (μ : Mem) : Nat → Nat := μ.2.2.2.2.2.2.1
def mN (μ : Mem) : Nat → Nat := μ.2.2.2.2.2.2.2.1
def mX (μ : Mem) : Nat := μ.2.2.2.2.2.2.2.2.1
def mS (μ : Mem) : Nat := μ.2.2.2.2.2.2.2.2.2.1
def mT (μ : Mem) : Nat → Option Nat := μ.2.2.2.2.2.2.2.2.2.2
def up2 {α : Type} (m : Nat → Nat → α) (f a : Nat) (v : α) : Nat → Nat → α := fun g b => if g = f ∧ b = a then v else m g b
def up3 {α : Type} (m : Nat → Nat → Nat → α) (f a i : Nat) (v : α) : Nat → Nat → Nat → α := fun g b j => if g = f ∧ b = a ∧ j = i then v else m g b j
def sI (μ : Mem) (f a : Nat) (v : Int32) : Mem := (up2 (mI μ) f a v, mL μ, mP μ, aI μ, aL μ, aP μ, mK μ, mN μ, mX μ, mS μ, mT μ)
def sL (μ : Mem) (f a : Nat) (v : Int64) : Mem := (mI μ, up2 (mL μ) f a v, mP μ, aI μ, aL μ, aP μ, mK μ, mN μ, mX μ, mS μ, mT μ)
def sP (μ : Mem) (f a : Nat) (v : Option Nat) : Mem := (mI μ, mL μ, up2 (mP μ) f a v, aI μ, aL μ, aP μ, mK μ, mN μ, mX μ, mS μ, mT μ)
def tI (μ : Mem) (k a i : Nat) (v : Int32) : Mem := (mI μ, mL μ, mP μ, up3 (aI μ) k a i v, aL μ, aP μ, mK μ, mN μ, mX μ, mS μ, mT μ)
def tL (μ : Mem) (k a i : Nat) (v : Int64) : Mem := (mI μ, mL μ, mP μ, aI μ, up3 (aL μ) k a i v, aP μ, mK μ, mN μ, mX μ, mS μ, mT μ)
def tP (μ : Mem) (k a i : Nat) (v : Option Nat) : Mem := (mI μ, mL μ, mP μ, aI μ, aL μ, up3 (aP μ) k a i v, mK μ, mN μ, mX μ, mS μ, mT μ)
/-- a new object of class c (n slots) -/
def nO (c n : Nat) (μ : Mem) : Mem := (fun f b => if b = mX μ then 0 else mI μ f b, fun f b => if b = mX μ then 0 else mL μ f b, fun f b => if b = mX μ then none else mP μ f b, aI μ, aL μ, aP μ, fun b => if b = mX μ then c + 1 else mK μ b, mN μ, mX μ + 1, mS μ + n, mT μ)
/-- a new array of kind k with n places -/
def nA (k n : Nat) (μ : Mem) : Mem := (mI μ, mL μ, mP μ, fun g b i => if b = mX μ then 0 else aI μ g b i, fun g b i => if b = mX μ then 0 else aL μ g b i, fun g b i => if b = mX μ then none else aP μ g b i, fun b => if b = mX μ then k else mK μ b, fun b => if b = mX μ then n else mN μ b, mX μ + 1, mS μ + n, mT μ)
abbrev M (α : Type) : Type := Mem → Option (α × Mem)
def rt {α : Type} (x : α) : M α := fun μ => some (x, μ)
def fl {α : Type} : M α := fun _ => none
def bn {α β : Type} (x : M α) (f : α → M β) : M β := fun μ => match x μ with
  | none => none
  | some q => f q.1 q.2
/-- what must hold -/
def ck (b : Bool) : M Unit := fun μ => if b = true then some ((), μ) else none
def pRc (c : Nat) (r : Option Nat) : M Nat := fun μ => match r with
  | none => none
  | some a => if mK μ a = c + 1 then some (a, μ) else none
def pArr (k : Nat) (r : Option Nat) : M Nat := fun μ => match r with
  | none => none
  | some a => if mK μ a = k then some (a, μ) else none
def gI (c k : Nat) (r : Option Nat) : M Int32 := bn (pRc c r) fun a μ => some (mI μ (64 * c + k) a, μ)
def gLg (c k : Nat) (r : Option Nat) : M Int64 := bn (pRc c r) fun a μ => some (mL μ (64 * c + k) a, μ)
def gP (c k : Nat) (r : Option Nat) : M (Option Nat) := bn (pRc c r) fun a μ => some (mP μ (64 * c + k) a, μ)
def wI (c k : Nat) (r : Option Nat) (v : Int32) : M Unit := bn (pRc c r) fun a μ => some ((), sI μ (64 * c + k) a v)
def wZ (c k : Nat) (r : Option Nat) (v : Int32) : M Unit := bn (pRc c r) fun a μ => if v = 0 ∨ v = 1 then some ((), sI μ (64 * c + k) a v) else none
def wL (c k : Nat) (r : Option Nat) (v : Int64) : M Unit := bn (pRc c r) fun a μ => some ((), sL μ (64 * c + k) a v)
def wP (c k : Nat) (r : Option Nat) (v : Option Nat) : M Unit := bn (pRc c r) fun a μ => some ((), sP μ (64 * c + k) a v)
def newO (c n : Nat) : M (Option Nat) := fun μ => some (some (mX μ), nO c n μ)
def newA (k : Nat) (n : Int32) : M (Option Nat) := fun μ => if ¬ n < 0 ∧ n.toNatClampNeg ≤ 1000000 then some (some (mX μ), nA k n.toNatClampNeg μ) else none
def inA (i : Int32) (n : Nat) : Prop := ¬ (i < 0 ∨ n ≤ i.toNatClampNeg)
def lI (k : Nat) (r : Option Nat) (i : Int32) : M Int32 := bn (pArr k r) fun a μ => if ¬ (i < 0 ∨ mN μ a ≤ i.toNatClampNeg) then some (aI μ k a i.toNatClampNeg, μ) else none
def lL (k : Nat) (r : Option Nat) (i : Int32) : M Int64 := bn (pArr k r) fun a μ => if ¬ (i < 0 ∨ mN μ a ≤ i.toNatClampNeg) then some (aL μ k a i.toNatClampNeg, μ) else none
def lP (k : Nat) (r : Option Nat) (i : Int32) : M (Option Nat) := bn (pArr k r) fun a μ => if ¬ (i < 0 ∨ mN μ a ≤ i.toNatClampNeg) then some (aP μ k a i.toNatClampNeg, μ) else none
def stI (k : Nat) (r : Option Nat) (i v : Int32) : M Unit := bn (pArr k r) fun a μ => if ¬ (i < 0 ∨ mN μ a ≤ i.toNatClampNeg) then some ((), tI μ k a i.toNatClampNeg v) else none
def stZ (k : Nat) (r : Option Nat) (i v : Int32) : M Unit := bn (pArr k r) fun a μ => if ¬ (i < 0 ∨ mN μ a ≤ i.toNatClampNeg) ∧ vp_nar .boolean v = v then some ((), tI μ k a i.toNatClampNeg v) else none
def stC (k : Nat) (r : Option Nat) (i v : Int32) : M Unit := bn (pArr k r) fun a μ => if ¬ (i < 0 ∨ mN μ a ≤ i.toNatClampNeg) ∧ vp_nar .char v = v then some ((), tI μ k a i.toNatClampNeg v) else none
def stL (k : Nat) (r : Option Nat) (i : Int32) (v : Int64) : M Unit := bn (pArr k r) fun a μ => if ¬ (i < 0 ∨ mN μ a ≤ i.toNatClampNeg) then some ((), tL μ k a i.toNatClampNeg v) else none
/-- a reference into an array of references: the value is null, or an object of class c -/
def stP (k c : Nat) (r : Option Nat) (i : Int32) (v : Option Nat) : M Unit := bn (pArr k r) fun a μ => if ¬ (i < 0 ∨ mN μ a ≤ i.toNatClampNeg) ∧ (v = none ∨ mK μ (v.getD 0) = c + 1) then some ((), tP μ k a i.toNatClampNeg v) else none
/-- the length of any array -/
def len (r : Option Nat) : M Int32 := fun μ => if r = mT μ 0 then some (0, μ) else match r with
  | none => none
  | some a => if 64 ≤ mK μ a then some (Int32.ofNat (mN μ a), μ) else none
def cst (c : Nat) (r : Option Nat) : M Unit := fun μ => match r with
  | none => some ((), μ)
  | some a => if mK μ a = c + 1 then some ((), μ) else none
def dvI (x y : Int32) : M Int32 := fun μ => if y = 0 then none else some (x / y, μ)
def rmI (x y : Int32) : M Int32 := fun μ => if y = 0 then none else some (x - x / y * y, μ)
def rz (v : Int32) : M Int32 := fun μ => if v = 0 ∨ v = 1 then some (v, μ) else none
/-- what the cells hold -/
def fv (μ : Mem) (c a k : Nat) : Value := if fty c k = 1 then .long (mL μ (64 * c + k) a) else if fty c k = 2 then va_rf (mP μ (64 * c + k) a) else .int (mI μ (64 * c + k) a)
def ev (μ : Mem) (a j : Nat) : Value := if mK μ a % 8 = 1 then .long (aL μ (mK μ a) a j) else if 4 ≤ mK μ a % 8 then va_rf (aP μ (mK μ a) a j) else .int (aI μ (mK μ a) a j)
def atC (Γ : Gam) (μ : Mem) (a : Nat) (H : Heap) : Prop :=
  (∀ (c : Nat) (q : vw_C), mK μ a = c + 1 → vcl[c]? = some q → t_OB a ((gD Γ).1 c) q.2.2 ((gD Γ).2 c) H (fv μ c a)) ∧ (64 ≤ mK μ a → H[a]? = some (arrV (gA Γ (mK μ a % 8)) (mN μ a) (ev μ a)))
/-- the heap is what the memory says; kind 76: arrays that are no cells of ours and have no places -/
def Wd (Γ : Gam) (μ : Mem) (H : Heap) : Prop := H.size = mX μ ∧ mT μ = gT Γ ∧ ∀ a, mK μ a ≠ 0 → (a < H.size ∧ atC Γ μ a H) ∧ (mK μ a ≠ 76 → gB Γ ≤ a)
def tysA (f : Nat → ClassId) : List (ClassId × FieldType) := [(f 0, .int), (f 1, .long), (f 2, .boolean), (f 3, .char), (f 4, .object "java/lang/Object"), (f 5, .object "GrainPit$Month"), (f 6, .object "GrainPit$Settle"), (f 7, .byte)]
def nnw : Cond → Bool
  | .methodLinkNest .. => true
  | .castable .. => true
  | .declares .. => true
  | .arrayOver (.object _) => true
  | _ => false
def lw_nn : List Cond := lw_tbl.filter nnw
def kLn : List Nat := [79, 13, 79]
def kBy : List (List Int32) := [[108, 105, 109, 105, 116, 32, 102, 105, 114, 115, 116, 32, 107, 101, 101, 112, 32, 99, 97, 112, 32, 100, 105, 102, 102, 32, 102, 101, 101, 32, 100, 97, 121, 32, 109, 111, 110, 116, 104, 32, 112, 114, 105, 99, 101, 32, 108, 111, 116, 115, 32, 103, 114, 97, 100, 101, 32, 112, 108, 97, 99, 101, 32, 102, 114, 111, 109, 32, 105, 115, 32, 109, 105, 110, 32, 109, 97, 120, 32], [59, 63, 58, 60, 62, 61, 43, 45, 42, 47, 40, 41, 44], [108, 105, 109, 105, 116, 32, 102, 105, 114, 115, 116, 32, 107, 101, 101, 112, 32, 99, 97, 112, 32, 100, 105, 102, 102, 32, 102, 101, 101, 32, 102, 114, 111, 109, 32, 105, 115, 32, 109, 105, 110, 32, 109, 97, 120, 32, 100, 97, 121, 32, 109, 111, 110, 116, 104, 32, 112, 114, 105, 99, 101, 32, 108, 111, 116, 115, 32, 103, 114, 97, 100, 101, 32, 112, 108, 97, 99, 101, 32]]
/-- what is known of the outside: ArrayList's empty array, the class of Object[], two statics, the texts -/
def EX (Γ : Gam) (U : State) : Prop :=
  (va_Z "java/util/ArrayList" "DEFAULTCAPACITY_EMPTY_ELEMENTDATA" "[Ljava/lang/Object;" (va_rf (gT Γ 0)) (fun q => gB Γ ≤ q) U U.heap ∧ ∃ t, gT Γ 0 = some t ∧ va_T (.object "java/lang/Object") t 0 (fun _ => .null) (fun q => gB Γ ≤ q) U U.heap) ∧ (∃ mi, gT Γ 40 = some mi ∧ va_Mi "[Ljava/lang/Object;" mi U) ∧
  va_Z "java/lang/String" "COMPACT_STRINGS" "Z" (.int 1) (fun q => gB Γ ≤ q) U U.heap ∧ va_Z "jdk/internal/util/Preconditions" "SIOOBE_FORMATTER" "Ljava/util/function/BiFunction;" (va_rf (gT Γ 41)) (fun q => gB Γ ≤ q) U U.heap ∧
  (∃ aK aV : Nat → Nat, (∀ i, i < 3 → gT Γ (1 + i) = some (aK i) ∧ gT Γ (11 + i) = some (aV i)) ∧ vk_S 3 kLn kBy aK aV (fun q => gB Γ ≤ q) U U.heap ∧
    vk_R "GrainPit$Reader" 143 "limit first keep cap diff fee day month price lots grade place from is min max " (aK 0) U ∧ vk_R "GrainPit$Reader" 128 ";?:<>=+-*/()," (aK 1) U ∧ vk_R "GrainPitModel" 110 "limit first keep cap diff fee from is min max day month price lots grade place " (aK 2) U ∧ vk_R "GrainPitModel" 151 ";?:<>=+-*/()," (aK 1) U) ∧ gE Γ U
def KK (Γ : Gam) (U : State) : Prop := va_K (gD Γ) vcl (tysA (gA Γ)) U ∧ (∀ w ∈ lw_nn, va_Nw w U) ∧ EX Γ U
/-- what is known of the outside stays so -/
def Stab (Γ : Gam) : Prop := ∀ s U : State, gE Γ s → s.WarmedH U.vm → s.heap.size ≤ U.heap.size → (∀ q, q < s.heap.size → ¬ gB Γ ≤ q → U.heap[q]? = s.heap[q]?) → gE Γ U
def Ctx (Γ : Gam) (y : Mth) (p : Program) (s : State) (m : MethodId) (args : Array Value) (meth : Method) (c : Code) : Prop :=
  p.tables.exec = Jvm.exec ∧ c.code = y.2.1 ∧ meth.sig.returnType = y.2.2.2 ∧ c.maxLocals = y.2.2.1 ∧ s.vm.findClass y.1.cls = some m.cls ∧ (∀ w ∈ lw_g, w.before args s = true) ∧ meth.locks = false ∧ meth.name = y.1.name ∧ KK Γ s ∧ Stab Γ ∧ gB Γ ≤ s.heap.size ∧ (Cond.code y.1 y.2.1 y.2.2.1 y.2.2.2 ∈ lw_g → c.exceptionTable.toList = []) ∧ ∀ hh, Cond.codeWith y.1 y.2.1 y.2.2.1 y.2.2.2 hh ∈ lw_g → c.exceptionTable.toList = tableOf hh
def rmo (d c s : Nat) : Room := { frames := d, cells := c, slots := s, locals := 64 * d }
def wsy (y : Mth) : List Cond := Cond.code y.1 y.2.1 y.2.2.1 y.2.2.2 :: lw_g
def Qo (Γ : Gam) (v : Option Value) (μ' : Mem) : Array Value → State → Outcome → State → Prop := fun _ st o t => o = .returned v ∧ Wd Γ μ' t.heap ∧ va_F (fun q => gB Γ ≤ q) st t
/-- what is to hold at a method's end -/
abbrev Rv (α : Type) : Type := α → Mem → List Frame → Array Value → State → Nat → Nat → State → Prop
/-- it has returned -/
def qo {α : Type} (Γ : Gam) (rv : α → Option Value) : Rv α := fun x μ' below args s mc ms => MQ below (Qo Γ (rv x) μ') args s mc ms (fun q => gB Γ ≤ q)
def Ok {α : Type} (Γ : Gam) (y : Mth) (d : Nat) (rv : Rv α) (pc : Nat) (lv : List (Nat × Value)) (st : List Value) (F : M α) : Prop :=
  ∀ (μ : Mem) (x : α) (μ' : Mem), F μ = some (x, μ') → (mX μ ≤ mX μ' ∧ mS μ ≤ mS μ') ∧
    ∀ (p : Program) (e : Env) (s : State) (m : MethodId) (args : Array Value) (below : List Frame) (meth : Method) (c : Code) (x0 s0 : Nat) (H : Heap) (locs : List Loc) (ls : Array Slot),
      Ctx Γ y p s m args meth c → x0 ≤ mX μ → s0 ≤ mS μ → va_S (fun q => gB Γ ≤ q) s.heap H locs → Wd Γ μ H → lv_has ls y.2.2.1 lv →
      W p (gL Γ) e (rmo d (mX μ' - x0) (mS μ' - s0)) s m args below meth c H locs (mX μ - x0) (mS μ - s0) (rv x μ' below args s (mX μ' - x0) (mS μ' - s0)) (F0 m pc ls st)
def Ct {α : Type} (Γ : Gam) (y : Mth) (d : Nat) (rv : α → Option Value) (av : List Value) (G : M α) : Prop :=
  ∀ (μ : Mem) (x : α) (μ' : Mem), G μ = some (x, μ') → (mX μ ≤ mX μ' ∧ mS μ ≤ mS μ') ∧
    (Stab Γ → Met (gL Γ) y.1 (wsy y) (rmo d (mX μ' - mX μ) (mS μ' - mS μ)) (va_Pc av (fun U => Wd Γ μ U.heap ∧ KK Γ U ∧ gB Γ ≤ U.heap.size)) (Qo Γ (rv x) μ') (mX μ' - mX μ) (mS μ' - mS μ) (fun q => gB Γ ≤ q))
def vI (x : Int32) : Option Value := some (.int x)
def vL (x : Int64) : Option Value := some (.long x)
def vP (x : Option Nat) : Option Value := some (va_rf x)
def vV (_ : Unit) : Option Value := none
theorem lw_g_sub : ∀ w ∈ lw_g, w ∈ lw_tbl := fun w h => (List.mem_filter.mp h).1
theorem lw_g_good : ∀ w ∈ lw_g, goodWord w = true := fun w h => (List.mem_filter.mp h).2
theorem gin {w : Cond} (i : Nat) (h : lw_tbl[i]? = some w) (hg : goodWord w = true) : w ∈ lw_g := List.mem_filter.mpr ⟨List.mem_of_getElem? h, hg⟩
theorem nin {w : Cond} (i : Nat) (h : lw_tbl[i]? = some w) (hg : nnw w = true) : w ∈ lw_nn := List.mem_filter.mpr ⟨List.mem_of_getElem? h, hg⟩
theorem bn_some {α β : Type} {x : M α} {f : α → M β} {μ : Mem} {q : β × Mem} (h : bn x f μ = some q) : ∃ a μ1, x μ = some (a, μ1) ∧ f a μ1 = some q := by
  unfold bn at h
  cases hx : x μ with
  | none => rw [hx] at h; cases h
  | some w => rw [hx] at h; exact ⟨w.1, w.2, rfl, h⟩
/-- the general step: an instruction that leaves the heap alone -/
theorem ok_of {α : Type} {Γ : Gam} {y : Mth} {d : Nat} {rv : Rv α} {pc pc' : Nat} {lv lv' : List (Nat × Value)} {st st' : List Value} {F : M α}
    (hW : ∀ {p : Program} {l : Launch} {e : Env} {R : Room} {s : State} {m : MethodId} {args : Array Value} {below : List Frame} {meth : Method} {c : Code} {H : Heap} {locs : List Loc} {cells slots : Nat} {Q : State → Prop} {ls : Array Slot},
      Ctx Γ y p s m args meth c → lv_has ls y.2.2.1 lv → (∀ ls', lv_has ls' y.2.2.1 lv' → W p l e R s m args below meth c H locs cells slots Q (F0 m pc' ls' st')) → W p l e R s m args below meth c H locs cells slots Q (F0 m pc ls st))
    (k : Ok Γ y d rv pc' lv' st' F) : Ok Γ y d rv pc lv st F := by
  intro μ x μ' h
  refine ⟨(k μ x μ' h).1, ?_⟩
  intro p e s m args below meth c x0 s0 H locs ls hc h1 h2 hS hD hl
  exact hW hc hl fun ls' hl' => (k μ x μ' h).2 p e s m args below meth c x0 s0 H locs ls' hc h1 h2 hS hD hl'
theorem mI_sI (μ : Mem) (f a : Nat) (v : Int32) : mI (sI μ f a v) = up2 (mI μ) f a v := rfl
theorem mL_sI (μ : Mem) (f a : Nat) (v : Int32) : mL (sI μ f a v) = mL μ := rfl
theorem mP_sI (μ : Mem) (f a : Nat) (v : Int32) : mP (sI μ f a v) = mP μ := rfl
theorem aI_sI (μ : Mem) (f a : Nat) (v : Int32) : aI (sI μ f a v) = aI μ := rfl
theorem aL_sI (μ : Mem) (f a : Nat) (v : Int32) : aL (sI μ f a v) = aL μ := rfl
theorem aP_sI (μ : Mem) (f a : Nat) (v : Int32) : aP (sI μ f a v) = aP μ := rfl
theorem mK_sI (μ : Mem) (f a : Nat) (v : Int32) : mK (sI μ f a v) = mK μ := rfl
theorem mN_sI (μ : Mem) (f a : Nat) (v : Int32) : mN (sI μ f a v) = mN μ := rfl
theorem mX_sI (μ : Mem) (f a : Nat) (v : Int32) : mX (sI μ f a v) = mX μ := rfl
theorem mS_sI (μ : Mem) (f a : Nat) (v : Int32) : mS (sI μ f a v) = mS μ := rfl
theorem mI_sL (μ : Mem) (f a : Nat) (v : Int64) : mI (sL μ f a v) = mI μ := rfl
theorem mL_sL (μ : Mem) (f a : Nat) (v : Int64) : mL (sL μ f a v) = up2 (mL μ) f a v := rfl
theorem mP_sL (μ : Mem) (f a : Nat) (v : Int64) : mP (sL μ f a v) = mP μ := rfl
theorem aI_sL (μ : Mem) (f a : Nat) (v : Int64) : aI (sL μ f a v) = aI μ := rfl
theorem aL_sL (μ : Mem) (f a : Nat) (v : Int64) : aL (sL μ f a v) = aL μ := rfl
theorem aP_sL (μ : Mem) (f a : Nat) (v : Int64) : aP (sL μ f a v) = aP μ := rfl
theorem mK_sL (μ : Mem) (f a : Nat) (v : Int64) : mK (sL μ f a v) = mK μ := rfl
theorem mN_sL (μ : Mem) (f a : Nat) (v : Int64) : mN (sL μ f a v) = mN μ := rfl
theorem mX_sL (μ : Mem) (f a : Nat) (v : Int64) : mX (sL μ f a v) = mX μ := rfl
theorem mS_sL (μ : Mem) (f a : Nat) (v : Int64) : mS (sL μ f a v) = mS μ := rfl
theorem mI_sP (μ : Mem) (f a : Nat) (v : Option Nat) : mI (sP μ f a v) = mI μ := rfl
theorem mL_sP (μ : Mem) (f a : Nat) (v : Option Nat) : mL (sP μ f a v) = mL μ := rfl
theorem mP_sP (μ : Mem) (f a : Nat) (v : Option Nat) : mP (sP μ f a v) = up2 (mP μ) f a v := rfl
theorem aI_sP (μ : Mem) (f a : Nat) (v : Option Nat) : aI (sP μ f a v) = aI μ := rfl
theorem aL_sP (μ : Mem) (f a : Nat) (v : Option Nat) : aL (sP μ f a v) = aL μ := rfl
theorem aP_sP (μ : Mem) (f a : Nat) (v : Option Nat) : aP (sP μ f a v) = aP μ := rfl
theorem mK_sP (μ : Mem) (f a : Nat) (v : Option Nat) : mK (sP μ f a v) = mK μ := rfl
theorem mN_sP (μ : Mem) (f a : Nat) (v : Option Nat) : mN (sP μ f a v) = mN μ := rfl
theorem mX_sP (μ : Mem) (f a : Nat) (v : Option Nat) : mX (sP μ f a v) = mX μ := rfl
theorem mS_sP (μ : Mem) (f a : Nat) (v : Option Nat) : mS (sP μ f a v) = mS μ := rfl
theorem mI_tI (μ : Mem) (k a i : Nat) (v : Int32) : mI (tI μ k a i v) = mI μ := rfl
theorem mL_tI (μ : Mem) (k a i : Nat) (v : Int32) : mL (tI μ k a i v) = mL μ := rfl
theorem mP_tI (μ : Mem) (k a i : Nat) (v : Int32) : mP (tI μ k a i v) = mP μ := rfl
theorem aI_tI (μ : Mem) (k a i : Nat) (v : Int32) : aI (tI μ k a i v) = up3 (aI μ) k a i v := rfl
theorem aL_tI (μ : Mem) (k a i : Nat) (v : Int32) : aL (tI μ k a i v) = aL μ := rfl
theorem aP_tI (μ : Mem) (k a i : Nat) (v : Int32) : aP (tI μ k a i v) = aP μ := rfl
theorem mK_tI (μ : Mem) (k a i : Nat) (v : Int32) : mK (tI μ k a i v) = mK μ := rfl
theorem mN_tI (μ : Mem) (k a i : Nat) (v : Int32) : mN (tI μ k a i v) = mN μ := rfl
theorem mX_tI (μ : Mem) (k a i : Nat) (v : Int32) : mX (tI μ k a i v) = mX μ := rfl
theorem mS_tI (μ : Mem) (k a i : Nat) (v : Int32) : mS (tI μ k a i v) = mS μ := rfl
theorem mI_tL (μ : Mem) (k a i : Nat) (v : Int64) : mI (tL μ k a i v) = mI μ := rfl
theorem mL_tL (μ : Mem) (k a i : Nat) (v : Int64) : mL (tL μ k a i v) = mL μ := rfl
theorem mP_tL (μ : Mem) (k a i : Nat) (v : Int64) : mP (tL μ k a i v) = mP μ := rfl
theorem aI_tL (μ : Mem) (k a i : Nat) (v : Int64) : aI (tL μ k a i v) = aI μ := rfl
theorem aL_tL (μ : Mem) (k a i : Nat) (v : Int64) : aL (tL μ k a i v) = up3 (aL μ) k a i v := rfl
theorem aP_tL (μ : Mem) (k a i : Nat) (v : Int64) : aP (tL μ k a i v) = aP μ := rfl
theorem mK_tL (μ : Mem) (k a i : Nat) (v : Int64) : mK (tL μ k a i v) = mK μ := rfl
theorem mN_tL (μ : Mem) (k a i : Nat) (v : Int64) : mN (tL μ k a i v) = mN μ := rfl
theorem mX_tL (μ : Mem) (k a i : Nat) (v : Int64) : mX (tL μ k a i v) = mX μ := rfl
theorem mS_tL (μ : Mem) (k a i : Nat) (v : Int64) : mS (tL μ k a i v) = mS μ := rfl
theorem mI_tP (μ : Mem) (k a i : Nat) (v : Option Nat) : mI (tP μ k a i v) = mI μ := rfl
theorem mL_tP (μ : Mem) (k a i : Nat) (v : Option Nat) : mL (tP μ k a i v) = mL μ := rfl
theorem mP_tP (μ : Mem) (k a i : Nat) (v : Option Nat) : mP (tP μ k a i v) = mP μ := rfl
theorem aI_tP (μ : Mem) (k a i : Nat) (v : Option Nat) : aI (tP μ k a i v) = aI μ := rfl
theorem aL_tP (μ : Mem) (k a i : Nat) (v : Option Nat) : aL (tP μ k a i v) = aL μ := rfl
theorem aP_tP (μ : Mem) (k a i : Nat) (v : Option Nat) : aP (tP μ k a i v) = up3 (aP μ) k a i v := rfl
theorem mK_tP (μ : Mem) (k a i : Nat) (v : Option Nat) : mK (tP μ k a i v) = mK μ := rfl
theorem mN_tP (μ : Mem) (k a i : Nat) (v : Option Nat) : mN (tP μ k a i v) = mN μ := rfl
theorem mX_tP (μ : Mem) (k a i : Nat) (v : Option Nat) : mX (tP μ k a i v) = mX μ := rfl
theorem mS_tP (μ : Mem) (k a i : Nat) (v : Option Nat) : mS (tP μ k a i v) = mS μ := rfl
theorem mI_nO (μ : Mem) (c n : Nat) : mI (nO c n μ) = (fun f b => if b = mX μ then 0 else mI μ f b) := rfl
theorem mL_nO (μ : Mem) (c n : Nat) : mL (nO c n μ) = (fun f b => if b = mX μ then 0 else mL μ f b) := rfl
theorem mP_nO (μ : Mem) (c n : Nat) : mP (nO c n μ) = (fun f b => if b = mX μ then none else mP μ f b) := rfl
theorem aI_nO (μ : Mem) (c n : Nat) : aI (nO c n μ) = (aI μ) := rfl
theorem aL_nO (μ : Mem) (c n : Nat) : aL (nO c n μ) = (aL μ) := rfl
theorem aP_nO (μ : Mem) (c n : Nat) : aP (nO c n μ) = (aP μ) := rfl
theorem mK_nO (μ : Mem) (c n : Nat) : mK (nO c n μ) = (fun b => if b = mX μ then c + 1 else mK μ b) := rfl
theorem mN_nO (μ : Mem) (c n : Nat) : mN (nO c n μ) = (mN μ) := rfl
theorem mX_nO (μ : Mem) (c n : Nat) : mX (nO c n μ) = (mX μ + 1) := rfl
theorem mS_nO (μ : Mem) (c n : Nat) : mS (nO c n μ) = (mS μ + n) := rfl
theorem mI_nA (μ : Mem) (c n : Nat) : mI (nA c n μ) = (mI μ) := rfl
theorem mL_nA (μ : Mem) (c n : Nat) : mL (nA c n μ) = (mL μ) := rfl
theorem mP_nA (μ : Mem) (c n : Nat) : mP (nA c n μ) = (mP μ) := rfl
theorem aI_nA (μ : Mem) (c n : Nat) : aI (nA c n μ) = (fun g b i => if b = mX μ then 0 else aI μ g b i) := rfl
theorem aL_nA (μ : Mem) (c n : Nat) : aL (nA c n μ) = (fun g b i => if b = mX μ then 0 else aL μ g b i) := rfl
theorem aP_nA (μ : Mem) (c n : Nat) : aP (nA c n μ) = (fun g b i => if b = mX μ then none else aP μ g b i) := rfl
theorem mK_nA (μ : Mem) (c n : Nat) : mK (nA c n μ) = (fun b => if b = mX μ then c else mK μ b) := rfl
theorem mN_nA (μ : Mem) (c n : Nat) : mN (nA c n μ) = (fun b => if b = mX μ then n else mN μ b) := rfl
theorem mX_nA (μ : Mem) (c n : Nat) : mX (nA c n μ) = (mX μ + 1) := rfl
theorem mS_nA (μ : Mem) (c n : Nat) : mS (nA c n μ) = (mS μ + n) := rfl
theorem mT_sI (μ : Mem) (f a : Nat) (v : Int32) : mT (sI μ f a v) = mT μ := rfl
theorem mT_sL (μ : Mem) (f a : Nat) (v : Int64) : mT (sL μ f a v) = mT μ := rfl
theorem mT_sP (μ : Mem) (f a : Nat) (v : Option Nat) : mT (sP μ f a v) = mT μ := rfl
theorem mT_tI (μ : Mem) (k a i : Nat) (v : Int32) : mT (tI μ k a i v) = mT μ := rfl
theorem mT_tL (μ : Mem) (k a i : Nat) (v : Int64) : mT (tL μ k a i v) = mT μ := rfl
theorem mT_tP (μ : Mem) (k a i : Nat) (v : Option Nat) : mT (tP μ k a i v) = mT μ := rfl
theorem mT_nO (μ : Mem) (c n : Nat) : mT (nO c n μ) = mT μ := rfl
theorem mT_nA (μ : Mem) (c n : Nat) : mT (nA c n μ) = mT μ := rfl
end
section
theorem ok_iconst {α : Type} {Γ : Gam} {y : Mth} {d : Nat} {rv : Rv α} {pc : Nat} {lv : List (Nat × Value)} {st : List Value} {F : M α} {n : Int} {v : Int32} (hd : decode y.2.1 pc = .ok (.iconst n, 1)) (hv : Int32.ofInt n = v) (k : Ok Γ y d rv (pc + 1) lv (.int v :: st) F) : Ok Γ y d rv pc lv st F :=
  ok_of (fun hc hl kk => lv_iconst hc.1 hc.2.1 hd hv (kk _ hl)) k
theorem ok_bipush {α : Type} {Γ : Gam} {y : Mth} {d : Nat} {rv : Rv α} {pc : Nat} {lv : List (Nat × Value)} {st : List Value} {F : M α} {n : Int} {v : Int32} (hd : decode y.2.1 pc = .ok (.bipush n, 2)) (hv : (Int8.ofInt n).toInt32 = v) (k : Ok Γ y d rv (pc + 2) lv (.int v :: st) F) : Ok Γ y d rv pc lv st F :=
  ok_of (fun hc hl kk => lv_bipush hc.1 hc.2.1 hd hv (kk _ hl)) k
theorem ok_sipush {α : Type} {Γ : Gam} {y : Mth} {d : Nat} {rv : Rv α} {pc : Nat} {lv : List (Nat × Value)} {st : List Value} {F : M α} {n : Int} {v : Int32} (hd : decode y.2.1 pc = .ok (.sipush n, 3)) (hv : (Int16.ofInt n).toInt32 = v) (k : Ok Γ y d rv (pc + 3) lv (.int v :: st) F) : Ok Γ y d rv pc lv st F :=
  ok_of (fun hc hl kk => lv_sipush hc.1 hc.2.1 hd hv (kk _ hl)) k
theorem ok_lconst {α : Type} {Γ : Gam} {y : Mth} {d : Nat} {rv : Rv α} {pc : Nat} {lv : List (Nat × Value)} {st : List Value} {F : M α} {n : Fin 2} {v : Int64} (hd : decode y.2.1 pc = .ok (.lconst n, 1)) (hv : Int64.ofNat (n : Nat) = v) (k : Ok Γ y d rv (pc + 1) lv (.long v :: st) F) : Ok Γ y d rv pc lv st F :=
  ok_of (fun hc hl kk => lv_lconst hc.1 hc.2.1 hd hv (kk _ hl)) k
theorem ok_null {α : Type} {Γ : Gam} {y : Mth} {d : Nat} {rv : Rv α} {pc : Nat} {lv : List (Nat × Value)} {st : List Value} {F : M α}  (hd : decode y.2.1 pc = .ok (.aconst_null, 1)) (k : Ok Γ y d rv (pc + 1) lv (va_rf none :: st) F) : Ok Γ y d rv pc lv st F :=
  ok_of (fun hc hl kk => lv_null hc.1 hc.2.1 hd (kk _ hl)) k
theorem ok_iload_n {α : Type} {Γ : Gam} {y : Mth} {d : Nat} {rv : Rv α} {pc : Nat} {lv : List (Nat × Value)} {st : List Value} {F : M α} {k4 : Fin 4} {x : Int32} (hd : decode y.2.1 pc = .ok (.iload_n k4, 1)) (i : Nat) (hk : lv[i]? = some ((k4 : Nat), .int x)) (k : Ok Γ y d rv (pc + 1) lv (.int x :: st) F) : Ok Γ y d rv pc lv st F :=
  ok_of (fun hc hl kk => lv_iload_n hc.1 hc.2.1 hd rfl (lv_at hl i hk) (kk _ hl)) k
theorem ok_iload {α : Type} {Γ : Gam} {y : Mth} {d : Nat} {rv : Rv α} {pc : Nat} {lv : List (Nat × Value)} {st : List Value} {F : M α} {n : Nat} {x : Int32} (hd : decode y.2.1 pc = .ok (.iload n, 2)) (i : Nat) (hk : lv[i]? = some (n, .int x)) (k : Ok Γ y d rv (pc + 2) lv (.int x :: st) F) : Ok Γ y d rv pc lv st F :=
  ok_of (fun hc hl kk => lv_iload hc.1 hc.2.1 hd (lv_at hl i hk) (kk _ hl)) k
theorem ok_lload_n {α : Type} {Γ : Gam} {y : Mth} {d : Nat} {rv : Rv α} {pc : Nat} {lv : List (Nat × Value)} {st : List Value} {F : M α} {k4 : Fin 4} {x : Int64} (hd : decode y.2.1 pc = .ok (.lload_n k4, 1)) (i : Nat) (hk : lv[i]? = some ((k4 : Nat), .long x)) (k : Ok Γ y d rv (pc + 1) lv (.long x :: st) F) : Ok Γ y d rv pc lv st F :=
  ok_of (fun hc hl kk => lv_lload_n hc.1 hc.2.1 hd rfl (lv_at hl i hk) (kk _ hl)) k
theorem ok_lload {α : Type} {Γ : Gam} {y : Mth} {d : Nat} {rv : Rv α} {pc : Nat} {lv : List (Nat × Value)} {st : List Value} {F : M α} {n : Nat} {x : Int64} (hd : decode y.2.1 pc = .ok (.lload n, 2)) (i : Nat) (hk : lv[i]? = some (n, .long x)) (k : Ok Γ y d rv (pc + 2) lv (.long x :: st) F) : Ok Γ y d rv pc lv st F :=
  ok_of (fun hc hl kk => lv_lload hc.1 hc.2.1 hd (lv_at hl i hk) (kk _ hl)) k
theorem ok_aload_n {α : Type} {Γ : Gam} {y : Mth} {d : Nat} {rv : Rv α} {pc : Nat} {lv : List (Nat × Value)} {st : List Value} {F : M α} {k4 : Fin 4} {r : Option Nat} (hd : decode y.2.1 pc = .ok (.aload_n k4, 1)) (i : Nat) (hk : lv[i]? = some ((k4 : Nat), va_rf r)) (k : Ok Γ y d rv (pc + 1) lv (va_rf r :: st) F) : Ok Γ y d rv pc lv st F := by
  refine ok_of (fun hc hl kk => ?_) k
  cases r with
  | none => exact lv_aload_nN hc.1 hc.2.1 hd rfl (lv_at hl i hk) (kk _ hl)
  | some a => exact lv_aload_n hc.1 hc.2.1 hd rfl (lv_at hl i hk) (kk _ hl)
theorem ok_aload {α : Type} {Γ : Gam} {y : Mth} {d : Nat} {rv : Rv α} {pc : Nat} {lv : List (Nat × Value)} {st : List Value} {F : M α} {n : Nat} {r : Option Nat} (hd : decode y.2.1 pc = .ok (.aload n, 2)) (i : Nat) (hk : lv[i]? = some (n, va_rf r)) (k : Ok Γ y d rv (pc + 2) lv (va_rf r :: st) F) : Ok Γ y d rv pc lv st F := by
  refine ok_of (fun hc hl kk => ?_) k
  cases r with
  | none => exact lv_aloadN hc.1 hc.2.1 hd (lv_at hl i hk) (kk _ hl)
  | some a => exact lv_aload hc.1 hc.2.1 hd (lv_at hl i hk) (kk _ hl)
theorem ok_istore_n {α : Type} {Γ : Gam} {y : Mth} {d : Nat} {rv : Rv α} {pc : Nat} {lv : List (Nat × Value)} {st : List Value} {F : M α} {k4 : Fin 4} {x : Int32} {lv' : List (Nat × Value)} (hd : decode y.2.1 pc = .ok (.istore_n k4, 1)) (hn : (k4 : Nat) < y.2.2.1) (hl' : ((k4 : Nat), Value.int x) :: lv.filter (fun q => !(q.1 == (k4 : Nat)) && !(q.1 + 1 == (k4 : Nat) && q.2.category == 2)) = lv') (k : Ok Γ y d rv (pc + 1) lv' st F) : Ok Γ y d rv pc lv (.int x :: st) F :=
  ok_of (fun hc hl kk => lv_istore_n hc.1 hc.2.1 hd rfl hl hn hl' kk) k
theorem ok_istore {α : Type} {Γ : Gam} {y : Mth} {d : Nat} {rv : Rv α} {pc : Nat} {lv : List (Nat × Value)} {st : List Value} {F : M α} {n : Nat} {x : Int32} {lv' : List (Nat × Value)} (hd : decode y.2.1 pc = .ok (.istore n, 2)) (hn : n < y.2.2.1) (hl' : (n, Value.int x) :: lv.filter (fun q => !(q.1 == n) && !(q.1 + 1 == n && q.2.category == 2)) = lv') (k : Ok Γ y d rv (pc + 2) lv' st F) : Ok Γ y d rv pc lv (.int x :: st) F :=
  ok_of (fun hc hl kk => lv_istore hc.1 hc.2.1 hd hl hn hl' kk) k
theorem ok_lstore_n {α : Type} {Γ : Gam} {y : Mth} {d : Nat} {rv : Rv α} {pc : Nat} {lv : List (Nat × Value)} {st : List Value} {F : M α} {k4 : Fin 4} {x : Int64} {lv' : List (Nat × Value)} (hd : decode y.2.1 pc = .ok (.lstore_n k4, 1)) (hn : (k4 : Nat) + 1 < y.2.2.1) (hl' : ((k4 : Nat), Value.long x) :: lv.filter (fun q => !(q.1 == (k4 : Nat)) && (!(q.1 == (k4 : Nat) + 1) && !(q.1 + 1 == (k4 : Nat) && q.2.category == 2))) = lv') (k : Ok Γ y d rv (pc + 1) lv' st F) : Ok Γ y d rv pc lv (.long x :: st) F :=
  ok_of (fun hc hl kk => lv_lstore_n hc.1 hc.2.1 hd rfl hl hn hl' kk) k
theorem ok_lstore {α : Type} {Γ : Gam} {y : Mth} {d : Nat} {rv : Rv α} {pc : Nat} {lv : List (Nat × Value)} {st : List Value} {F : M α} {n : Nat} {x : Int64} {lv' : List (Nat × Value)} (hd : decode y.2.1 pc = .ok (.lstore n, 2)) (hn : n + 1 < y.2.2.1) (hl' : (n, Value.long x) :: lv.filter (fun q => !(q.1 == n) && (!(q.1 == n + 1) && !(q.1 + 1 == n && q.2.category == 2))) = lv') (k : Ok Γ y d rv (pc + 2) lv' st F) : Ok Γ y d rv pc lv (.long x :: st) F :=
  ok_of (fun hc hl kk => lv_lstore hc.1 hc.2.1 hd hl hn hl' kk) k
theorem ok_astore_n {α : Type} {Γ : Gam} {y : Mth} {d : Nat} {rv : Rv α} {pc : Nat} {lv : List (Nat × Value)} {st : List Value} {F : M α} {k4 : Fin 4} {r : Option Nat} {lv' : List (Nat × Value)} (hd : decode y.2.1 pc = .ok (.astore_n k4, 1)) (hn : (k4 : Nat) < y.2.2.1) (hl' : ((k4 : Nat), va_rf r) :: lv.filter (fun q => !(q.1 == (k4 : Nat)) && !(q.1 + 1 == (k4 : Nat) && q.2.category == 2)) = lv') (k : Ok Γ y d rv (pc + 1) lv' st F) : Ok Γ y d rv pc lv (va_rf r :: st) F := by
  refine ok_of (fun hc hl kk => ?_) k
  cases r with
  | none => exact lv_astore_nN hc.1 hc.2.1 hd rfl hl hn hl' kk
  | some a => exact lv_astore_n hc.1 hc.2.1 hd rfl hl hn hl' kk
theorem ok_astore {α : Type} {Γ : Gam} {y : Mth} {d : Nat} {rv : Rv α} {pc : Nat} {lv : List (Nat × Value)} {st : List Value} {F : M α} {n : Nat} {r : Option Nat} {lv' : List (Nat × Value)} (hd : decode y.2.1 pc = .ok (.astore n, 2)) (hn : n < y.2.2.1) (hl' : (n, va_rf r) :: lv.filter (fun q => !(q.1 == n) && !(q.1 + 1 == n && q.2.category == 2)) = lv') (k : Ok Γ y d rv (pc + 2) lv' st F) : Ok Γ y d rv pc lv (va_rf r :: st) F := by
  refine ok_of (fun hc hl kk => ?_) k
  cases r with
  | none => exact lv_astoreN hc.1 hc.2.1 hd hl hn hl' kk
  | some a => exact lv_astore hc.1 hc.2.1 hd hl hn hl' kk
theorem ok_iinc {α : Type} {Γ : Gam} {y : Mth} {d : Nat} {rv : Rv α} {pc : Nat} {lv : List (Nat × Value)} {st : List Value} {F : M α} {n : Nat} {z : Int} {x v : Int32} {lv' : List (Nat × Value)} (hd : decode y.2.1 pc = .ok (.iinc n z, 3)) (i : Nat) (hk : lv[i]? = some (n, .int x)) (hv : x + Int32.ofInt z = v) (hn : n < y.2.2.1) (hl' : (n, Value.int v) :: lv.filter (fun q => !(q.1 == n) && !(q.1 + 1 == n && q.2.category == 2)) = lv') (k : Ok Γ y d rv (pc + 3) lv' st F) : Ok Γ y d rv pc lv st F :=
  ok_of (fun hc hl kk => lv_iinc hc.1 hc.2.1 hd hl hk hv hn hl' kk) k
theorem ok_iadd {α : Type} {Γ : Gam} {y : Mth} {d : Nat} {rv : Rv α} {pc : Nat} {lv : List (Nat × Value)} {st : List Value} {F : M α} {x z : Int32} (hd : decode y.2.1 pc = .ok (.iadd, 1)) (k : Ok Γ y d rv (pc + 1) lv (.int (x + z) :: st) F) : Ok Γ y d rv pc lv (.int z :: .int x :: st) F :=
  ok_of (fun hc hl kk => lv_iadd hc.1 hc.2.1 hd (kk _ hl)) k
theorem ok_isub {α : Type} {Γ : Gam} {y : Mth} {d : Nat} {rv : Rv α} {pc : Nat} {lv : List (Nat × Value)} {st : List Value} {F : M α} {x z : Int32} (hd : decode y.2.1 pc = .ok (.isub, 1)) (k : Ok Γ y d rv (pc + 1) lv (.int (x - z) :: st) F) : Ok Γ y d rv pc lv (.int z :: .int x :: st) F :=
  ok_of (fun hc hl kk => lv_isub hc.1 hc.2.1 hd (kk _ hl)) k
theorem ok_imul {α : Type} {Γ : Gam} {y : Mth} {d : Nat} {rv : Rv α} {pc : Nat} {lv : List (Nat × Value)} {st : List Value} {F : M α} {x z : Int32} (hd : decode y.2.1 pc = .ok (.imul, 1)) (k : Ok Γ y d rv (pc + 1) lv (.int (x * z) :: st) F) : Ok Γ y d rv pc lv (.int z :: .int x :: st) F :=
  ok_of (fun hc hl kk => lv_imul hc.1 hc.2.1 hd (kk _ hl)) k
theorem ok_iand {α : Type} {Γ : Gam} {y : Mth} {d : Nat} {rv : Rv α} {pc : Nat} {lv : List (Nat × Value)} {st : List Value} {F : M α} {x z : Int32} (hd : decode y.2.1 pc = .ok (.iand, 1)) (k : Ok Γ y d rv (pc + 1) lv (.int (x &&& z) :: st) F) : Ok Γ y d rv pc lv (.int z :: .int x :: st) F :=
  ok_of (fun hc hl kk => lv_iand hc.1 hc.2.1 hd (kk _ hl)) k
theorem ok_ior {α : Type} {Γ : Gam} {y : Mth} {d : Nat} {rv : Rv α} {pc : Nat} {lv : List (Nat × Value)} {st : List Value} {F : M α} {x z : Int32} (hd : decode y.2.1 pc = .ok (.ior, 1)) (k : Ok Γ y d rv (pc + 1) lv (.int (x ||| z) :: st) F) : Ok Γ y d rv pc lv (.int z :: .int x :: st) F :=
  ok_of (fun hc hl kk => lv_ior hc.1 hc.2.1 hd (kk _ hl)) k
theorem ok_ixor {α : Type} {Γ : Gam} {y : Mth} {d : Nat} {rv : Rv α} {pc : Nat} {lv : List (Nat × Value)} {st : List Value} {F : M α} {x z : Int32} (hd : decode y.2.1 pc = .ok (.ixor, 1)) (k : Ok Γ y d rv (pc + 1) lv (.int (x ^^^ z) :: st) F) : Ok Γ y d rv pc lv (.int z :: .int x :: st) F :=
  ok_of (fun hc hl kk => lv_ixor hc.1 hc.2.1 hd (kk _ hl)) k
theorem ok_ishl {α : Type} {Γ : Gam} {y : Mth} {d : Nat} {rv : Rv α} {pc : Nat} {lv : List (Nat × Value)} {st : List Value} {F : M α} {x z : Int32} (hd : decode y.2.1 pc = .ok (.ishl, 1)) (k : Ok Γ y d rv (pc + 1) lv (.int (x <<< (z &&& 31)) :: st) F) : Ok Γ y d rv pc lv (.int z :: .int x :: st) F :=
  ok_of (fun hc hl kk => lv_ishl hc.1 hc.2.1 hd (kk _ hl)) k
theorem ok_ishr {α : Type} {Γ : Gam} {y : Mth} {d : Nat} {rv : Rv α} {pc : Nat} {lv : List (Nat × Value)} {st : List Value} {F : M α} {x z : Int32} (hd : decode y.2.1 pc = .ok (.ishr, 1)) (k : Ok Γ y d rv (pc + 1) lv (.int (x >>> (z &&& 31)) :: st) F) : Ok Γ y d rv pc lv (.int z :: .int x :: st) F :=
  ok_of (fun hc hl kk => lv_ishr hc.1 hc.2.1 hd (kk _ hl)) k
theorem ok_ladd {α : Type} {Γ : Gam} {y : Mth} {d : Nat} {rv : Rv α} {pc : Nat} {lv : List (Nat × Value)} {st : List Value} {F : M α} {x z : Int64} (hd : decode y.2.1 pc = .ok (.ladd, 1)) (k : Ok Γ y d rv (pc + 1) lv (.long (x + z) :: st) F) : Ok Γ y d rv pc lv (.long z :: .long x :: st) F :=
  ok_of (fun hc hl kk => lv_ladd hc.1 hc.2.1 hd (kk _ hl)) k
theorem ok_lsub {α : Type} {Γ : Gam} {y : Mth} {d : Nat} {rv : Rv α} {pc : Nat} {lv : List (Nat × Value)} {st : List Value} {F : M α} {x z : Int64} (hd : decode y.2.1 pc = .ok (.lsub, 1)) (k : Ok Γ y d rv (pc + 1) lv (.long (x - z) :: st) F) : Ok Γ y d rv pc lv (.long z :: .long x :: st) F :=
  ok_of (fun hc hl kk => lv_lsub hc.1 hc.2.1 hd (kk _ hl)) k
theorem ok_lmul {α : Type} {Γ : Gam} {y : Mth} {d : Nat} {rv : Rv α} {pc : Nat} {lv : List (Nat × Value)} {st : List Value} {F : M α} {x z : Int64} (hd : decode y.2.1 pc = .ok (.lmul, 1)) (k : Ok Γ y d rv (pc + 1) lv (.long (x * z) :: st) F) : Ok Γ y d rv pc lv (.long z :: .long x :: st) F :=
  ok_of (fun hc hl kk => lv_lmul hc.1 hc.2.1 hd (kk _ hl)) k
theorem ok_ineg {α : Type} {Γ : Gam} {y : Mth} {d : Nat} {rv : Rv α} {pc : Nat} {lv : List (Nat × Value)} {st : List Value} {F : M α} {x : Int32} (hd : decode y.2.1 pc = .ok (.ineg, 1)) (k : Ok Γ y d rv (pc + 1) lv (.int (-x) :: st) F) : Ok Γ y d rv pc lv (.int x :: st) F :=
  ok_of (fun hc hl kk => lv_ineg hc.1 hc.2.1 hd (kk _ hl)) k
theorem ok_i2l {α : Type} {Γ : Gam} {y : Mth} {d : Nat} {rv : Rv α} {pc : Nat} {lv : List (Nat × Value)} {st : List Value} {F : M α} {x : Int32} (hd : decode y.2.1 pc = .ok (.i2l, 1)) (k : Ok Γ y d rv (pc + 1) lv (.long x.toInt64 :: st) F) : Ok Γ y d rv pc lv (.int x :: st) F :=
  ok_of (fun hc hl kk => lv_i2l hc.1 hc.2.1 hd rfl (kk _ hl)) k
theorem ok_i2c {α : Type} {Γ : Gam} {y : Mth} {d : Nat} {rv : Rv α} {pc : Nat} {lv : List (Nat × Value)} {st : List Value} {F : M α} {x : Int32} (hd : decode y.2.1 pc = .ok (.i2c, 1)) (k : Ok Γ y d rv (pc + 1) lv (.int (x.toUInt32 % 65536).toInt32 :: st) F) : Ok Γ y d rv pc lv (.int x :: st) F :=
  ok_of (fun hc hl kk => lv_i2c hc.1 hc.2.1 hd rfl (kk _ hl)) k
theorem ok_dup {α : Type} {Γ : Gam} {y : Mth} {d : Nat} {rv : Rv α} {pc : Nat} {lv : List (Nat × Value)} {st : List Value} {F : M α} {v : Value} (hd : decode y.2.1 pc = .ok (.dup, 1)) (hv : v.category = 1) (k : Ok Γ y d rv (pc + 1) lv (v :: v :: st) F) : Ok Γ y d rv pc lv (v :: st) F :=
  ok_of (fun hc hl kk => lv_dup hc.1 hc.2.1 hd hv (kk _ hl)) k
theorem ok_pop {α : Type} {Γ : Gam} {y : Mth} {d : Nat} {rv : Rv α} {pc : Nat} {lv : List (Nat × Value)} {st : List Value} {F : M α} {v : Value} (hd : decode y.2.1 pc = .ok (.pop, 1)) (hv : v.category = 1) (k : Ok Γ y d rv (pc + 1) lv st F) : Ok Γ y d rv pc lv (v :: st) F :=
  ok_of (fun hc hl kk => lv_pop hc.1 hc.2.1 hd hv (kk _ hl)) k
theorem ok_dup_x1 {α : Type} {Γ : Gam} {y : Mth} {d : Nat} {rv : Rv α} {pc : Nat} {lv : List (Nat × Value)} {st : List Value} {F : M α} {v w : Value} (hd : decode y.2.1 pc = .ok (.dup_x1, 1)) (hv : v.category = 1) (hw : w.category = 1) (k : Ok Γ y d rv (pc + 1) lv (v :: w :: v :: st) F) : Ok Γ y d rv pc lv (v :: w :: st) F :=
  ok_of (fun hc hl kk => lv_dup_x1 hc.1 hc.2.1 hd hv hw (kk _ hl)) k
theorem ok_dup2_11 {α : Type} {Γ : Gam} {y : Mth} {d : Nat} {rv : Rv α} {pc : Nat} {lv : List (Nat × Value)} {st : List Value} {F : M α} {v w : Value} (hd : decode y.2.1 pc = .ok (.dup2, 1)) (hv : v.category = 1) (hw : w.category = 1) (k : Ok Γ y d rv (pc + 1) lv (v :: w :: v :: w :: st) F) : Ok Γ y d rv pc lv (v :: w :: st) F :=
  ok_of (fun hc hl kk => lv_dup2_11 hc.1 hc.2.1 hd hv hw (kk _ hl)) k
theorem ok_goto {α : Type} {Γ : Gam} {y : Mth} {d : Nat} {rv : Rv α} {pc : Nat} {lv : List (Nat × Value)} {st : List Value} {F : M α} {off : Int} {tgt : Nat} (hd : decode y.2.1 pc = .ok (.goto off, 3)) (ht : (pc : Int) + off = (tgt : Int)) (k : Ok Γ y d rv tgt lv st F) : Ok Γ y d rv pc lv st F :=
  ok_of (fun hc hl kk => lv_goto hc.1 hc.2.1 hd ht (kk _ hl)) k
theorem ok_ldc {α : Type} {Γ : Gam} {y : Mth} {d : Nat} {rv : Rv α} {pc : Nat} {lv : List (Nat × Value)} {st : List Value} {F : M α} {n : Nat} {v : Int32} (hd : decode y.2.1 pc = .ok (.ldc n, 2)) (hw : Cond.constant y.1.cls n v ∈ lw_g) (k : Ok Γ y d rv (pc + 2) lv (.int v :: st) F) : Ok Γ y d rv pc lv st F :=
  ok_of (fun hc hl kk => lv_ldc hc.1 hc.2.1 hc.2.2.2.2.1 (hc.2.2.2.2.2.1 _ hw) hd (kk _ hl)) k
theorem ok_ldcw {α : Type} {Γ : Gam} {y : Mth} {d : Nat} {rv : Rv α} {pc : Nat} {lv : List (Nat × Value)} {st : List Value} {F : M α} {n : Nat} {v : Int32} (hd : decode y.2.1 pc = .ok (.ldc_w n, 3)) (hw : Cond.constant y.1.cls n v ∈ lw_g) (k : Ok Γ y d rv (pc + 3) lv (.int v :: st) F) : Ok Γ y d rv pc lv st F :=
  ok_of (fun hc hl kk => lv_ldcw hc.1 hc.2.1 hc.2.2.2.2.1 (hc.2.2.2.2.2.1 _ hw) hd (kk _ hl)) k
theorem ok_ldc2 {α : Type} {Γ : Gam} {y : Mth} {d : Nat} {rv : Rv α} {pc : Nat} {lv : List (Nat × Value)} {st : List Value} {F : M α} {n : Nat} {v : Int64} (hd : decode y.2.1 pc = .ok (.ldc2_w n, 3)) (hw : Cond.constantLong y.1.cls n v ∈ lw_g) (k : Ok Γ y d rv (pc + 3) lv (.long v :: st) F) : Ok Γ y d rv pc lv st F :=
  ok_of (fun hc hl kk => lv_ldc2 hc.1 hc.2.1 hc.2.2.2.2.1 (hc.2.2.2.2.2.1 _ hw) hd (kk _ hl)) k
theorem ok_sub {α : Type} {Γ : Gam} {y : Mth} {d : Nat} {rv : Rv α} {pc : Nat} {lv : List (Nat × Value)} {st : List Value} {F : M α} {lv' : List (Nat × Value)} (ks : List Nat) (hl' : lv_pick lv ks = lv') (k : Ok Γ y d rv pc lv' st F) : Ok Γ y d rv pc lv st F :=
  ok_of (fun _ hl kk => kk _ (lv_sub hl ks hl')) k
-- BRANCHES
end
section
theorem ok_if_eq {α : Type} {Γ : Gam} {y : Mth} {d : Nat} {rv : Rv α} {pc : Nat} {lv : List (Nat × Value)} {st : List Value} {F G : M α} {x : Int32} {off : Int} {tgt : Nat} (hd : decode y.2.1 pc = .ok (.ifCond .eq off, 3)) (ht : (pc : Int) + off = (tgt : Int)) (kt : Ok Γ y d rv tgt lv st F) (kf : Ok Γ y d rv (pc + 3) lv st G) : Ok Γ y d rv pc lv (.int x :: st) (if x = 0 then F else G) := by
  intro μ r μ' h
  by_cases hq : x = 0
  · rw [if_pos hq] at h
    refine ⟨(kt μ r μ' h).1, ?_⟩
    intro p e s m args below meth c x0 s0 H locs ls hc h1 h2 hS hD hl
    exact lv_if_eq hc.1 hc.2.1 hd ht (fun _ => (kt μ r μ' h).2 p e s m args below meth c x0 s0 H locs ls hc h1 h2 hS hD hl) (fun hn => by first | exact absurd hq hn | exact absurd hn hq)
  · rw [if_neg hq] at h
    refine ⟨(kf μ r μ' h).1, ?_⟩
    intro p e s m args below meth c x0 s0 H locs ls hc h1 h2 hS hD hl
    exact lv_if_eq hc.1 hc.2.1 hd ht (fun hn => by first | exact absurd hn hq | exact absurd hq hn) (fun _ => (kf μ r μ' h).2 p e s m args below meth c x0 s0 H locs ls hc h1 h2 hS hD hl)
theorem ok_icmp_eq {α : Type} {Γ : Gam} {y : Mth} {d : Nat} {rv : Rv α} {pc : Nat} {lv : List (Nat × Value)} {st : List Value} {F G : M α} {x z : Int32} {off : Int} {tgt : Nat} (hd : decode y.2.1 pc = .ok (.if_icmp .eq off, 3)) (ht : (pc : Int) + off = (tgt : Int)) (kt : Ok Γ y d rv tgt lv st F) (kf : Ok Γ y d rv (pc + 3) lv st G) : Ok Γ y d rv pc lv (.int z :: .int x :: st) (if x = z then F else G) := by
  intro μ r μ' h
  by_cases hq : x = z
  · rw [if_pos hq] at h
    refine ⟨(kt μ r μ' h).1, ?_⟩
    intro p e s m args below meth c x0 s0 H locs ls hc h1 h2 hS hD hl
    exact lv_icmp_eq hc.1 hc.2.1 hd ht (fun _ => (kt μ r μ' h).2 p e s m args below meth c x0 s0 H locs ls hc h1 h2 hS hD hl) (fun hn => by first | exact absurd hq hn | exact absurd hn hq)
  · rw [if_neg hq] at h
    refine ⟨(kf μ r μ' h).1, ?_⟩
    intro p e s m args below meth c x0 s0 H locs ls hc h1 h2 hS hD hl
    exact lv_icmp_eq hc.1 hc.2.1 hd ht (fun hn => by first | exact absurd hn hq | exact absurd hq hn) (fun _ => (kf μ r μ' h).2 p e s m args below meth c x0 s0 H locs ls hc h1 h2 hS hD hl)
theorem ok_if_ne {α : Type} {Γ : Gam} {y : Mth} {d : Nat} {rv : Rv α} {pc : Nat} {lv : List (Nat × Value)} {st : List Value} {F G : M α} {x : Int32} {off : Int} {tgt : Nat} (hd : decode y.2.1 pc = .ok (.ifCond .ne off, 3)) (ht : (pc : Int) + off = (tgt : Int)) (kt : Ok Γ y d rv tgt lv st F) (kf : Ok Γ y d rv (pc + 3) lv st G) : Ok Γ y d rv pc lv (.int x :: st) (if ¬ x = 0 then F else G) := by
  intro μ r μ' h
  by_cases hq : ¬ x = 0
  · rw [if_pos hq] at h
    refine ⟨(kt μ r μ' h).1, ?_⟩
    intro p e s m args below meth c x0 s0 H locs ls hc h1 h2 hS hD hl
    exact lv_if_ne hc.1 hc.2.1 hd ht (fun _ => (kt μ r μ' h).2 p e s m args below meth c x0 s0 H locs ls hc h1 h2 hS hD hl) (fun hn => by first | exact absurd hq hn | exact absurd hn hq)
  · rw [if_neg hq] at h
    refine ⟨(kf μ r μ' h).1, ?_⟩
    intro p e s m args below meth c x0 s0 H locs ls hc h1 h2 hS hD hl
    exact lv_if_ne hc.1 hc.2.1 hd ht (fun hn => by first | exact absurd hn hq | exact absurd hq hn) (fun _ => (kf μ r μ' h).2 p e s m args below meth c x0 s0 H locs ls hc h1 h2 hS hD hl)
theorem ok_icmp_ne {α : Type} {Γ : Gam} {y : Mth} {d : Nat} {rv : Rv α} {pc : Nat} {lv : List (Nat × Value)} {st : List Value} {F G : M α} {x z : Int32} {off : Int} {tgt : Nat} (hd : decode y.2.1 pc = .ok (.if_icmp .ne off, 3)) (ht : (pc : Int) + off = (tgt : Int)) (kt : Ok Γ y d rv tgt lv st F) (kf : Ok Γ y d rv (pc + 3) lv st G) : Ok Γ y d rv pc lv (.int z :: .int x :: st) (if ¬ x = z then F else G) := by
  intro μ r μ' h
  by_cases hq : ¬ x = z
  · rw [if_pos hq] at h
    refine ⟨(kt μ r μ' h).1, ?_⟩
    intro p e s m args below meth c x0 s0 H locs ls hc h1 h2 hS hD hl
    exact lv_icmp_ne hc.1 hc.2.1 hd ht (fun _ => (kt μ r μ' h).2 p e s m args below meth c x0 s0 H locs ls hc h1 h2 hS hD hl) (fun hn => by first | exact absurd hq hn | exact absurd hn hq)
  · rw [if_neg hq] at h
    refine ⟨(kf μ r μ' h).1, ?_⟩
    intro p e s m args below meth c x0 s0 H locs ls hc h1 h2 hS hD hl
    exact lv_icmp_ne hc.1 hc.2.1 hd ht (fun hn => by first | exact absurd hn hq | exact absurd hq hn) (fun _ => (kf μ r μ' h).2 p e s m args below meth c x0 s0 H locs ls hc h1 h2 hS hD hl)
theorem ok_if_lt {α : Type} {Γ : Gam} {y : Mth} {d : Nat} {rv : Rv α} {pc : Nat} {lv : List (Nat × Value)} {st : List Value} {F G : M α} {x : Int32} {off : Int} {tgt : Nat} (hd : decode y.2.1 pc = .ok (.ifCond .lt off, 3)) (ht : (pc : Int) + off = (tgt : Int)) (kt : Ok Γ y d rv tgt lv st F) (kf : Ok Γ y d rv (pc + 3) lv st G) : Ok Γ y d rv pc lv (.int x :: st) (if x < 0 then F else G) := by
  intro μ r μ' h
  by_cases hq : x < 0
  · rw [if_pos hq] at h
    refine ⟨(kt μ r μ' h).1, ?_⟩
    intro p e s m args below meth c x0 s0 H locs ls hc h1 h2 hS hD hl
    exact lv_if_lt hc.1 hc.2.1 hd ht (fun _ => (kt μ r μ' h).2 p e s m args below meth c x0 s0 H locs ls hc h1 h2 hS hD hl) (fun hn => by first | exact absurd hq hn | exact absurd hn hq)
  · rw [if_neg hq] at h
    refine ⟨(kf μ r μ' h).1, ?_⟩
    intro p e s m args below meth c x0 s0 H locs ls hc h1 h2 hS hD hl
    exact lv_if_lt hc.1 hc.2.1 hd ht (fun hn => by first | exact absurd hn hq | exact absurd hq hn) (fun _ => (kf μ r μ' h).2 p e s m args below meth c x0 s0 H locs ls hc h1 h2 hS hD hl)
theorem ok_icmp_lt {α : Type} {Γ : Gam} {y : Mth} {d : Nat} {rv : Rv α} {pc : Nat} {lv : List (Nat × Value)} {st : List Value} {F G : M α} {x z : Int32} {off : Int} {tgt : Nat} (hd : decode y.2.1 pc = .ok (.if_icmp .lt off, 3)) (ht : (pc : Int) + off = (tgt : Int)) (kt : Ok Γ y d rv tgt lv st F) (kf : Ok Γ y d rv (pc + 3) lv st G) : Ok Γ y d rv pc lv (.int z :: .int x :: st) (if x < z then F else G) := by
  intro μ r μ' h
  by_cases hq : x < z
  · rw [if_pos hq] at h
    refine ⟨(kt μ r μ' h).1, ?_⟩
    intro p e s m args below meth c x0 s0 H locs ls hc h1 h2 hS hD hl
    exact lv_icmp_lt hc.1 hc.2.1 hd ht (fun _ => (kt μ r μ' h).2 p e s m args below meth c x0 s0 H locs ls hc h1 h2 hS hD hl) (fun hn => by first | exact absurd hq hn | exact absurd hn hq)
  · rw [if_neg hq] at h
    refine ⟨(kf μ r μ' h).1, ?_⟩
    intro p e s m args below meth c x0 s0 H locs ls hc h1 h2 hS hD hl
    exact lv_icmp_lt hc.1 hc.2.1 hd ht (fun hn => by first | exact absurd hn hq | exact absurd hq hn) (fun _ => (kf μ r μ' h).2 p e s m args below meth c x0 s0 H locs ls hc h1 h2 hS hD hl)
theorem ok_if_ge {α : Type} {Γ : Gam} {y : Mth} {d : Nat} {rv : Rv α} {pc : Nat} {lv : List (Nat × Value)} {st : List Value} {F G : M α} {x : Int32} {off : Int} {tgt : Nat} (hd : decode y.2.1 pc = .ok (.ifCond .ge off, 3)) (ht : (pc : Int) + off = (tgt : Int)) (kt : Ok Γ y d rv tgt lv st F) (kf : Ok Γ y d rv (pc + 3) lv st G) : Ok Γ y d rv pc lv (.int x :: st) (if 0 ≤ x then F else G) := by
  intro μ r μ' h
  by_cases hq : 0 ≤ x
  · rw [if_pos hq] at h
    refine ⟨(kt μ r μ' h).1, ?_⟩
    intro p e s m args below meth c x0 s0 H locs ls hc h1 h2 hS hD hl
    exact lv_if_ge hc.1 hc.2.1 hd ht (fun _ => (kt μ r μ' h).2 p e s m args below meth c x0 s0 H locs ls hc h1 h2 hS hD hl) (fun hn => by first | exact absurd hq hn | exact absurd hn hq)
  · rw [if_neg hq] at h
    refine ⟨(kf μ r μ' h).1, ?_⟩
    intro p e s m args below meth c x0 s0 H locs ls hc h1 h2 hS hD hl
    exact lv_if_ge hc.1 hc.2.1 hd ht (fun hn => by first | exact absurd hn hq | exact absurd hq hn) (fun _ => (kf μ r μ' h).2 p e s m args below meth c x0 s0 H locs ls hc h1 h2 hS hD hl)
theorem ok_icmp_ge {α : Type} {Γ : Gam} {y : Mth} {d : Nat} {rv : Rv α} {pc : Nat} {lv : List (Nat × Value)} {st : List Value} {F G : M α} {x z : Int32} {off : Int} {tgt : Nat} (hd : decode y.2.1 pc = .ok (.if_icmp .ge off, 3)) (ht : (pc : Int) + off = (tgt : Int)) (kt : Ok Γ y d rv tgt lv st F) (kf : Ok Γ y d rv (pc + 3) lv st G) : Ok Γ y d rv pc lv (.int z :: .int x :: st) (if z ≤ x then F else G) := by
  intro μ r μ' h
  by_cases hq : z ≤ x
  · rw [if_pos hq] at h
    refine ⟨(kt μ r μ' h).1, ?_⟩
    intro p e s m args below meth c x0 s0 H locs ls hc h1 h2 hS hD hl
    exact lv_icmp_ge hc.1 hc.2.1 hd ht (fun _ => (kt μ r μ' h).2 p e s m args below meth c x0 s0 H locs ls hc h1 h2 hS hD hl) (fun hn => by first | exact absurd hq hn | exact absurd hn hq)
  · rw [if_neg hq] at h
    refine ⟨(kf μ r μ' h).1, ?_⟩
    intro p e s m args below meth c x0 s0 H locs ls hc h1 h2 hS hD hl
    exact lv_icmp_ge hc.1 hc.2.1 hd ht (fun hn => by first | exact absurd hn hq | exact absurd hq hn) (fun _ => (kf μ r μ' h).2 p e s m args below meth c x0 s0 H locs ls hc h1 h2 hS hD hl)
theorem ok_if_gt {α : Type} {Γ : Gam} {y : Mth} {d : Nat} {rv : Rv α} {pc : Nat} {lv : List (Nat × Value)} {st : List Value} {F G : M α} {x : Int32} {off : Int} {tgt : Nat} (hd : decode y.2.1 pc = .ok (.ifCond .gt off, 3)) (ht : (pc : Int) + off = (tgt : Int)) (kt : Ok Γ y d rv tgt lv st F) (kf : Ok Γ y d rv (pc + 3) lv st G) : Ok Γ y d rv pc lv (.int x :: st) (if 0 < x then F else G) := by
  intro μ r μ' h
  by_cases hq : 0 < x
  · rw [if_pos hq] at h
    refine ⟨(kt μ r μ' h).1, ?_⟩
    intro p e s m args below meth c x0 s0 H locs ls hc h1 h2 hS hD hl
    exact lv_if_gt hc.1 hc.2.1 hd ht (fun _ => (kt μ r μ' h).2 p e s m args below meth c x0 s0 H locs ls hc h1 h2 hS hD hl) (fun hn => by first | exact absurd hq hn | exact absurd hn hq)
  · rw [if_neg hq] at h
    refine ⟨(kf μ r μ' h).1, ?_⟩
    intro p e s m args below meth c x0 s0 H locs ls hc h1 h2 hS hD hl
    exact lv_if_gt hc.1 hc.2.1 hd ht (fun hn => by first | exact absurd hn hq | exact absurd hq hn) (fun _ => (kf μ r μ' h).2 p e s m args below meth c x0 s0 H locs ls hc h1 h2 hS hD hl)
theorem ok_icmp_gt {α : Type} {Γ : Gam} {y : Mth} {d : Nat} {rv : Rv α} {pc : Nat} {lv : List (Nat × Value)} {st : List Value} {F G : M α} {x z : Int32} {off : Int} {tgt : Nat} (hd : decode y.2.1 pc = .ok (.if_icmp .gt off, 3)) (ht : (pc : Int) + off = (tgt : Int)) (kt : Ok Γ y d rv tgt lv st F) (kf : Ok Γ y d rv (pc + 3) lv st G) : Ok Γ y d rv pc lv (.int z :: .int x :: st) (if z < x then F else G) := by
  intro μ r μ' h
  by_cases hq : z < x
  · rw [if_pos hq] at h
    refine ⟨(kt μ r μ' h).1, ?_⟩
    intro p e s m args below meth c x0 s0 H locs ls hc h1 h2 hS hD hl
    exact lv_icmp_gt hc.1 hc.2.1 hd ht (fun _ => (kt μ r μ' h).2 p e s m args below meth c x0 s0 H locs ls hc h1 h2 hS hD hl) (fun hn => by first | exact absurd hq hn | exact absurd hn hq)
  · rw [if_neg hq] at h
    refine ⟨(kf μ r μ' h).1, ?_⟩
    intro p e s m args below meth c x0 s0 H locs ls hc h1 h2 hS hD hl
    exact lv_icmp_gt hc.1 hc.2.1 hd ht (fun hn => by first | exact absurd hn hq | exact absurd hq hn) (fun _ => (kf μ r μ' h).2 p e s m args below meth c x0 s0 H locs ls hc h1 h2 hS hD hl)
theorem ok_if_le {α : Type} {Γ : Gam} {y : Mth} {d : Nat} {rv : Rv α} {pc : Nat} {lv : List (Nat × Value)} {st : List Value} {F G : M α} {x : Int32} {off : Int} {tgt : Nat} (hd : decode y.2.1 pc = .ok (.ifCond .le off, 3)) (ht : (pc : Int) + off = (tgt : Int)) (kt : Ok Γ y d rv tgt lv st F) (kf : Ok Γ y d rv (pc + 3) lv st G) : Ok Γ y d rv pc lv (.int x :: st) (if x ≤ 0 then F else G) := by
  intro μ r μ' h
  by_cases hq : x ≤ 0
  · rw [if_pos hq] at h
    refine ⟨(kt μ r μ' h).1, ?_⟩
    intro p e s m args below meth c x0 s0 H locs ls hc h1 h2 hS hD hl
    exact lv_if_le hc.1 hc.2.1 hd ht (fun _ => (kt μ r μ' h).2 p e s m args below meth c x0 s0 H locs ls hc h1 h2 hS hD hl) (fun hn => by first | exact absurd hq hn | exact absurd hn hq)
  · rw [if_neg hq] at h
    refine ⟨(kf μ r μ' h).1, ?_⟩
    intro p e s m args below meth c x0 s0 H locs ls hc h1 h2 hS hD hl
    exact lv_if_le hc.1 hc.2.1 hd ht (fun hn => by first | exact absurd hn hq | exact absurd hq hn) (fun _ => (kf μ r μ' h).2 p e s m args below meth c x0 s0 H locs ls hc h1 h2 hS hD hl)
theorem ok_icmp_le {α : Type} {Γ : Gam} {y : Mth} {d : Nat} {rv : Rv α} {pc : Nat} {lv : List (Nat × Value)} {st : List Value} {F G : M α} {x z : Int32} {off : Int} {tgt : Nat} (hd : decode y.2.1 pc = .ok (.if_icmp .le off, 3)) (ht : (pc : Int) + off = (tgt : Int)) (kt : Ok Γ y d rv tgt lv st F) (kf : Ok Γ y d rv (pc + 3) lv st G) : Ok Γ y d rv pc lv (.int z :: .int x :: st) (if x ≤ z then F else G) := by
  intro μ r μ' h
  by_cases hq : x ≤ z
  · rw [if_pos hq] at h
    refine ⟨(kt μ r μ' h).1, ?_⟩
    intro p e s m args below meth c x0 s0 H locs ls hc h1 h2 hS hD hl
    exact lv_icmp_le hc.1 hc.2.1 hd ht (fun _ => (kt μ r μ' h).2 p e s m args below meth c x0 s0 H locs ls hc h1 h2 hS hD hl) (fun hn => by first | exact absurd hq hn | exact absurd hn hq)
  · rw [if_neg hq] at h
    refine ⟨(kf μ r μ' h).1, ?_⟩
    intro p e s m args below meth c x0 s0 H locs ls hc h1 h2 hS hD hl
    exact lv_icmp_le hc.1 hc.2.1 hd ht (fun hn => by first | exact absurd hn hq | exact absurd hq hn) (fun _ => (kf μ r μ' h).2 p e s m args below meth c x0 s0 H locs ls hc h1 h2 hS hD hl)
theorem ok_ifnull {α : Type} {Γ : Gam} {y : Mth} {d : Nat} {rv : Rv α} {pc : Nat} {lv : List (Nat × Value)} {st : List Value} {F G : M α} {r : Option Nat} {off : Int} {tgt : Nat} (hd : decode y.2.1 pc = .ok (.ifnull off, 3)) (ht : (pc : Int) + off = (tgt : Int)) (kt : Ok Γ y d rv tgt lv st F) (kf : Ok Γ y d rv (pc + 3) lv st G) : Ok Γ y d rv pc lv (va_rf r :: st) (if r = none then F else G) := by
  intro μ w μ' h
  cases r with
  | none =>
    rw [if_pos rfl] at h
    refine ⟨(kt μ w μ' h).1, ?_⟩
    intro p e s m args below meth c x0 s0 H locs ls hc h1 h2 hS hD hl
    exact lv_ifnullN hc.1 hc.2.1 hd ht ((kt μ w μ' h).2 p e s m args below meth c x0 s0 H locs ls hc h1 h2 hS hD hl)
  | some a =>
    rw [if_neg (fun q => nomatch q)] at h
    refine ⟨(kf μ w μ' h).1, ?_⟩
    intro p e s m args below meth c x0 s0 H locs ls hc h1 h2 hS hD hl
    exact lv_ifnull hc.1 hc.2.1 hd ((kf μ w μ' h).2 p e s m args below meth c x0 s0 H locs ls hc h1 h2 hS hD hl)
theorem ok_ifnonnull {α : Type} {Γ : Gam} {y : Mth} {d : Nat} {rv : Rv α} {pc : Nat} {lv : List (Nat × Value)} {st : List Value} {F G : M α} {r : Option Nat} {off : Int} {tgt : Nat} (hd : decode y.2.1 pc = .ok (.ifnonnull off, 3)) (ht : (pc : Int) + off = (tgt : Int)) (kt : Ok Γ y d rv tgt lv st F) (kf : Ok Γ y d rv (pc + 3) lv st G) : Ok Γ y d rv pc lv (va_rf r :: st) (if ¬ r = none then F else G) := by
  intro μ w μ' h
  cases r with
  | none =>
    rw [if_neg (fun q => q rfl)] at h
    refine ⟨(kf μ w μ' h).1, ?_⟩
    intro p e s m args below meth c x0 s0 H locs ls hc h1 h2 hS hD hl
    exact lv_ifnonnullN hc.1 hc.2.1 hd ((kf μ w μ' h).2 p e s m args below meth c x0 s0 H locs ls hc h1 h2 hS hD hl)
  | some a =>
    rw [if_pos (fun q => nomatch q)] at h
    refine ⟨(kt μ w μ' h).1, ?_⟩
    intro p e s m args below meth c x0 s0 H locs ls hc h1 h2 hS hD hl
    exact lv_ifnonnull hc.1 hc.2.1 hd ht ((kt μ w μ' h).2 p e s m args below meth c x0 s0 H locs ls hc h1 h2 hS hD hl)
theorem ok_acmp_eq {α : Type} {Γ : Gam} {y : Mth} {d : Nat} {rv : Rv α} {pc : Nat} {lv : List (Nat × Value)} {st : List Value} {F G : M α} {q r : Option Nat} {off : Int} {tgt : Nat} (hd : decode y.2.1 pc = .ok (.if_acmp .eq off, 3)) (ht : (pc : Int) + off = (tgt : Int)) (kt : Ok Γ y d rv tgt lv st F) (kf : Ok Γ y d rv (pc + 3) lv st G) : Ok Γ y d rv pc lv (va_rf r :: va_rf q :: st) (if q = r then F else G) := by
  intro μ w μ' h
  by_cases hq : q = r
  · rw [if_pos hq] at h
    refine ⟨(kt μ w μ' h).1, ?_⟩
    intro p e s m args below meth c x0 s0 H locs ls hc h1 h2 hS hD hl
    exact lv_acmp_eq hc.1 hc.2.1 hd ht (fun _ => (kt μ w μ' h).2 p e s m args below meth c x0 s0 H locs ls hc h1 h2 hS hD hl) (fun hn => by first | exact absurd hq hn | exact absurd hn hq)
  · rw [if_neg hq] at h
    refine ⟨(kf μ w μ' h).1, ?_⟩
    intro p e s m args below meth c x0 s0 H locs ls hc h1 h2 hS hD hl
    exact lv_acmp_eq hc.1 hc.2.1 hd ht (fun hn => by first | exact absurd hn hq | exact absurd hq hn) (fun _ => (kf μ w μ' h).2 p e s m args below meth c x0 s0 H locs ls hc h1 h2 hS hD hl)
theorem ok_acmp_ne {α : Type} {Γ : Gam} {y : Mth} {d : Nat} {rv : Rv α} {pc : Nat} {lv : List (Nat × Value)} {st : List Value} {F G : M α} {q r : Option Nat} {off : Int} {tgt : Nat} (hd : decode y.2.1 pc = .ok (.if_acmp .ne off, 3)) (ht : (pc : Int) + off = (tgt : Int)) (kt : Ok Γ y d rv tgt lv st F) (kf : Ok Γ y d rv (pc + 3) lv st G) : Ok Γ y d rv pc lv (va_rf r :: va_rf q :: st) (if ¬ q = r then F else G) := by
  intro μ w μ' h
  by_cases hq : ¬ q = r
  · rw [if_pos hq] at h
    refine ⟨(kt μ w μ' h).1, ?_⟩
    intro p e s m args below meth c x0 s0 H locs ls hc h1 h2 hS hD hl
    exact lv_acmp_ne hc.1 hc.2.1 hd ht (fun _ => (kt μ w μ' h).2 p e s m args below meth c x0 s0 H locs ls hc h1 h2 hS hD hl) (fun hn => by first | exact absurd hq hn | exact absurd hn hq)
  · rw [if_neg hq] at h
    refine ⟨(kf μ w μ' h).1, ?_⟩
    intro p e s m args below meth c x0 s0 H locs ls hc h1 h2 hS hD hl
    exact lv_acmp_ne hc.1 hc.2.1 hd ht (fun hn => by first | exact absurd hn hq | exact absurd hq hn) (fun _ => (kf μ w μ' h).2 p e s m args below meth c x0 s0 H locs ls hc h1 h2 hS hD hl)
theorem ok_lcmp {α : Type} {Γ : Gam} {y : Mth} {d : Nat} {rv : Rv α} {pc : Nat} {lv : List (Nat × Value)} {st : List Value} {F : M α} {x z : Int64} (hd : decode y.2.1 pc = .ok (.lcmp, 1)) (k : Ok Γ y d rv (pc + 1) lv (.int (lg_cmp x z) :: st) F) : Ok Γ y d rv pc lv (.long z :: .long x :: st) F :=
  ok_of (fun hc hl kk => W.lcmp hc.1 hc.2.1 hd (kk _ hl)) k
/-- a failing program: nothing is asked -/
theorem ok_fl {α : Type} {Γ : Gam} {y : Mth} {d : Nat} {rv : Rv α} {pc : Nat} {lv : List (Nat × Value)} {st : List Value} : Ok Γ y d rv pc lv st fl := fun _ _ _ h => nomatch h
/-- an instruction that may fail, and leaves the heap alone -/
theorem ok_ck {α : Type} {Γ : Gam} {y : Mth} {d : Nat} {rv : Rv α} {pc : Nat} {lv : List (Nat × Value)} {st : List Value} {F : M α} {b : Bool} (k : b = true → Ok Γ y d rv pc lv st F) : Ok Γ y d rv pc lv st (bn (ck b) fun _ => F) := by
  intro μ x μ' h
  obtain ⟨u, μ1, h1, h2⟩ := bn_some h
  unfold ck at h1
  by_cases hb : b = true
  · rw [if_pos hb] at h1
    cases h1
    exact k hb μ x μ' h2
  · rw [if_neg hb] at h1
    cases h1
theorem ok_idiv {α : Type} {Γ : Gam} {y : Mth} {d : Nat} {rv : Rv α} {pc : Nat} {lv : List (Nat × Value)} {st : List Value} {F : Int32 → M α} {x z : Int32} (hd : decode y.2.1 pc = .ok (.idiv, 1)) (k : Ok Γ y d rv (pc + 1) lv (.int (x / z) :: st) (F (x / z))) : Ok Γ y d rv pc lv (.int z :: .int x :: st) (bn (dvI x z) F) := by
  intro μ w μ' h
  obtain ⟨u, μ1, h1, h2⟩ := bn_some h
  unfold dvI at h1
  by_cases hz : z = 0
  · rw [if_pos hz] at h1; cases h1
  · rw [if_neg hz] at h1
    cases h1
    exact ok_of (fun hc hl kk => lv_idiv hc.1 hc.2.1 hd hz (kk _ hl)) k μ w μ' h2
theorem ok_irem {α : Type} {Γ : Gam} {y : Mth} {d : Nat} {rv : Rv α} {pc : Nat} {lv : List (Nat × Value)} {st : List Value} {F : Int32 → M α} {x z : Int32} (hd : decode y.2.1 pc = .ok (.irem, 1)) (k : Ok Γ y d rv (pc + 1) lv (.int (x - x / z * z) :: st) (F (x - x / z * z))) : Ok Γ y d rv pc lv (.int z :: .int x :: st) (bn (rmI x z) F) := by
  intro μ w μ' h
  obtain ⟨u, μ1, h1, h2⟩ := bn_some h
  unfold rmI at h1
  by_cases hz : z = 0
  · rw [if_pos hz] at h1; cases h1
  · rw [if_neg hz] at h1
    cases h1
    exact ok_of (fun hc hl kk => lv_irem hc.1 hc.2.1 hd hz (kk _ hl)) k μ w μ' h2
def swF {α : Type} (x : Int32) : List (Int32 × Nat × M α) → M α → M α
  | [], G => G
  | q :: r, G => if x = q.1 then q.2.2 else swF x r G
theorem swF_some {α : Type} {x : Int32} {L : List (Int32 × Nat × M α)} {G : M α} : (∃ q ∈ L, x = q.1 ∧ swF x L G = q.2.2) ∨ ((∀ q ∈ L, ¬ x = q.1) ∧ swF x L G = G) := by
  induction L with
  | nil => exact Or.inr ⟨fun q h => absurd h List.not_mem_nil, rfl⟩
  | cons a r ih =>
    by_cases hx : x = a.1
    · exact Or.inl ⟨a, List.mem_cons_self, hx, by unfold swF; rw [if_pos hx]⟩
    · have e : swF x (a :: r) G = swF x r G := by rw [swF, if_neg hx]
      rw [e]
      rcases ih with ⟨q, h1, h2, h3⟩ | ⟨h1, h2⟩
      · exact Or.inl ⟨q, List.mem_cons_of_mem _ h1, h2, h3⟩
      · refine Or.inr ⟨fun q h => ?_, h2⟩
        rcases List.mem_cons.mp h with rfl | h
        · exact hx
        · exact h1 q h
/-- the cases of a tableswitch, all of them in order -/
def tsOk (pc : Nat) (dflt lo hi : Int) (offs : List Int) (L : List (Int32 × Nat)) (dt : Nat) : Bool :=
  decide ((pc : Int) + dflt = (dt : Int)) && decide ((L.map fun q => q.1.toInt) = (List.range L.length).map fun i : Nat => lo + (i : Int)) && decide (hi = lo + (L.length : Int) - 1) && decide ((L.map fun q => (q.2 : Int)) = offs.map fun o => (pc : Int) + o)
theorem ok_tsw {α : Type} {Γ : Gam} {y : Mth} {d : Nat} {rv : Rv α} {pc : Nat} {lv : List (Nat × Value)} {st : List Value} {G : M α} {L : List (Int32 × Nat × M α)} {dt : Nat} {x : Int32} {dflt lo hi : Int} {offs : Array Int} {ln : Nat} (hd : decode y.2.1 pc = .ok (.tableswitch dflt lo hi offs, ln)) (ht : tsOk pc dflt lo hi offs.toList (L.map fun q => (q.1, q.2.1)) dt = true)
    (kt : ∀ q ∈ L, Ok Γ y d rv q.2.1 lv st q.2.2) (kf : Ok Γ y d rv dt lv st G) : Ok Γ y d rv pc lv (.int x :: st) (swF x L G) := by
  intro μ w μ' h
  simp only [tsOk, Bool.and_eq_true, decide_eq_true_eq] at ht
  obtain ⟨⟨⟨t1, t2⟩, t3⟩, t4⟩ := ht
  simp only [List.map_map, List.length_map] at t2 t3 t4
  rcases swF_some (x := x) (L := L) (G := G) with ⟨q, hq, hx, e⟩ | ⟨hq, e⟩
  · rw [e] at h
    refine ⟨(kt q hq μ w μ' h).1, ?_⟩
    intro p e s m args below meth c x0 s0 H locs ls hc h1 h2 hS hD hl
    obtain ⟨i, hi⟩ := List.getElem?_of_mem hq
    have hil : i < L.length := (List.getElem?_eq_some_iff.mp hi).1
    have e1 : q.1.toInt = lo + (i : Int) := by
      have z := congrArg (fun l => l[i]?) t2
      simp only [List.getElem?_map, hi, List.getElem?_range hil] at z
      simpa using z
    have hxi : x.toInt = lo + (i : Int) := by rw [hx]; exact e1
    have e2 : ∃ o, offs.toList[i]? = some o ∧ (q.2.1 : Int) = (pc : Int) + o := by
      have z := congrArg (fun l => l[i]?) t4
      simp only [List.getElem?_map, hi] at z
      cases ho : offs.toList[i]? with
      | none => rw [ho] at z; simp at z
      | some o => rw [ho] at z; exact ⟨o, rfl, by simpa using z⟩
    obtain ⟨o, ho, hto⟩ := e2
    refine lv_tableIn (off := o) (tgt := q.2.1) hc.1 hc.2.1 hd (by omega) (by omega) ?_ hto.symm ((kt q hq μ w μ' h).2 p e s m args below meth c x0 s0 H locs ls hc h1 h2 hS hD hl)
    rw [show (x.toInt - lo).toNat = i by omega]
    simpa using ho
  · rw [e] at h
    refine ⟨(kf μ w μ' h).1, ?_⟩
    intro p e s m args below meth c x0 s0 H locs ls hc h1 h2 hS hD hl
    refine lv_tableOut (tgt := dt) hc.1 hc.2.1 hd ?_ t1 ((kf μ w μ' h).2 p e s m args below meth c x0 s0 H locs ls hc h1 h2 hS hD hl)
    by_cases hlo : x.toInt < lo
    · exact Or.inl hlo
    · refine Or.inr ?_
      by_cases hhi : hi < x.toInt
      · exact hhi
      · exfalso
        have hil : (x.toInt - lo).toNat < L.length := by omega
        obtain ⟨q, hqi⟩ : ∃ q, L[(x.toInt - lo).toNat]? = some q := ⟨_, List.getElem?_eq_getElem hil⟩
        have z := congrArg (fun l => l[(x.toInt - lo).toNat]?) t2
        simp only [List.getElem?_map, hqi, List.getElem?_range hil] at z
        have e1 : q.1.toInt = lo + ((x.toInt - lo).toNat : Int) := by simpa using z
        exact hq q (List.mem_of_getElem? hqi) (Int32.toInt_inj.mp (by omega))
/-- the cases of a lookupswitch -/
def lsOk (pc : Nat) (dflt : Int) (ps : List (Int × Int)) (L : List (Int32 × Nat)) (dt : Nat) : Bool :=
  decide ((pc : Int) + dflt = (dt : Int)) && decide ((L.map fun q => (q.1.toInt, (q.2 : Int))) = ps.map fun o => (o.1, (pc : Int) + o.2)) && (ps.zip (ps.drop 1)).all (fun (a, next) => a.1 < next.1)
theorem ls_off {L : List (Int32 × Nat)} {ps : List (Int × Int)} {dflt : Int} {pc dt : Nat} {x : Int32} (h : (L.map fun q => (q.1.toInt, (q.2 : Int))) = ps.map fun o => (o.1, (pc : Int) + o.2)) :
    (∃ (q : Int32 × Nat) (o : Int), q ∈ L ∧ x = q.1 ∧ Op.lookupswitch.offset ps dflt x.toInt = o ∧ (pc : Int) + o = (q.2 : Int)) ∨ ((∀ q ∈ L, ¬ x = q.1) ∧ Op.lookupswitch.offset ps dflt x.toInt = dflt) := by
  induction ps generalizing L with
  | nil =>
    cases L with
    | nil => exact Or.inr ⟨fun q h => absurd h List.not_mem_nil, rfl⟩
    | cons a r => cases h
  | cons o r ih =>
    cases L with
    | nil => cases h
    | cons a L =>
      simp only [List.map_cons, List.cons.injEq, Prod.mk.injEq] at h
      obtain ⟨⟨h1, h2⟩, h3⟩ := h
      by_cases hx : x = a.1
      · refine Or.inl ⟨a, o.2, List.mem_cons_self, hx, ?_, h2.symm⟩
        subst hx
        simp [Op.lookupswitch.offset, h1]
      · have e : Op.lookupswitch.offset (o :: r) dflt x.toInt = Op.lookupswitch.offset r dflt x.toInt := lv_osw (a := o.1) (o := o.2) hx h1
        rw [e]
        rcases ih h3 with ⟨q, z, g1, g2, g3, g4⟩ | ⟨g1, g2⟩
        · exact Or.inl ⟨q, z, List.mem_cons_of_mem _ g1, g2, g3, g4⟩
        · refine Or.inr ⟨fun q h => ?_, g2⟩
          rcases List.mem_cons.mp h with rfl | h
          · exact hx
          · exact g1 q h
theorem ls_pair {ps : List (Int × Int)} (h : (ps.zip (ps.drop 1)).all (fun (a, next) => a.1 < next.1) = true) : ps.Pairwise (fun a b => a.1 < b.1) := by
  induction ps with
  | nil => exact List.Pairwise.nil
  | cons a r ih =>
    cases r with
    | nil => exact List.pairwise_singleton _ _
    | cons b r =>
      simp only [List.drop_succ_cons, List.drop_zero, List.zip_cons_cons, List.all_cons, Bool.and_eq_true, decide_eq_true_eq] at h ih
      have hp := ih h.2
      refine List.Pairwise.cons (fun z hz => ?_) hp
      rcases List.mem_cons.mp hz with rfl | hz
      · exact h.1
      · exact Int.lt_trans h.1 (List.rel_of_pairwise_cons hp hz)
theorem ls_same {α : Type} {L : List (Int32 × Nat × α)} (hp : (L.map fun q => (q.1.toInt, (q.2.1 : Int))).Pairwise (fun a b => a.1 < b.1)) {a b : Int32 × Nat × α} (ha : a ∈ L) (hb : b ∈ L) (hab : a.1 = b.1) : a.2.1 = b.2.1 := by
  induction L with
  | nil => exact absurd ha List.not_mem_nil
  | cons c r ih =>
    simp only [List.map_cons] at hp
    obtain ⟨h1, h2⟩ := List.pairwise_cons.mp hp
    rcases List.mem_cons.mp ha with e1 | ha1
    · rcases List.mem_cons.mp hb with e2 | hb1
      · rw [e1, e2]
      · have z := h1 _ (List.mem_map.mpr ⟨b, hb1, rfl⟩)
        simp only [← e1, hab] at z
        exact absurd z (Int.lt_irrefl _)
    · rcases List.mem_cons.mp hb with e2 | hb1
      · have z := h1 _ (List.mem_map.mpr ⟨a, ha1, rfl⟩)
        simp only [← e2, hab] at z
        exact absurd z (Int.lt_irrefl _)
      · exact ih h2 ha1 hb1
theorem ok_lsw {α : Type} {Γ : Gam} {y : Mth} {d : Nat} {rv : Rv α} {pc : Nat} {lv : List (Nat × Value)} {st : List Value} {G : M α} {L : List (Int32 × Nat × M α)} {dt : Nat} {x : Int32} {dflt : Int} {ps : Array (Int × Int)} {ln : Nat} (hd : decode y.2.1 pc = .ok (.lookupswitch dflt ps, ln)) (ht : lsOk pc dflt ps.toList (L.map fun q => (q.1, q.2.1)) dt = true)
    (kt : ∀ q ∈ L, Ok Γ y d rv q.2.1 lv st q.2.2) (kf : Ok Γ y d rv dt lv st G) : Ok Γ y d rv pc lv (.int x :: st) (swF x L G) := by
  intro μ w μ' h
  simp only [lsOk, Bool.and_eq_true, decide_eq_true_eq] at ht
  obtain ⟨⟨t1, t2⟩, t3⟩ := ht
  rcases swF_some (x := x) (L := L) (G := G) with ⟨q, hq, hx, e⟩ | ⟨hq, e⟩
  · rw [e] at h
    refine ⟨(kt q hq μ w μ' h).1, ?_⟩
    intro p e s m args below meth c x0 s0 H locs ls hc h1 h2 hS hD hl
    rcases ls_off (x := x) (dflt := dflt) (dt := dt) t2 with ⟨q', o, g1, g2, g3, g4⟩ | ⟨g1, g2⟩
    · obtain ⟨q2, hq2, rfl⟩ := List.mem_map.mp g1
      -- the first case with this number is the one that is taken; all numbers differ, so it is q
      have hL : ∀ a ∈ L, ∀ b ∈ L, a.1 = b.1 → a.2.1 = b.2.1 := by
        intro a ha b hb hab
        have hs : (L.map fun q => (q.1.toInt, (q.2.1 : Int))) = ps.toList.map fun o => (o.1, (pc : Int) + o.2) := by
          simpa [List.map_map, Function.comp_def] using t2
        have hp : ps.toList.Pairwise (fun a b => a.1 < b.1) := ls_pair t3
        have hp2 : (L.map fun q => (q.1.toInt, (q.2.1 : Int))).Pairwise (fun a b => a.1 < b.1) := by
          rw [hs]
          exact List.Pairwise.map _ (fun _ _ h => h) hp
        exact ls_same hp2 ha hb hab
      have e1 : q2.2.1 = q.2.1 := hL q2 hq2 q hq (g2.symm.trans hx)
      refine lv_lookup (off := o) (tgt := q.2.1) hc.1 hc.2.1 hd t3 g3 (by rw [g4]; simp [e1]) ((kt q hq μ w μ' h).2 p e s m args below meth c x0 s0 H locs ls hc h1 h2 hS hD hl)
    · exact absurd hx (g1 (q.1, q.2.1) (List.mem_map.mpr ⟨q, hq, rfl⟩))
  · rw [e] at h
    refine ⟨(kf μ w μ' h).1, ?_⟩
    intro p e s m args below meth c x0 s0 H locs ls hc h1 h2 hS hD hl
    rcases ls_off (x := x) (dflt := dflt) (dt := dt) t2 with ⟨q', o, g1, g2, g3, g4⟩ | ⟨g1, g2⟩
    · obtain ⟨q2, hq2, rfl⟩ := List.mem_map.mp g1
      exact absurd g2 (hq q2 hq2)
    · exact lv_lookup (off := dflt) (tgt := dt) hc.1 hc.2.1 hd t3 g2 t1 ((kf μ w μ' h).2 p e s m args below meth c x0 s0 H locs ls hc h1 h2 hS hD hl)
end
section
/-- what stands at a method's end -/
theorem qo_end {Γ : Gam} {v : Option Value} {μ : Mem} {args : Array Value} {s t : State} {H : Heap} {locs : List Loc} (hS : va_S (fun q => gB Γ ≤ q) s.heap H locs) (hD : Wd Γ μ H) (ht : t.heap = H) : Qo Γ v μ args s (.returned v) t := ⟨rfl, by rw [ht]; exact hD, hS.F ht⟩
theorem ok_ireturn {Γ : Gam} {y : Mth} {d pc : Nat} {lv : List (Nat × Value)} {x : Int32} (hd : decode y.2.1 pc = .ok (.ireturn, 1)) (hr : y.2.2.2 = some .int) : Ok Γ y d (qo Γ vI) pc lv [.int x] (rt x) := by
  intro μ w μ' h
  cases h
  refine ⟨⟨Nat.le_refl _, Nat.le_refl _⟩, ?_⟩
  intro p e s m args below meth c x0 s0 H locs ls hc h1 h2 hS hD hl
  exact W.iret hc.1 hc.2.1 (hc.2.2.1.trans hr) (fun t ht _ => qo_end hS hD ht) (fun q hq => hS.2.2 q hq) hd hc.2.2.2.2.2.2.1
theorem nar_z {v : Int32} (h : v = 0 ∨ v = 1) : narrow .boolean (.int v) = .int v := by
  rcases h with rfl | rfl <;> rfl
theorem ok_zreturn {Γ : Gam} {y : Mth} {d pc : Nat} {lv : List (Nat × Value)} {x : Int32} (hd : decode y.2.1 pc = .ok (.ireturn, 1)) (hr : y.2.2.2 = some .boolean) : Ok Γ y d (qo Γ vI) pc lv [.int x] (rz x) := by
  intro μ w μ' h
  unfold rz at h
  by_cases hx : x = 0 ∨ x = 1
  · rw [if_pos hx] at h
    cases h
    refine ⟨⟨Nat.le_refl _, Nat.le_refl _⟩, ?_⟩
    intro p e s m args below meth c x0 s0 H locs ls hc h1 h2 hS hD hl
    exact W.zret hc.1 hc.2.1 (hc.2.2.1.trans hr) (nar_z hx) (fun t ht _ => qo_end hS hD ht) (fun q hq => hS.2.2 q hq) hd hc.2.2.2.2.2.2.1
  · rw [if_neg hx] at h
    cases h
theorem ok_lreturn {Γ : Gam} {y : Mth} {d pc : Nat} {lv : List (Nat × Value)} {x : Int64} (hd : decode y.2.1 pc = .ok (.lreturn, 1)) (hr : y.2.2.2 = some .long) : Ok Γ y d (qo Γ vL) pc lv [.long x] (rt x) := by
  intro μ w μ' h
  cases h
  refine ⟨⟨Nat.le_refl _, Nat.le_refl _⟩, ?_⟩
  intro p e s m args below meth c x0 s0 H locs ls hc h1 h2 hS hD hl
  exact W.lret hc.1 hc.2.1 (hc.2.2.1.trans hr) (fun t ht _ => qo_end hS hD ht) (fun q hq => hS.2.2 q hq) hd hc.2.2.2.2.2.2.1
theorem rf_or (r : Option Nat) : va_rf r = .null ∨ ∃ a, va_rf r = .ref a := by
  cases r with
  | none => exact Or.inl rfl
  | some a => exact Or.inr ⟨a, rfl⟩
theorem ok_areturn {Γ : Gam} {y : Mth} {d pc : Nat} {lv : List (Nat × Value)} {r : Option Nat} {ty : FieldType} (hd : decode y.2.1 pc = .ok (.areturn, 1)) (hr : y.2.2.2 = some ty) (hty : (∃ n, ty = .object n) ∨ ∃ t, ty = .array t) : Ok Γ y d (qo Γ vP) pc lv [va_rf r] (rt r) := by
  intro μ w μ' h
  cases h
  refine ⟨⟨Nat.le_refl _, Nat.le_refl _⟩, ?_⟩
  intro p e s m args below meth c x0 s0 H locs ls hc h1 h2 hS hD hl
  exact W.aret hc.1 hc.2.1 (hc.2.2.1.trans hr) hty (rf_or r) (fun t ht _ => qo_end hS hD ht) (fun q hq => hS.2.2 q hq) hd hc.2.2.2.2.2.2.1
theorem ok_return {Γ : Gam} {y : Mth} {d pc : Nat} {lv : List (Nat × Value)} (hd : decode y.2.1 pc = .ok (.return_, 1)) (hr : y.2.2.2 = none) : Ok Γ y d (qo Γ vV) pc lv [] (rt ()) := by
  intro μ w μ' h
  cases h
  refine ⟨⟨Nat.le_refl _, Nat.le_refl _⟩, ?_⟩
  intro p e s m args below meth c x0 s0 H locs ls hc h1 h2 hS hD hl
  exact W.vret hc.1 hc.2.1 (hc.2.2.1.trans hr) (fun t ht _ => qo_end hS hD ht) (fun q hq => hS.2.2 q hq) hd hc.2.2.2.2.2.2.1
/-- the classes' facts, each decided once -/
def CF (c : Nat) (C : String) (T : u_T) (N : Nat) : Prop := vcl[c]? = some (C, T, N) ∧ (∀ w ∈ u_ws C T N, w ∈ lw_g) ∧ (∃ ty : Nat → FieldType, ∀ k, k < N → parseFieldDescriptor (T k).2.2.1 = some (ty k)) ∧ (∀ a, a < N → ∀ b, b < N → a ≠ b → (T a).2.1 ≠ (T b).2.1)
/-- a field's link in a class's pool -/
def FL (own : String) (idx c k : Nat) (C : String) (T : u_T) (N : Nat) : Prop := CF c C T N ∧ k < N ∧ ∃ ref, Cond.fieldLink own idx ref (T k).2.1 (T k).2.2.1 ∈ lw_g ∧ (ref = (T k).1 ∨ Cond.sameField ref (T k).1 (T k).2.1 (T k).2.2.1 ∈ lw_g)
theorem fl_same {args : Array Value} {s : State} {own : String} {idx c k : Nat} {C : String} {T : u_T} {N : Nat} (hts : ∀ w ∈ lw_g, w.before args s = true) (h : FL own idx c k C T N) : ∃ ref, (Cond.fieldLink own idx ref (T k).2.1 (T k).2.2.1).before args s = true ∧ ∀ x, s.fieldFound? (T k).1 (T k).2.1 (T k).2.2.1 = some x → s.fieldFound? ref (T k).2.1 (T k).2.2.1 = some x := by
  obtain ⟨-, -, ref, h1, h2⟩ := h
  refine ⟨ref, hts _ h1, fun x hx => ?_⟩
  rcases h2 with rfl | h2
  · exact hx
  · exact u_same (hts _ h2) x hx
/-- a receiver -/
theorem pRc_some {c : Nat} {r : Option Nat} {μ : Mem} {q : Nat × Mem} (h : pRc c r μ = some q) : ∃ a, r = some a ∧ mK μ a = c + 1 ∧ q = (a, μ) := by
  unfold pRc at h
  cases r with
  | none => cases h
  | some a =>
    simp only at h
    by_cases hk : mK μ a = c + 1
    · rw [if_pos hk] at h
      exact ⟨a, rfl, hk, (Option.some.inj h).symm⟩
    · rw [if_neg hk] at h
      cases h
theorem pArr_some {k : Nat} {r : Option Nat} {μ : Mem} {q : Nat × Mem} (h : pArr k r μ = some q) : ∃ a, r = some a ∧ mK μ a = k ∧ q = (a, μ) := by
  unfold pArr at h
  cases r with
  | none => cases h
  | some a =>
    simp only at h
    by_cases hk : mK μ a = k
    · rw [if_pos hk] at h
      exact ⟨a, rfl, hk, (Option.some.inj h).symm⟩
    · rw [if_neg hk] at h
      cases h
/-- reading a field -/
theorem wd_get {Γ : Gam} {μ : Mem} {H : Heap} {y : Mth} {p : Program} {l : Launch} {e : Env} {R : Room} {s : State} {m : MethodId} {args : Array Value} {below : List Frame} {meth : Method} {c : Code} {locs : List Loc} {cells slots : Nat} {Q : State → Prop} {pc idx : Nat} {ls : Array Slot} {st : List Value} {cn k : Nat} {C : String} {T : u_T} {N a : Nat}
    (hc : Ctx Γ y p s m args meth c) (hD : Wd Γ μ H) (hF : FL y.1.cls idx cn k C T N) (hK : mK μ a = cn + 1) (hd : decode y.2.1 pc = .ok (.getfield idx, 3))
    (kk : W p l e R s m args below meth c H locs cells slots Q (F0 m (pc + 3) ls (fv μ cn a k :: st))) : W p l e R s m args below meth c H locs cells slots Q (F0 m pc ls (.ref a :: st)) := by
  obtain ⟨ref, hlink, hsame⟩ := fl_same hc.2.2.2.2.2.1 hF
  obtain ⟨⟨hcl, hin, -, -⟩, hk, -⟩ := hF
  have hat := ((hD.2.2 a (by rw [hK]; exact Nat.succ_ne_zero _)).1.2).1 cn _ hK hcl
  obtain ⟨cell, q1, q2, q3, q4⟩ := hat
  obtain ⟨hS, hfc, kC, hkC, hkind⟩ := hc.2.2.2.2.2.2.2.2.1.1.1 cn _ hcl
  obtain ⟨cf, kf, fi, f, hi, hsl⟩ := hS k hk
  refine W.getf hc.1 hc.2.1 hc.2.2.2.2.1 hlink (hsame _ hi) (u_facts hfc hkC (u_lays hc.2.2.2.2.2.1 hin hk) hi).1 q1 (by rw [q3]; exact fun h => by cases h) (v := fv μ cn a k) ?_ rfl rfl hd kk
  rw [hsl, q4 k hk]
theorem ok_gI {α : Type} {Γ : Gam} {y : Mth} {d : Nat} {rv : Rv α} {pc : Nat} {lv : List (Nat × Value)} {st : List Value} {F : Int32 → M α} {r : Option Nat} {idx cn k : Nat} {C : String} {T : u_T} {N : Nat} (hF : FL y.1.cls idx cn k C T N) (hf : fty cn k = 0) (hd : decode y.2.1 pc = .ok (.getfield idx, 3)) (kk : ∀ x : Int32, Ok Γ y d rv (pc + 3) lv ((.int x) :: st) (F x)) : Ok Γ y d rv pc lv (va_rf r :: st) (bn (gI cn k r) F) := by
  intro μ w μ' h
  obtain ⟨u, μ1, h1, h2⟩ := bn_some h
  obtain ⟨a, μ2, h3, h4⟩ := bn_some h1
  obtain ⟨a', rfl, hK, e⟩ := pRc_some h3
  cases e
  cases h4
  refine ⟨(kk _ μ w μ' h2).1, ?_⟩
  intro p e s m args below meth c x0 s0 H locs ls hc g1 g2 hS hD hl
  refine wd_get hc hD hF hK hd ?_
  have he : fv μ cn a k = .int (mI μ (64 * cn + k) a) := by simp [fv, hf]
  rw [he]
  exact (kk _ μ w μ' h2).2 p e s m args below meth c x0 s0 H locs ls hc g1 g2 hS hD hl
theorem ok_gZ {α : Type} {Γ : Gam} {y : Mth} {d : Nat} {rv : Rv α} {pc : Nat} {lv : List (Nat × Value)} {st : List Value} {F : Int32 → M α} {r : Option Nat} {idx cn k : Nat} {C : String} {T : u_T} {N : Nat} (hF : FL y.1.cls idx cn k C T N) (hf : fty cn k = 3) (hd : decode y.2.1 pc = .ok (.getfield idx, 3)) (kk : ∀ x : Int32, Ok Γ y d rv (pc + 3) lv ((.int x) :: st) (F x)) : Ok Γ y d rv pc lv (va_rf r :: st) (bn (gI cn k r) F) := by
  intro μ w μ' h
  obtain ⟨u, μ1, h1, h2⟩ := bn_some h
  obtain ⟨a, μ2, h3, h4⟩ := bn_some h1
  obtain ⟨a', rfl, hK, e⟩ := pRc_some h3
  cases e
  cases h4
  refine ⟨(kk _ μ w μ' h2).1, ?_⟩
  intro p e s m args below meth c x0 s0 H locs ls hc g1 g2 hS hD hl
  refine wd_get hc hD hF hK hd ?_
  have he : fv μ cn a k = .int (mI μ (64 * cn + k) a) := by simp [fv, hf]
  rw [he]
  exact (kk _ μ w μ' h2).2 p e s m args below meth c x0 s0 H locs ls hc g1 g2 hS hD hl
theorem ok_gL {α : Type} {Γ : Gam} {y : Mth} {d : Nat} {rv : Rv α} {pc : Nat} {lv : List (Nat × Value)} {st : List Value} {F : Int64 → M α} {r : Option Nat} {idx cn k : Nat} {C : String} {T : u_T} {N : Nat} (hF : FL y.1.cls idx cn k C T N) (hf : fty cn k = 1) (hd : decode y.2.1 pc = .ok (.getfield idx, 3)) (kk : ∀ x : Int64, Ok Γ y d rv (pc + 3) lv ((.long x) :: st) (F x)) : Ok Γ y d rv pc lv (va_rf r :: st) (bn (gLg cn k r) F) := by
  intro μ w μ' h
  obtain ⟨u, μ1, h1, h2⟩ := bn_some h
  obtain ⟨a, μ2, h3, h4⟩ := bn_some h1
  obtain ⟨a', rfl, hK, e⟩ := pRc_some h3
  cases e
  cases h4
  refine ⟨(kk _ μ w μ' h2).1, ?_⟩
  intro p e s m args below meth c x0 s0 H locs ls hc g1 g2 hS hD hl
  refine wd_get hc hD hF hK hd ?_
  have he : fv μ cn a k = .long (mL μ (64 * cn + k) a) := by simp [fv, hf]
  rw [he]
  exact (kk _ μ w μ' h2).2 p e s m args below meth c x0 s0 H locs ls hc g1 g2 hS hD hl
theorem ok_gP {α : Type} {Γ : Gam} {y : Mth} {d : Nat} {rv : Rv α} {pc : Nat} {lv : List (Nat × Value)} {st : List Value} {F : Option Nat → M α} {r : Option Nat} {idx cn k : Nat} {C : String} {T : u_T} {N : Nat} (hF : FL y.1.cls idx cn k C T N) (hf : fty cn k = 2) (hd : decode y.2.1 pc = .ok (.getfield idx, 3)) (kk : ∀ x : Option Nat, Ok Γ y d rv (pc + 3) lv ((va_rf x) :: st) (F x)) : Ok Γ y d rv pc lv (va_rf r :: st) (bn (gP cn k r) F) := by
  intro μ w μ' h
  obtain ⟨u, μ1, h1, h2⟩ := bn_some h
  obtain ⟨a, μ2, h3, h4⟩ := bn_some h1
  obtain ⟨a', rfl, hK, e⟩ := pRc_some h3
  cases e
  cases h4
  refine ⟨(kk _ μ w μ' h2).1, ?_⟩
  intro p e s m args below meth c x0 s0 H locs ls hc g1 g2 hS hD hl
  refine wd_get hc hD hF hK hd ?_
  have he : fv μ cn a k = va_rf (mP μ (64 * cn + k) a) := by simp [fv, hf]
  rw [he]
  exact (kk _ μ w μ' h2).2 p e s m args below meth c x0 s0 H locs ls hc g1 g2 hS hD hl
end
section
/-- a field is written: the world behind it -/
theorem wd_fput {Γ : Gam} {μ μ' : Mem} {H H' : Heap} {a cn k : Nat} {C : String} {T : u_T} {N : Nat} {v : Value} {cell : Cell} (hD : Wd Γ μ H) (hK : mK μ a = cn + 1) (hcl : vcl[cn]? = some (C, T, N)) (hk : k < N)
    (hap : ∀ x y, x < N → y < N → x ≠ y → ((gD Γ).2 cn) x ≠ ((gD Γ).2 cn) y) (q2 : cell.cls = (gD Γ).1 cn) (q3 : cell.vm = .none) (q4 : ∀ k, k < N → cell.slots[(gD Γ).2 cn k]? = some (fv μ cn a k))
    (e1 : H'[a]? = some (cell.setSlot ((gD Γ).2 cn k) v)) (e2 : H'.size = H.size) (e3 : ∀ q, q ≠ a → H'[q]? = H[q]?)
    (m1 : mK μ' = mK μ) (m2 : mN μ' = mN μ) (m3 : mX μ' = mX μ) (m5 : mT μ' = mT μ) (m4 : ev μ' = ev μ) (hf : ∀ c b j, b ≠ a → fv μ' c b j = fv μ c b j) (hf2 : ∀ j, j ≠ k → fv μ' cn a j = fv μ cn a j) (hv : fv μ' cn a k = v) : Wd Γ μ' H' := by
  refine ⟨by rw [e2, m3]; exact hD.1, m5.trans hD.2.1, fun b hb => ?_⟩
  rw [m1] at hb
  obtain ⟨⟨hlt, hat⟩, hbase⟩ := hD.2.2 b hb
  refine ⟨⟨by rw [e2]; exact hlt, ?_⟩, by rw [m1]; exact hbase⟩
  by_cases hba : b = a
  · subst hba
    refine ⟨fun c q hc hq => ?_, fun h => ?_⟩
    · rw [m1, hK] at hc
      have hcc : cn = c := Nat.succ.inj hc
      subst hcc
      rw [hcl] at hq
      cases hq
      refine t_OB.to (V := updV (fv μ cn b) k v) ⟨_, e1, q2, q3, t_set q4 hap hk v⟩ (fun j _ => ?_)
      by_cases hj : j = k
      · subst hj; simp [updV, hv]
      · simp [updV, hj, hf2 j hj]
    · rw [m1, hK] at h
      have hl : cn < vcl.length := (List.getElem?_eq_some_iff.mp hcl).1
      have h14 : vcl.length = 14 := rfl
      omega
  · refine ⟨fun c q hc hq => ?_, fun h => ?_⟩
    · rw [m1] at hc
      exact ((hat.1 c q hc hq).kept (e3 b hba)).to (fun j _ => (hf c b j hba).symm)
    · rw [e3 b hba, m1, m2, m4]
      rw [m1] at h
      exact hat.2 h
theorem up2_ne {α : Type} {m : Nat → Nat → α} {f a g b : Nat} {v : α} (h : b ≠ a ∨ g ≠ f) : up2 m f a v g b = m g b := by
  unfold up2
  rw [if_neg]
  rintro ⟨rfl, rfl⟩
  rcases h with h | h <;> exact h rfl
theorem up2_eq {α : Type} {m : Nat → Nat → α} {f a : Nat} {v : α} : up2 m f a v f a = v := by
  unfold up2
  rw [if_pos ⟨rfl, rfl⟩]
/-- writing a field, one that isn't final, or a final one in its own constructor -/
theorem wd_put {Γ : Gam} {μ μ' : Mem} {H : Heap} {y : Mth} {p : Program} {l : Launch} {e : Env} {R : Room} {s : State} {m : MethodId} {args : Array Value} {below : List Frame} {meth : Method} {c : Code} {locs : List Loc} {cells slots : Nat} {Q : State → Prop} {pc idx : Nat} {ls : Array Slot} {st : List Value} {cn k : Nat} {C : String} {T : u_T} {N a : Nat} {v : Value} {ty : FieldType}
    (hc : Ctx Γ y p s m args meth c) (hS0 : va_S (fun q => gB Γ ≤ q) s.heap H locs) (hD : Wd Γ μ H) (hF : FL y.1.cls idx cn k C T N) (hfin : (T k).2.2.2 = false ∨ ((T k).2.2.2 = true ∧ y.1.name = "<init>" ∧ (T k).1 = y.1.cls)) (hK : mK μ a = cn + 1) (hty : parseFieldDescriptor (T k).2.2.1 = some ty) (hn : narrow ty v = v) (hfit : fits ty v = true) (hd : decode y.2.1 pc = .ok (.putfield idx, 3))
    (m1 : mK μ' = mK μ) (m2 : mN μ' = mN μ) (m3 : mX μ' = mX μ) (m5 : mT μ' = mT μ) (m4 : ev μ' = ev μ) (hf : ∀ c b j, b ≠ a → fv μ' c b j = fv μ c b j) (hf2 : ∀ j, j ≠ k → fv μ' cn a j = fv μ cn a j) (hv : fv μ' cn a k = v)
    (kk : ∀ (H' : Heap) (locs' : List Loc), Wd Γ μ' H' → va_S (fun q => gB Γ ≤ q) s.heap H' locs' → W p l e R s m args below meth c H' locs' cells slots Q (F0 m (pc + 3) ls st)) : W p l e R s m args below meth c H locs cells slots Q (F0 m pc ls (v :: .ref a :: st)) := by
  have hts := hc.2.2.2.2.2.1
  obtain ⟨ref, hlink, hsame⟩ := fl_same hts hF
  obtain ⟨⟨hcl, hin, ⟨ty0, hty0⟩, hnm⟩, hk, -⟩ := hF
  have hKK := hc.2.2.2.2.2.2.2.2.1.1
  have hap := va_apart (own := y.1.cls) hts hin ty0 hty0 hnm hKK hcl
  have hb0 := hD.2.2 a (by rw [hK]; exact Nat.succ_ne_zero _)
  obtain ⟨cell, q1, q2, q3, q4⟩ := hb0.1.2.1 cn _ hK hcl
  have hba : gB Γ ≤ a := hb0.2 (by
    have hl : cn < vcl.length := (List.getElem?_eq_some_iff.mp hcl).1
    have h14 : vcl.length = 14 := rfl
    omega)
  obtain ⟨hS, hfc, kC, hkC, hkind⟩ := hKK.1 cn _ hcl
  obtain ⟨cf, kf, fi, f, hi, hsl⟩ := hS k hk
  have hlay := hts _ (hin _ (u_in_lay hk))
  unfold u_lay at hlay
  have hst := (u_facts hfc hkC (u_lays hts hin hk) hi).1
  rcases hfin with hfin | ⟨hfin, hinit, hdecl⟩
  · rw [if_neg (by rw [hfin]; decide)] at hlay
    have h6 := u_store hfc hkC hkind hlay hi hty hn hfit
    refine W.putK hc.1 hc.2.1 (f := f) ⟨hc.2.2.2.2.1, hlink, ⟨_, _, _, hsame _ hi⟩, hst⟩ (by rw [q2]; exact h6) q1 q3 (by rw [hsl]; exact k2_hasslot (q4 k hk)) rfl rfl hd fun H' e1 e2 e3 => ?_
    rw [hsl] at e1 ⊢
    exact kk H' _ (wd_fput hD hK hcl hk hap q2 q3 q4 e1 e2 e3 m1 m2 m3 m5 m4 hf hf2 hv) (hS0.put e2 e3 hba)
  · rw [if_pos hfin] at hlay
    have hcf : m.cls = cf := by
      obtain ⟨_, _, c', _, _, _, -, -, hf', -, -, -, hown2, -⟩ := Cond.laysFinal_spec hlay
      have e1 : c' = cf := by have := hi.symm.trans hf'; simp at this; exact this.1.symm
      rw [hdecl] at hown2
      rw [← e1]; exact Option.some.inj (hc.2.2.2.2.1.symm.trans hown2)
    have h6 := u_fits hfc hkC hkind (Or.inr hlay) hi hty hn hfit
    refine W.putFinK hc.1 hc.2.1 hc.2.2.2.2.1 hlink (hsame _ hi) hst hcf (hc.2.2.2.2.2.2.2.1.trans hinit) (by rw [q2]; exact h6) q1 q3 (by rw [hsl]; exact k2_hasslot (q4 k hk)) rfl rfl hd fun H' e1 e2 e3 => ?_
    rw [hsl] at e1 ⊢
    exact kk H' _ (wd_fput hD hK hcl hk hap q2 q3 q4 e1 e2 e3 m1 m2 m3 m5 m4 hf hf2 hv) (hS0.put e2 e3 hba)
theorem fid_ne {c k c' k' : Nat} (hk : k < 64) (hk' : k' < 64) (h : c' ≠ c ∨ k' ≠ k) : 64 * c' + k' ≠ 64 * c + k := by omega
theorem ok_wI {α : Type} {Γ : Gam} {y : Mth} {d : Nat} {rv : Rv α} {pc : Nat} {lv : List (Nat × Value)} {st : List Value} {F : M α} {r : Option Nat} {x : Int32} {idx cn k : Nat} {C : String} {T : u_T} {N : Nat} (hF : FL y.1.cls idx cn k C T N) (hfin : (T k).2.2.2 = false ∨ ((T k).2.2.2 = true ∧ y.1.name = "<init>" ∧ (T k).1 = y.1.cls)) (hty : parseFieldDescriptor (T k).2.2.1 = some .int) (hN : k < 64) (hf : fty cn k = 0) (hd : decode y.2.1 pc = .ok (.putfield idx, 3)) (kk : Ok Γ y d rv (pc + 3) lv st F) : Ok Γ y d rv pc lv (.int x :: va_rf r :: st) (bn (wI cn k r x) fun _ => F) := by
  intro μ w μ' h
  obtain ⟨u, μ1, h1, h2⟩ := bn_some h
  obtain ⟨a, μ2, h3, h4⟩ := bn_some h1
  obtain ⟨a', rfl, hK, e⟩ := pRc_some h3
  cases e
  cases h4
  refine ⟨(kk _ w μ' h2).1, ?_⟩
  intro p e s m args below meth c x0 s0 H locs ls hc g1 g2 hS hD hl
  refine wd_put (μ' := sI μ (64 * cn + k) a x) hc hS hD hF hfin hK hty rfl rfl hd rfl rfl rfl rfl rfl (fun c b j hb => ?_) (fun j hj => ?_) ?_ (fun H' locs' hD' hS' => (kk _ w μ' h2).2 p e s m args below meth c x0 s0 H' locs' ls hc g1 g2 hS' hD' hl)
  · show (if fty c j = 1 then _ else _) = _
    unfold fv
    simp only [sI, mI, mL, mP, up2_ne (Or.inl hb)]
  · have hz : ∀ {β : Type} (m : Nat → Nat → β) (v : β), up2 m (64 * cn + k) a v (64 * cn + j) a = m (64 * cn + j) a := fun m v => up2_ne (Or.inr (by omega))
    unfold fv
    simp only [sI, mI, mL, mP, hz]
  · unfold fv
    simp [hf, sI, mI, mL, mP, up2_eq]
theorem ok_wL {α : Type} {Γ : Gam} {y : Mth} {d : Nat} {rv : Rv α} {pc : Nat} {lv : List (Nat × Value)} {st : List Value} {F : M α} {r : Option Nat} {x : Int64} {idx cn k : Nat} {C : String} {T : u_T} {N : Nat} (hF : FL y.1.cls idx cn k C T N) (hfin : (T k).2.2.2 = false ∨ ((T k).2.2.2 = true ∧ y.1.name = "<init>" ∧ (T k).1 = y.1.cls)) (hty : parseFieldDescriptor (T k).2.2.1 = some .long) (hN : k < 64) (hf : fty cn k = 1) (hd : decode y.2.1 pc = .ok (.putfield idx, 3)) (kk : Ok Γ y d rv (pc + 3) lv st F) : Ok Γ y d rv pc lv (.long x :: va_rf r :: st) (bn (wL cn k r x) fun _ => F) := by
  intro μ w μ' h
  obtain ⟨u, μ1, h1, h2⟩ := bn_some h
  obtain ⟨a, μ2, h3, h4⟩ := bn_some h1
  obtain ⟨a', rfl, hK, e⟩ := pRc_some h3
  cases e
  cases h4
  refine ⟨(kk _ w μ' h2).1, ?_⟩
  intro p e s m args below meth c x0 s0 H locs ls hc g1 g2 hS hD hl
  refine wd_put (μ' := sL μ (64 * cn + k) a x) hc hS hD hF hfin hK hty rfl rfl hd rfl rfl rfl rfl rfl (fun c b j hb => ?_) (fun j hj => ?_) ?_ (fun H' locs' hD' hS' => (kk _ w μ' h2).2 p e s m args below meth c x0 s0 H' locs' ls hc g1 g2 hS' hD' hl)
  · show (if fty c j = 1 then _ else _) = _
    unfold fv
    simp only [sL, mI, mL, mP, up2_ne (Or.inl hb)]
  · have hz : ∀ {β : Type} (m : Nat → Nat → β) (v : β), up2 m (64 * cn + k) a v (64 * cn + j) a = m (64 * cn + j) a := fun m v => up2_ne (Or.inr (by omega))
    unfold fv
    simp only [sL, mI, mL, mP, hz]
  · unfold fv
    simp [hf, sL, mI, mL, mP, up2_eq]
theorem ok_wP {α : Type} {Γ : Gam} {y : Mth} {d : Nat} {rv : Rv α} {pc : Nat} {lv : List (Nat × Value)} {st : List Value} {F : M α} {r : Option Nat} {x : Option Nat} {idx cn k : Nat} {C : String} {T : u_T} {N : Nat} (hF : FL y.1.cls idx cn k C T N) (hfin : (T k).2.2.2 = false ∨ ((T k).2.2.2 = true ∧ y.1.name = "<init>" ∧ (T k).1 = y.1.cls)) {ty : FieldType} (hty : parseFieldDescriptor (T k).2.2.1 = some ty) (hrf : ∀ r : Option Nat, narrow ty (va_rf r) = va_rf r ∧ fits ty (va_rf r) = true) (hN : k < 64) (hf : fty cn k = 2) (hd : decode y.2.1 pc = .ok (.putfield idx, 3)) (kk : Ok Γ y d rv (pc + 3) lv st F) : Ok Γ y d rv pc lv (va_rf x :: va_rf r :: st) (bn (wP cn k r x) fun _ => F) := by
  intro μ w μ' h
  obtain ⟨u, μ1, h1, h2⟩ := bn_some h
  obtain ⟨a, μ2, h3, h4⟩ := bn_some h1
  obtain ⟨a', rfl, hK, e⟩ := pRc_some h3
  cases e
  cases h4
  refine ⟨(kk _ w μ' h2).1, ?_⟩
  intro p e s m args below meth c x0 s0 H locs ls hc g1 g2 hS hD hl
  refine wd_put (μ' := sP μ (64 * cn + k) a x) hc hS hD hF hfin hK hty (hrf x).1 (hrf x).2 hd rfl rfl rfl rfl rfl (fun c b j hb => ?_) (fun j hj => ?_) ?_ (fun H' locs' hD' hS' => (kk _ w μ' h2).2 p e s m args below meth c x0 s0 H' locs' ls hc g1 g2 hS' hD' hl)
  · show (if fty c j = 1 then _ else _) = _
    unfold fv
    simp only [sP, mI, mL, mP, up2_ne (Or.inl hb)]
  · have hz : ∀ {β : Type} (m : Nat → Nat → β) (v : β), up2 m (64 * cn + k) a v (64 * cn + j) a = m (64 * cn + j) a := fun m v => up2_ne (Or.inr (by omega))
    unfold fv
    simp only [sP, mI, mL, mP, hz]
  · unfold fv
    simp [hf, sP, mI, mL, mP, up2_eq]
theorem ok_wZ {α : Type} {Γ : Gam} {y : Mth} {d : Nat} {rv : Rv α} {pc : Nat} {lv : List (Nat × Value)} {st : List Value} {F : M α} {r : Option Nat} {x : Int32} {idx cn k : Nat} {C : String} {T : u_T} {N : Nat} (hF : FL y.1.cls idx cn k C T N) (hfin : (T k).2.2.2 = false ∨ ((T k).2.2.2 = true ∧ y.1.name = "<init>" ∧ (T k).1 = y.1.cls)) (hty : parseFieldDescriptor (T k).2.2.1 = some .boolean) (hN : k < 64) (hf : fty cn k = 3) (hd : decode y.2.1 pc = .ok (.putfield idx, 3)) (kk : Ok Γ y d rv (pc + 3) lv st F) : Ok Γ y d rv pc lv (.int x :: va_rf r :: st) (bn (wZ cn k r x) fun _ => F) := by
  intro μ w μ' h
  obtain ⟨u, μ1, h1, h2⟩ := bn_some h
  obtain ⟨a, μ2, h3, h4⟩ := bn_some h1
  obtain ⟨a', rfl, hK, e⟩ := pRc_some h3
  cases e
  by_cases hx : x = 0 ∨ x = 1
  case neg => simp only [if_neg hx] at h4; cases h4
  simp only [if_pos hx] at h4
  cases h4
  refine ⟨(kk _ w μ' h2).1, ?_⟩
  intro p e s m args below meth c x0 s0 H locs ls hc g1 g2 hS hD hl
  refine wd_put (μ' := sI μ (64 * cn + k) a x) hc hS hD hF hfin hK hty (nar_z hx) (by rcases hx with rfl | rfl <;> rfl) hd rfl rfl rfl rfl rfl (fun c b j hb => ?_) (fun j hj => ?_) ?_ (fun H' locs' hD' hS' => (kk _ w μ' h2).2 p e s m args below meth c x0 s0 H' locs' ls hc g1 g2 hS' hD' hl)
  · show (if fty c j = 1 then _ else _) = _
    unfold fv
    simp only [sI, mI, mL, mP, up2_ne (Or.inl hb)]
  · have hz : ∀ {β : Type} (m : Nat → Nat → β) (v : β), up2 m (64 * cn + k) a v (64 * cn + j) a = m (64 * cn + j) a := fun m v => up2_ne (Or.inr (by omega))
    unfold fv
    simp only [sI, mI, mL, mP, hz]
  · unfold fv
    simp [hf, sI, mI, mL, mP, up2_eq]
end
section
/-- an array of kind k -/
theorem wd_arr {Γ : Gam} {μ : Mem} {H : Heap} {a k : Nat} (hD : Wd Γ μ H) (hk : 64 ≤ k) (hK : mK μ a = k) : H[a]? = some (arrV (gA Γ (k % 8)) (mN μ a) (ev μ a)) := by
  have h := (hD.2.2 a (by omega)).1.2.2 (by omega)
  rw [hK] at h
  exact h
theorem tys_at {f : Nat → ClassId} {j : Nat} {ty : FieldType} (h : (tysA f)[j]? = some (f j, ty)) {Γ : Gam} (hf : f = gA Γ) {s : State} (hK : va_K (gD Γ) vcl (tysA (gA Γ)) s) : ArrOfT s (gA Γ j) ty ∧ va_RA s (gA Γ j) ty := by
  subst hf
  exact hK.2 j _ h
/-- an array is written: the world behind it -/
theorem wd_aput {Γ : Gam} {μ μ' : Mem} {H H' : Heap} {a k : Nat} (hD : Wd Γ μ H) (hk : 64 ≤ k) (hK : mK μ a = k)
    (e1 : H'[a]? = some (arrV (gA Γ (k % 8)) (mN μ a) (ev μ' a))) (e2 : H'.size = H.size) (e3 : ∀ q, q ≠ a → H'[q]? = H[q]?)
    (m1 : mK μ' = mK μ) (m2 : mN μ' = mN μ) (m3 : mX μ' = mX μ) (m5 : mT μ' = mT μ) (hf : fv μ' = fv μ) (he : ∀ b, b ≠ a → ev μ' b = ev μ b) : Wd Γ μ' H' := by
  refine ⟨by rw [e2, m3]; exact hD.1, m5.trans hD.2.1, fun b hb => ?_⟩
  rw [m1] at hb
  obtain ⟨⟨hlt, hat⟩, hbase⟩ := hD.2.2 b hb
  refine ⟨⟨by rw [e2]; exact hlt, ?_⟩, by rw [m1]; exact hbase⟩
  by_cases hba : b = a
  · subst hba
    refine ⟨fun c q hc hq => ?_, fun h => ?_⟩
    · rw [m1, hK] at hc
      have hl : c < vcl.length := (List.getElem?_eq_some_iff.mp hq).1
      have h14 : vcl.length = 14 := rfl
      omega
    · rw [e1, m1, m2, hK]
  · refine ⟨fun c q hc hq => ?_, fun h => ?_⟩
    · rw [m1] at hc
      rw [hf]
      exact (hat.1 c q hc hq).kept (e3 b hba)
    · rw [e3 b hba, m1, m2, he b hba]
      rw [m1] at h
      exact hat.2 h
theorem up3_ne {α : Type} {m : Nat → Nat → Nat → α} {f a i g b j : Nat} {v : α} (h : b ≠ a ∨ j ≠ i) : up3 m f a i v g b j = m g b j := by
  unfold up3
  rw [if_neg]
  rintro ⟨-, rfl, rfl⟩
  rcases h with h | h <;> exact h rfl
theorem up3_eq {α : Type} {m : Nat → Nat → Nat → α} {f a i : Nat} {v : α} : up3 m f a i v f a i = v := by
  unfold up3
  rw [if_pos ⟨rfl, rfl, rfl⟩]
theorem arr_base {Γ : Gam} {μ : Mem} {H : Heap} {a k : Nat} (hD : Wd Γ μ H) (hk : 64 ≤ k) (h76 : k ≠ 76) (hK : mK μ a = k) : gB Γ ≤ a := (hD.2.2 a (by omega)).2 (by omega)
theorem ok_len {α : Type} {Γ : Gam} {y : Mth} {d : Nat} {rv : Rv α} {pc : Nat} {lv : List (Nat × Value)} {st : List Value} {F : Int32 → M α} {r : Option Nat} (hd : decode y.2.1 pc = .ok (.arraylength, 1)) (kk : ∀ x : Int32, Ok Γ y d rv (pc + 1) lv (.int x :: st) (F x)) : Ok Γ y d rv pc lv (va_rf r :: st) (bn (len r) F) := by
  intro μ w μ' h
  obtain ⟨u, μ1, h1, h2⟩ := bn_some h
  unfold len at h1
  by_cases h0 : r = mT μ 0
  · rw [if_pos h0] at h1
    cases h1
    refine ⟨(kk _ μ w μ' h2).1, ?_⟩
    intro p e s m args below meth c x0 s0 H locs ls hc g1 g2 hS hD hl
    obtain ⟨t, e1, hT⟩ := hc.2.2.2.2.2.2.2.2.1.2.2.1.2
    rw [h0, hD.2.1, e1]
    exact va_tlen hc.1 hc.2.1 hT hS rfl hd ((kk _ μ w μ' h2).2 p e s m args below meth c x0 s0 H locs ls hc g1 g2 hS hD hl)
  rw [if_neg h0] at h1
  cases r with
  | none => cases h1
  | some a =>
    simp only at h1
    by_cases hk : 64 ≤ mK μ a
    case neg => rw [if_neg hk] at h1; cases h1
    rw [if_pos hk] at h1
    cases h1
    refine ⟨(kk _ μ w μ' h2).1, ?_⟩
    intro p e s m args below meth c x0 s0 H locs ls hc g1 g2 hS hD hl
    have hb0 := (hD.2.2 a (by omega)).1.2.2 hk
    have hty : ∃ ty, ArrOfT s (gA Γ (mK μ a % 8)) ty := by
      have hK := hc.2.2.2.2.2.2.2.2.1.1.2
      have h8 : mK μ a % 8 < 8 := Nat.mod_lt _ (by decide)
      rcases (show mK μ a % 8 = 0 ∨ mK μ a % 8 = 1 ∨ mK μ a % 8 = 2 ∨ mK μ a % 8 = 3 ∨ mK μ a % 8 = 4 ∨ mK μ a % 8 = 5 ∨ mK μ a % 8 = 6 ∨ mK μ a % 8 = 7 by omega) with e | e | e | e | e | e | e | e <;> rw [e]
      · exact ⟨_, (hK 0 _ rfl).1⟩
      · exact ⟨_, (hK 1 _ rfl).1⟩
      · exact ⟨_, (hK 2 _ rfl).1⟩
      · exact ⟨_, (hK 3 _ rfl).1⟩
      · exact ⟨_, (hK 4 _ rfl).1⟩
      · exact ⟨_, (hK 5 _ rfl).1⟩
      · exact ⟨_, (hK 6 _ rfl).1⟩
      · exact ⟨_, (hK 7 _ rfl).1⟩
    obtain ⟨ty, hty⟩ := hty
    exact W.alen hc.1 hc.2.1 hb0 (hty _ _) (by rw [arrV_size]) rfl rfl hd ((kk _ μ w μ' h2).2 p e s m args below meth c x0 s0 H locs ls hc g1 g2 hS hD hl)
theorem ok_lI {α : Type} {Γ : Gam} {y : Mth} {d : Nat} {rv : Rv α} {pc : Nat} {lv : List (Nat × Value)} {st : List Value} {F : Int32 → M α} {r : Option Nat} {i : Int32} {kd : Nat} (hk : 64 ≤ kd) (hj : kd % 8 = 0) (hd : decode y.2.1 pc = .ok (.iaload, 1)) (kk : ∀ x : Int32, Ok Γ y d rv (pc + 1) lv (.int x :: st) (F x)) : Ok Γ y d rv pc lv (.int i :: va_rf r :: st) (bn (lI kd r i) F) := by
  intro μ w μ' h
  obtain ⟨u, μ1, h1, h2⟩ := bn_some h
  obtain ⟨a, μ2, h3, h4⟩ := bn_some h1
  obtain ⟨a', rfl, hK, e⟩ := pArr_some h3
  cases e
  by_cases hin : ¬ (i < 0 ∨ mN μ a ≤ i.toNatClampNeg)
  case neg => simp only [if_neg hin] at h4; cases h4
  simp only [if_pos hin] at h4
  cases h4
  refine ⟨(kk _ μ w μ' h2).1, ?_⟩
  intro p e s m args below meth c x0 s0 H locs ls hc g1 g2 hS hD hl
  have hcell := wd_arr hD hk hK
  rw [hj] at hcell
  have hA := (hc.2.2.2.2.2.2.2.2.1.1.2 0 _ rfl).1
  have hev : ev μ a i.toNatClampNeg = .int (aI μ kd a i.toNatClampNeg) := by simp [ev, hK, hj]
  refine W.iald (v := .int (aI μ kd a i.toNatClampNeg)) hc.1 hc.2.1 hcell (hA _ _)  (fun q => by cases q) (by rw [arrV_size]; exact hin) (by rw [arrV_read _ _ (Nat.not_le.mp fun q => hin (Or.inr q)), hev]) rfl rfl hd ((kk _ μ w μ' h2).2 p e s m args below meth c x0 s0 H locs ls hc g1 g2 hS hD hl)
theorem ok_lZ {α : Type} {Γ : Gam} {y : Mth} {d : Nat} {rv : Rv α} {pc : Nat} {lv : List (Nat × Value)} {st : List Value} {F : Int32 → M α} {r : Option Nat} {i : Int32} {kd : Nat} (hk : 64 ≤ kd) (hj : kd % 8 = 2) (hd : decode y.2.1 pc = .ok (.baload, 1)) (kk : ∀ x : Int32, Ok Γ y d rv (pc + 1) lv (.int x :: st) (F x)) : Ok Γ y d rv pc lv (.int i :: va_rf r :: st) (bn (lI kd r i) F) := by
  intro μ w μ' h
  obtain ⟨u, μ1, h1, h2⟩ := bn_some h
  obtain ⟨a, μ2, h3, h4⟩ := bn_some h1
  obtain ⟨a', rfl, hK, e⟩ := pArr_some h3
  cases e
  by_cases hin : ¬ (i < 0 ∨ mN μ a ≤ i.toNatClampNeg)
  case neg => simp only [if_neg hin] at h4; cases h4
  simp only [if_pos hin] at h4
  cases h4
  refine ⟨(kk _ μ w μ' h2).1, ?_⟩
  intro p e s m args below meth c x0 s0 H locs ls hc g1 g2 hS hD hl
  have hcell := wd_arr hD hk hK
  rw [hj] at hcell
  have hA := (hc.2.2.2.2.2.2.2.2.1.1.2 2 _ rfl).1
  have hev : ev μ a i.toNatClampNeg = .int (aI μ kd a i.toNatClampNeg) := by simp [ev, hK, hj]
  refine W.zald (v := .int (aI μ kd a i.toNatClampNeg)) hc.1 hc.2.1 hcell (hA _ _)  (fun q => by cases q) (by rw [arrV_size]; exact hin) (by rw [arrV_read _ _ (Nat.not_le.mp fun q => hin (Or.inr q)), hev]) rfl rfl hd ((kk _ μ w μ' h2).2 p e s m args below meth c x0 s0 H locs ls hc g1 g2 hS hD hl)
theorem ok_lC {α : Type} {Γ : Gam} {y : Mth} {d : Nat} {rv : Rv α} {pc : Nat} {lv : List (Nat × Value)} {st : List Value} {F : Int32 → M α} {r : Option Nat} {i : Int32} {kd : Nat} (hk : 64 ≤ kd) (hj : kd % 8 = 3) (hd : decode y.2.1 pc = .ok (.caload, 1)) (kk : ∀ x : Int32, Ok Γ y d rv (pc + 1) lv (.int x :: st) (F x)) : Ok Γ y d rv pc lv (.int i :: va_rf r :: st) (bn (lI kd r i) F) := by
  intro μ w μ' h
  obtain ⟨u, μ1, h1, h2⟩ := bn_some h
  obtain ⟨a, μ2, h3, h4⟩ := bn_some h1
  obtain ⟨a', rfl, hK, e⟩ := pArr_some h3
  cases e
  by_cases hin : ¬ (i < 0 ∨ mN μ a ≤ i.toNatClampNeg)
  case neg => simp only [if_neg hin] at h4; cases h4
  simp only [if_pos hin] at h4
  cases h4
  refine ⟨(kk _ μ w μ' h2).1, ?_⟩
  intro p e s m args below meth c x0 s0 H locs ls hc g1 g2 hS hD hl
  have hcell := wd_arr hD hk hK
  rw [hj] at hcell
  have hA := (hc.2.2.2.2.2.2.2.2.1.1.2 3 _ rfl).1
  have hev : ev μ a i.toNatClampNeg = .int (aI μ kd a i.toNatClampNeg) := by simp [ev, hK, hj]
  refine W.cald (v := .int (aI μ kd a i.toNatClampNeg)) hc.1 hc.2.1 hcell (hA _ _)  (fun q => by cases q) (by rw [arrV_size]; exact hin) (by rw [arrV_read _ _ (Nat.not_le.mp fun q => hin (Or.inr q)), hev]) rfl rfl hd ((kk _ μ w μ' h2).2 p e s m args below meth c x0 s0 H locs ls hc g1 g2 hS hD hl)
theorem ok_lL {α : Type} {Γ : Gam} {y : Mth} {d : Nat} {rv : Rv α} {pc : Nat} {lv : List (Nat × Value)} {st : List Value} {F : Int64 → M α} {r : Option Nat} {i : Int32} {kd : Nat} (hk : 64 ≤ kd) (hj : kd % 8 = 1) (hd : decode y.2.1 pc = .ok (.laload, 1)) (kk : ∀ x : Int64, Ok Γ y d rv (pc + 1) lv (.long x :: st) (F x)) : Ok Γ y d rv pc lv (.int i :: va_rf r :: st) (bn (lL kd r i) F) := by
  intro μ w μ' h
  obtain ⟨u, μ1, h1, h2⟩ := bn_some h
  obtain ⟨a, μ2, h3, h4⟩ := bn_some h1
  obtain ⟨a', rfl, hK, e⟩ := pArr_some h3
  cases e
  by_cases hin : ¬ (i < 0 ∨ mN μ a ≤ i.toNatClampNeg)
  case neg => simp only [if_neg hin] at h4; cases h4
  simp only [if_pos hin] at h4
  cases h4
  refine ⟨(kk _ μ w μ' h2).1, ?_⟩
  intro p e s m args below meth c x0 s0 H locs ls hc g1 g2 hS hD hl
  have hcell := wd_arr hD hk hK
  rw [hj] at hcell
  have hA := (hc.2.2.2.2.2.2.2.2.1.1.2 1 _ rfl).1
  have hev : ev μ a i.toNatClampNeg = .long (aL μ kd a i.toNatClampNeg) := by simp [ev, hK, hj]
  refine W.lald (v := .long (aL μ kd a i.toNatClampNeg)) hc.1 hc.2.1 hcell (hA _ _)  (fun q => by cases q) (by rw [arrV_size]; exact hin) (by rw [arrV_read _ _ (Nat.not_le.mp fun q => hin (Or.inr q)), hev]) rfl rfl hd ((kk _ μ w μ' h2).2 p e s m args below meth c x0 s0 H locs ls hc g1 g2 hS hD hl)
theorem ok_lP4 {α : Type} {Γ : Gam} {y : Mth} {d : Nat} {rv : Rv α} {pc : Nat} {lv : List (Nat × Value)} {st : List Value} {F : Option Nat → M α} {r : Option Nat} {i : Int32} {kd : Nat} (hk : 64 ≤ kd) (hj : kd % 8 = 4) (hd : decode y.2.1 pc = .ok (.aaload, 1)) (kk : ∀ x : Option Nat, Ok Γ y d rv (pc + 1) lv (va_rf x :: st) (F x)) : Ok Γ y d rv pc lv (.int i :: va_rf r :: st) (bn (lP kd r i) F) := by
  intro μ w μ' h
  obtain ⟨u, μ1, h1, h2⟩ := bn_some h
  obtain ⟨a, μ2, h3, h4⟩ := bn_some h1
  obtain ⟨a', rfl, hK, e⟩ := pArr_some h3
  cases e
  by_cases hin : ¬ (i < 0 ∨ mN μ a ≤ i.toNatClampNeg)
  case neg => simp only [if_neg hin] at h4; cases h4
  simp only [if_pos hin] at h4
  cases h4
  refine ⟨(kk _ μ w μ' h2).1, ?_⟩
  intro p e s m args below meth c x0 s0 H locs ls hc g1 g2 hS hD hl
  have hcell := wd_arr hD hk hK
  rw [hj] at hcell
  have hA := (hc.2.2.2.2.2.2.2.2.1.1.2 4 _ rfl).1
  have hev : ev μ a i.toNatClampNeg = va_rf (aP μ kd a i.toNatClampNeg) := by simp [ev, hK, hj]
  refine W.aald (v := va_rf (aP μ kd a i.toNatClampNeg)) hc.1 hc.2.1 hcell (hA _ _) rfl (fun q => by cases q) (by rw [arrV_size]; exact hin) (by rw [arrV_read _ _ (Nat.not_le.mp fun q => hin (Or.inr q)), hev]) rfl rfl hd ((kk _ μ w μ' h2).2 p e s m args below meth c x0 s0 H locs ls hc g1 g2 hS hD hl)
theorem ok_lP5 {α : Type} {Γ : Gam} {y : Mth} {d : Nat} {rv : Rv α} {pc : Nat} {lv : List (Nat × Value)} {st : List Value} {F : Option Nat → M α} {r : Option Nat} {i : Int32} {kd : Nat} (hk : 64 ≤ kd) (hj : kd % 8 = 5) (hd : decode y.2.1 pc = .ok (.aaload, 1)) (kk : ∀ x : Option Nat, Ok Γ y d rv (pc + 1) lv (va_rf x :: st) (F x)) : Ok Γ y d rv pc lv (.int i :: va_rf r :: st) (bn (lP kd r i) F) := by
  intro μ w μ' h
  obtain ⟨u, μ1, h1, h2⟩ := bn_some h
  obtain ⟨a, μ2, h3, h4⟩ := bn_some h1
  obtain ⟨a', rfl, hK, e⟩ := pArr_some h3
  cases e
  by_cases hin : ¬ (i < 0 ∨ mN μ a ≤ i.toNatClampNeg)
  case neg => simp only [if_neg hin] at h4; cases h4
  simp only [if_pos hin] at h4
  cases h4
  refine ⟨(kk _ μ w μ' h2).1, ?_⟩
  intro p e s m args below meth c x0 s0 H locs ls hc g1 g2 hS hD hl
  have hcell := wd_arr hD hk hK
  rw [hj] at hcell
  have hA := (hc.2.2.2.2.2.2.2.2.1.1.2 5 _ rfl).1
  have hev : ev μ a i.toNatClampNeg = va_rf (aP μ kd a i.toNatClampNeg) := by simp [ev, hK, hj]
  refine W.aald (v := va_rf (aP μ kd a i.toNatClampNeg)) hc.1 hc.2.1 hcell (hA _ _) rfl (fun q => by cases q) (by rw [arrV_size]; exact hin) (by rw [arrV_read _ _ (Nat.not_le.mp fun q => hin (Or.inr q)), hev]) rfl rfl hd ((kk _ μ w μ' h2).2 p e s m args below meth c x0 s0 H locs ls hc g1 g2 hS hD hl)
theorem ok_lP6 {α : Type} {Γ : Gam} {y : Mth} {d : Nat} {rv : Rv α} {pc : Nat} {lv : List (Nat × Value)} {st : List Value} {F : Option Nat → M α} {r : Option Nat} {i : Int32} {kd : Nat} (hk : 64 ≤ kd) (hj : kd % 8 = 6) (hd : decode y.2.1 pc = .ok (.aaload, 1)) (kk : ∀ x : Option Nat, Ok Γ y d rv (pc + 1) lv (va_rf x :: st) (F x)) : Ok Γ y d rv pc lv (.int i :: va_rf r :: st) (bn (lP kd r i) F) := by
  intro μ w μ' h
  obtain ⟨u, μ1, h1, h2⟩ := bn_some h
  obtain ⟨a, μ2, h3, h4⟩ := bn_some h1
  obtain ⟨a', rfl, hK, e⟩ := pArr_some h3
  cases e
  by_cases hin : ¬ (i < 0 ∨ mN μ a ≤ i.toNatClampNeg)
  case neg => simp only [if_neg hin] at h4; cases h4
  simp only [if_pos hin] at h4
  cases h4
  refine ⟨(kk _ μ w μ' h2).1, ?_⟩
  intro p e s m args below meth c x0 s0 H locs ls hc g1 g2 hS hD hl
  have hcell := wd_arr hD hk hK
  rw [hj] at hcell
  have hA := (hc.2.2.2.2.2.2.2.2.1.1.2 6 _ rfl).1
  have hev : ev μ a i.toNatClampNeg = va_rf (aP μ kd a i.toNatClampNeg) := by simp [ev, hK, hj]
  refine W.aald (v := va_rf (aP μ kd a i.toNatClampNeg)) hc.1 hc.2.1 hcell (hA _ _) rfl (fun q => by cases q) (by rw [arrV_size]; exact hin) (by rw [arrV_read _ _ (Nat.not_le.mp fun q => hin (Or.inr q)), hev]) rfl rfl hd ((kk _ μ w μ' h2).2 p e s m args below meth c x0 s0 H locs ls hc g1 g2 hS hD hl)
theorem ok_stI {α : Type} {Γ : Gam} {y : Mth} {d : Nat} {rv : Rv α} {pc : Nat} {lv : List (Nat × Value)} {st : List Value} {F : M α} {r : Option Nat} {i : Int32} {x : Int32} {kd : Nat} (hk : 64 ≤ kd) (hj : kd % 8 = 0) (hd : decode y.2.1 pc = .ok (.iastore, 1)) (kk : Ok Γ y d rv (pc + 1) lv st F) : Ok Γ y d rv pc lv (.int x :: .int i :: va_rf r :: st) (bn (stI kd r i x) fun _ => F) := by
  intro μ w μ' h
  obtain ⟨u, μ1, h1, h2⟩ := bn_some h
  obtain ⟨a, μ2, h3, h4⟩ := bn_some h1
  obtain ⟨a', rfl, hK, e⟩ := pArr_some h3
  cases e
  by_cases hin : ¬ (i < 0 ∨ mN μ a ≤ i.toNatClampNeg)
  case neg => simp only [if_neg hin] at h4; cases h4
  simp only [if_pos hin] at h4
  cases h4
  refine ⟨(kk _ w μ' h2).1, ?_⟩
  intro p e s m args below meth c x0 s0 H locs ls hc g1 g2 hS hD hl
  have hcell := wd_arr hD hk hK
  rw [hj] at hcell
  have hA := (hc.2.2.2.2.2.2.2.2.1.1.2 0 _ rfl).1
  refine W.iast hc.1 hc.2.1 hcell (hA _ _) (fun q => by cases q) (by rw [arrV_size]; exact hin) rfl rfl hd fun H' e1 e2 e3 => ?_
  have hD' : Wd Γ (tI μ kd a i.toNatClampNeg x) H' := by
    refine wd_aput hD hk hK ?_ e2 e3 rfl rfl rfl rfl rfl (fun b hb => ?_)
    · rw [e1, arrV_store, hj]
      congr 2
      funext q
      by_cases hq : q = i.toNatClampNeg
      · subst hq
        simp [updV, ev, hK, hj, mK_tI, aI_tI, aL_tI, aP_tI, up3_eq]
      · have hz : ∀ {β : Type} (m : Nat → Nat → Nat → β) (v : β), up3 m kd a i.toNatClampNeg v kd a q = m kd a q := fun m v => up3_ne (Or.inr hq)
        simp [updV, hq, ev, hK, hj, mK_tI, aI_tI, aL_tI, aP_tI, hz]
    · funext q
      have hz : ∀ {β : Type} (m : Nat → Nat → Nat → β) (v : β) (g : Nat), up3 m kd a i.toNatClampNeg v g b q = m g b q := fun m v g => up3_ne (Or.inl hb)
      simp only [ev, mK_tI, aI_tI, aL_tI, aP_tI, hz]
  exact (kk _ w μ' h2).2 p e s m args below meth c x0 s0 H' _ ls hc g1 g2 (hS.put e2 e3 (arr_base hD hk (by omega) hK)) hD' hl
theorem ok_stZ {α : Type} {Γ : Gam} {y : Mth} {d : Nat} {rv : Rv α} {pc : Nat} {lv : List (Nat × Value)} {st : List Value} {F : M α} {r : Option Nat} {i : Int32} {x : Int32} {kd : Nat} (hk : 64 ≤ kd) (hj : kd % 8 = 2) (hd : decode y.2.1 pc = .ok (.bastore, 1)) (kk : Ok Γ y d rv (pc + 1) lv st F) : Ok Γ y d rv pc lv (.int x :: .int i :: va_rf r :: st) (bn (stZ kd r i x) fun _ => F) := by
  intro μ w μ' h
  obtain ⟨u, μ1, h1, h2⟩ := bn_some h
  obtain ⟨a, μ2, h3, h4⟩ := bn_some h1
  obtain ⟨a', rfl, hK, e⟩ := pArr_some h3
  cases e
  by_cases hin : ¬ (i < 0 ∨ mN μ a ≤ i.toNatClampNeg) ∧ vp_nar .boolean x = x
  case neg => simp only [if_neg hin] at h4; cases h4
  simp only [if_pos hin] at h4
  cases h4
  refine ⟨(kk _ w μ' h2).1, ?_⟩
  intro p e s m args below meth c x0 s0 H locs ls hc g1 g2 hS hD hl
  have hcell := wd_arr hD hk hK
  rw [hj] at hcell
  have hA := (hc.2.2.2.2.2.2.2.2.1.1.2 2 _ rfl).1
  refine W.zast hc.1 hc.2.1 hcell (hA _ _) (fun q => by cases q) (by rw [arrV_size]; exact hin.1) rfl rfl hd fun H' e1 e2 e3 => ?_
  have hD' : Wd Γ (tI μ kd a i.toNatClampNeg x) H' := by
    rw [show narrow .boolean (.int x) = .int x from by have z := hin.2; unfold vp_nar at z; simp only [narrow] at z ⊢; rw [z]] at e1
    refine wd_aput hD hk hK ?_ e2 e3 rfl rfl rfl rfl rfl (fun b hb => ?_)
    · rw [e1, arrV_store, hj]
      congr 2
      funext q
      by_cases hq : q = i.toNatClampNeg
      · subst hq
        simp [updV, ev, hK, hj, mK_tI, aI_tI, aL_tI, aP_tI, up3_eq]
      · have hz : ∀ {β : Type} (m : Nat → Nat → Nat → β) (v : β), up3 m kd a i.toNatClampNeg v kd a q = m kd a q := fun m v => up3_ne (Or.inr hq)
        simp [updV, hq, ev, hK, hj, mK_tI, aI_tI, aL_tI, aP_tI, hz]
    · funext q
      have hz : ∀ {β : Type} (m : Nat → Nat → Nat → β) (v : β) (g : Nat), up3 m kd a i.toNatClampNeg v g b q = m g b q := fun m v g => up3_ne (Or.inl hb)
      simp only [ev, mK_tI, aI_tI, aL_tI, aP_tI, hz]
  exact (kk _ w μ' h2).2 p e s m args below meth c x0 s0 H' _ ls hc g1 g2 (hS.put e2 e3 (arr_base hD hk (by omega) hK)) hD' hl
theorem ok_stC {α : Type} {Γ : Gam} {y : Mth} {d : Nat} {rv : Rv α} {pc : Nat} {lv : List (Nat × Value)} {st : List Value} {F : M α} {r : Option Nat} {i : Int32} {x : Int32} {kd : Nat} (hk : 64 ≤ kd) (hj : kd % 8 = 3) (hd : decode y.2.1 pc = .ok (.castore, 1)) (kk : Ok Γ y d rv (pc + 1) lv st F) : Ok Γ y d rv pc lv (.int x :: .int i :: va_rf r :: st) (bn (stC kd r i x) fun _ => F) := by
  intro μ w μ' h
  obtain ⟨u, μ1, h1, h2⟩ := bn_some h
  obtain ⟨a, μ2, h3, h4⟩ := bn_some h1
  obtain ⟨a', rfl, hK, e⟩ := pArr_some h3
  cases e
  by_cases hin : ¬ (i < 0 ∨ mN μ a ≤ i.toNatClampNeg) ∧ vp_nar .char x = x
  case neg => simp only [if_neg hin] at h4; cases h4
  simp only [if_pos hin] at h4
  cases h4
  refine ⟨(kk _ w μ' h2).1, ?_⟩
  intro p e s m args below meth c x0 s0 H locs ls hc g1 g2 hS hD hl
  have hcell := wd_arr hD hk hK
  rw [hj] at hcell
  have hA := (hc.2.2.2.2.2.2.2.2.1.1.2 3 _ rfl).1
  refine W.cast hc.1 hc.2.1 hcell (hA _ _) (fun q => by cases q) (by rw [arrV_size]; exact hin.1) rfl rfl hd fun H' e1 e2 e3 => ?_
  have hD' : Wd Γ (tI μ kd a i.toNatClampNeg x) H' := by
    rw [show narrow .char (.int x) = .int x from by have z := hin.2; unfold vp_nar at z; simp only [narrow] at z ⊢; rw [z]] at e1
    refine wd_aput hD hk hK ?_ e2 e3 rfl rfl rfl rfl rfl (fun b hb => ?_)
    · rw [e1, arrV_store, hj]
      congr 2
      funext q
      by_cases hq : q = i.toNatClampNeg
      · subst hq
        simp [updV, ev, hK, hj, mK_tI, aI_tI, aL_tI, aP_tI, up3_eq]
      · have hz : ∀ {β : Type} (m : Nat → Nat → Nat → β) (v : β), up3 m kd a i.toNatClampNeg v kd a q = m kd a q := fun m v => up3_ne (Or.inr hq)
        simp [updV, hq, ev, hK, hj, mK_tI, aI_tI, aL_tI, aP_tI, hz]
    · funext q
      have hz : ∀ {β : Type} (m : Nat → Nat → Nat → β) (v : β) (g : Nat), up3 m kd a i.toNatClampNeg v g b q = m g b q := fun m v g => up3_ne (Or.inl hb)
      simp only [ev, mK_tI, aI_tI, aL_tI, aP_tI, hz]
  exact (kk _ w μ' h2).2 p e s m args below meth c x0 s0 H' _ ls hc g1 g2 (hS.put e2 e3 (arr_base hD hk (by omega) hK)) hD' hl
theorem ok_stL {α : Type} {Γ : Gam} {y : Mth} {d : Nat} {rv : Rv α} {pc : Nat} {lv : List (Nat × Value)} {st : List Value} {F : M α} {r : Option Nat} {i : Int32} {x : Int64} {kd : Nat} (hk : 64 ≤ kd) (hj : kd % 8 = 1) (hd : decode y.2.1 pc = .ok (.lastore, 1)) (kk : Ok Γ y d rv (pc + 1) lv st F) : Ok Γ y d rv pc lv (.long x :: .int i :: va_rf r :: st) (bn (stL kd r i x) fun _ => F) := by
  intro μ w μ' h
  obtain ⟨u, μ1, h1, h2⟩ := bn_some h
  obtain ⟨a, μ2, h3, h4⟩ := bn_some h1
  obtain ⟨a', rfl, hK, e⟩ := pArr_some h3
  cases e
  by_cases hin : ¬ (i < 0 ∨ mN μ a ≤ i.toNatClampNeg)
  case neg => simp only [if_neg hin] at h4; cases h4
  simp only [if_pos hin] at h4
  cases h4
  refine ⟨(kk _ w μ' h2).1, ?_⟩
  intro p e s m args below meth c x0 s0 H locs ls hc g1 g2 hS hD hl
  have hcell := wd_arr hD hk hK
  rw [hj] at hcell
  have hA := (hc.2.2.2.2.2.2.2.2.1.1.2 1 _ rfl).1
  refine W.last hc.1 hc.2.1 hcell (hA _ _) (fun q => by cases q) (by rw [arrV_size]; exact hin) rfl rfl hd fun H' e1 e2 e3 => ?_
  have hD' : Wd Γ (tL μ kd a i.toNatClampNeg x) H' := by
    refine wd_aput hD hk hK ?_ e2 e3 rfl rfl rfl rfl rfl (fun b hb => ?_)
    · rw [e1, arrV_store, hj]
      congr 2
      funext q
      by_cases hq : q = i.toNatClampNeg
      · subst hq
        simp [updV, ev, hK, hj, mK_tL, aI_tL, aL_tL, aP_tL, up3_eq]
      · have hz : ∀ {β : Type} (m : Nat → Nat → Nat → β) (v : β), up3 m kd a i.toNatClampNeg v kd a q = m kd a q := fun m v => up3_ne (Or.inr hq)
        simp [updV, hq, ev, hK, hj, mK_tL, aI_tL, aL_tL, aP_tL, hz]
    · funext q
      have hz : ∀ {β : Type} (m : Nat → Nat → Nat → β) (v : β) (g : Nat), up3 m kd a i.toNatClampNeg v g b q = m g b q := fun m v g => up3_ne (Or.inl hb)
      simp only [ev, mK_tL, aI_tL, aL_tL, aP_tL, hz]
      rfl
  exact (kk _ w μ' h2).2 p e s m args below meth c x0 s0 H' _ ls hc g1 g2 (hS.put e2 e3 (arr_base hD hk (by omega) hK)) hD' hl
end
section
theorem cat_rf (r : Option Nat) : (va_rf r).category = 1 := by cases r <;> rfl
theorem cat_sum (st : List Value) : (st.map fun v => v.category).sum ≤ 2 * st.length := by
  induction st with
  | nil => exact Nat.le_refl _
  | cons v r ih =>
    have h : v.category ≤ 2 := by cases v <;> simp [Value.category]
    simp only [List.map_cons, List.sum_cons, List.length_cons]
    omega
def dvf (c k : Nat) : Value := if fty c k = 1 then .long 0 else if fty c k = 2 then .null else .int 0
/-- a cell more: the world behind it -/
theorem wd_new {Γ : Gam} {μ μ' : Mem} {H H' : Heap} (hD : Wd Γ μ H) (e2 : H'.size = H.size + 1) (e3 : ∀ q, q < H.size → H'[q]? = H[q]?) (hb : gB Γ ≤ H.size) (hfresh : mK μ (mX μ) = 0 ∨ True)
    (m1 : ∀ b, b ≠ mX μ → mK μ' b = mK μ b) (m2 : ∀ b, b ≠ mX μ → mN μ' b = mN μ b) (m3 : mX μ' = mX μ + 1) (m5 : mT μ' = mT μ) (hf : ∀ c b j, b ≠ mX μ → fv μ' c b j = fv μ c b j) (he : ∀ b, b ≠ mX μ → ev μ' b = ev μ b) (hn : atC Γ μ' (mX μ) H') : Wd Γ μ' H' := by
  refine ⟨by rw [e2, m3, hD.1], m5.trans hD.2.1, fun b hbk => ?_⟩
  by_cases hbx : b = mX μ
  · subst hbx
    exact ⟨⟨by rw [e2, hD.1]; exact Nat.lt_succ_self _, hn⟩, fun _ => by rw [← hD.1]; exact hb⟩
  · rw [m1 b hbx] at hbk ⊢
    obtain ⟨⟨hlt, hat⟩, hbase⟩ := hD.2.2 b hbk
    refine ⟨⟨by omega, fun c q hc hq => ?_, fun h => ?_⟩, hbase⟩
    · rw [m1 b hbx] at hc
      exact ((hat.1 c q hc hq).kept (e3 b hlt)).to (fun j _ => (hf c b j hbx).symm)
    · rw [m1 b hbx] at h ⊢
      rw [e3 b hlt, m2 b hbx, he b hbx]
      exact hat.2 h
theorem vs_grow {A : Nat → Prop} {H0 H H1 : Heap} {locs : List Loc} (h : va_S A H0 H locs) (z : H1.size = H.size + 1) (oq : ∀ q, q < H.size → H1[q]? = H[q]?) : va_S A H0 H1 locs := ⟨Nat.le_trans h.1 (by omega), fun q h1 h2 => (oq q (Nat.lt_of_lt_of_le h1 h.1)).trans (h.2.1 q h1 h2), h.2.2⟩
theorem ok_newO {α : Type} {Γ : Gam} {y : Mth} {d : Nat} {rv : Rv α} {pc : Nat} {lv : List (Nat × Value)} {st : List Value} {F : Option Nat → M α} {idx cn : Nat} {C : String} {T : u_T} {N : Nat} (hF : CF cn C T N) (ty : Nat → FieldType) (hty : ∀ k, k < N → parseFieldDescriptor (T k).2.2.1 = some (ty k)) (hdf : ∀ k, k < N → defaultValue (ty k) = dvf cn k)
    (w1 : Cond.classLink y.1.cls idx C ∈ lw_g) (w2 : Cond.instantiable C N ∈ lw_g) (w3 : Cond.initialized C ∈ lw_g) (hd : decode y.2.1 pc = .ok (.new idx, 3)) (kk : ∀ r : Option Nat, Ok Γ y d rv (pc + 3) lv (va_rf r :: st) (F r)) : Ok Γ y d rv pc lv st (bn (newO cn N) F) := by
  intro μ w μ' h
  obtain ⟨u, μ1, h1, h2⟩ := bn_some h
  cases h1
  have hm := (kk _ _ w μ' h2).1
  rw [mX_nO, mS_nO] at hm
  refine ⟨⟨by omega, by omega⟩, ?_⟩
  intro p e s m args below meth c x0 s0 H locs ls hc g1 g2 hS hD hl
  have hts := hc.2.2.2.2.2.1
  have hKn := hc.2.2.2.2.2.2.2.2.1.1.1 cn _ hF.1
  refine W.newcK hc.1 hc.2.1 hc.2.2.2.2.1 (hts _ w1) (hts _ w2) (hts _ w3) rfl hd (by show _ ≤ mX μ' - x0; omega) (by show _ ≤ mS μ' - s0; omega) hKn.2.1 hD.1 fun H' kC hkC e1 e2 e3 => ?_
  have hlen : cn < 14 := by
    have hl : cn < vcl.length := (List.getElem?_eq_some_iff.mp hF.1).1
    exact hl
  have hD' : Wd Γ (nO cn N μ) H' := by
    refine wd_new hD (by rw [e2, hD.1]) (fun q hq => e3 q (by rw [← hD.1]; exact hq)) (Nat.le_trans hc.2.2.2.2.2.2.2.2.2.2.1 hS.1) (Or.inr trivial) (fun b hb => by simp [mK_nO, hb]) (fun b hb => rfl) rfl rfl (fun c b j hb => ?_) (fun b hb => ?_) ⟨fun c q hcq hq => ?_, fun h64 => ?_⟩
    · simp [fv, mI_nO, mL_nO, mP_nO, hb]
    · funext q
      simp [ev, mK_nO, aI_nO, aL_nO, aP_nO, hb]
    · simp only [mK_nO, if_pos] at hcq
      have hcc : cn = c := Nat.succ.inj hcq
      subst hcc
      rw [hF.1] at hq
      cases hq
      refine (u_born ty hts hF.2.1 hKn hkC e1 hty).to (fun k hk => ?_)
      rw [hdf k hk]
      simp [dvf, fv, mI_nO, mL_nO, mP_nO, va_rf]
    · simp only [mK_nO, if_pos] at h64
      omega
  have hW := (kk _ _ w μ' h2).2 p e s m args below meth c x0 s0 H' locs ls hc (by rw [mX_nO]; omega) (by rw [mS_nO]; omega) (vs_grow hS (by rw [e2, hD.1]) (fun q hq => e3 q (by rw [← hD.1]; exact hq))) hD' hl
  rw [mX_nO, mS_nO, show mX μ + 1 - x0 = mX μ - x0 + 1 by omega, show mS μ + N - s0 = mS μ - s0 + N by omega] at hW
  exact hW
theorem ok_newAI {α : Type} {Γ : Gam} {y : Mth} {d : Nat} {rv : Rv α} {pc : Nat} {lv : List (Nat × Value)} {st : List Value} {F : Option Nat → M α} {n : Int32} {kd : Nat} (hk : 64 ≤ kd) (hj : kd % 8 = 0) (w1 : Cond.arrayClass .int ∈ lw_g) (hd : decode y.2.1 pc = .ok (.newarray .int, 2)) (kk : ∀ r : Option Nat, Ok Γ y d rv (pc + 2) lv (va_rf r :: st) (F r)) : Ok Γ y d rv pc lv (.int n :: st) (bn (newA kd n) F) := by
  intro μ w μ' h
  obtain ⟨u, μ1, h1, h2⟩ := bn_some h
  unfold newA at h1
  by_cases hn : ¬ n < 0 ∧ n.toNatClampNeg ≤ 1000000
  case neg => rw [if_neg hn] at h1; cases h1
  rw [if_pos hn] at h1
  cases h1
  have hm := (kk _ _ w μ' h2).1
  rw [mX_nA, mS_nA] at hm
  refine ⟨⟨by omega, by omega⟩, ?_⟩
  intro p e s m args below meth c x0 s0 H locs ls hc g1 g2 hS hD hl
  have hts := hc.2.2.2.2.2.1
  refine va_newaK hc.1 hc.2.1 (atype := .int) (hts _ w1) rfl hd rfl hn.1 rfl (by show n.toNatClampNeg * 4 ≤ 536870912; omega) (by show _ ≤ mX μ' - x0; omega) (by show _ ≤ mS μ' - s0; omega) hD.1 fun H' cA e1 e2 e3 hAr hNm => ?_
  have hcA : cA = gA Γ 0 := Option.some.inj (hNm.symm.trans (hc.2.2.2.2.2.2.2.2.1.1.2 0 _ rfl).2)
  have hD' : Wd Γ (nA kd n.toNatClampNeg μ) H' := by
    refine wd_new hD (by rw [e2, hD.1]) (fun q hq => e3 q (by rw [← hD.1]; exact hq)) (Nat.le_trans hc.2.2.2.2.2.2.2.2.2.2.1 hS.1) (Or.inr trivial) (fun b hb => by simp [mK_nA, hb]) (fun b hb => by simp [mN_nA, hb]) rfl rfl (fun c b j hb => rfl) (fun b hb => ?_) ⟨fun c q hcq hq => ?_, fun h64 => ?_⟩
    · funext q
      simp [ev, mK_nA, aI_nA, aL_nA, aP_nA, hb]
    · simp only [mK_nA, if_pos] at hcq
      have hl : c < vcl.length := (List.getElem?_eq_some_iff.mp hq).1
      have h14 : vcl.length = 14 := rfl
      omega
    · rw [e1, hcA]
      simp only [mK_nA, mN_nA, if_pos, hj]
      congr 2
      funext q
      simp [ev, mK_nA, aI_nA, aL_nA, aP_nA, hj, newarray.typeOf, defaultValue]
  have hW := (kk _ _ w μ' h2).2 p e s m args below meth c x0 s0 H' locs ls hc (by rw [mX_nA]; omega) (by rw [mS_nA]; omega) (vs_grow hS (by rw [e2, hD.1]) (fun q hq => e3 q (by rw [← hD.1]; exact hq))) hD' hl
  rw [mX_nA, mS_nA, show mX μ + 1 - x0 = mX μ - x0 + 1 by omega, show mS μ + n.toNatClampNeg - s0 = mS μ - s0 + n.toNatClampNeg by omega] at hW
  exact hW
theorem ok_newAL {α : Type} {Γ : Gam} {y : Mth} {d : Nat} {rv : Rv α} {pc : Nat} {lv : List (Nat × Value)} {st : List Value} {F : Option Nat → M α} {n : Int32} {kd : Nat} (hk : 64 ≤ kd) (hj : kd % 8 = 1) (w1 : Cond.arrayClass .long ∈ lw_g) (hd : decode y.2.1 pc = .ok (.newarray .long, 2)) (kk : ∀ r : Option Nat, Ok Γ y d rv (pc + 2) lv (va_rf r :: st) (F r)) : Ok Γ y d rv pc lv (.int n :: st) (bn (newA kd n) F) := by
  intro μ w μ' h
  obtain ⟨u, μ1, h1, h2⟩ := bn_some h
  unfold newA at h1
  by_cases hn : ¬ n < 0 ∧ n.toNatClampNeg ≤ 1000000
  case neg => rw [if_neg hn] at h1; cases h1
  rw [if_pos hn] at h1
  cases h1
  have hm := (kk _ _ w μ' h2).1
  rw [mX_nA, mS_nA] at hm
  refine ⟨⟨by omega, by omega⟩, ?_⟩
  intro p e s m args below meth c x0 s0 H locs ls hc g1 g2 hS hD hl
  have hts := hc.2.2.2.2.2.1
  refine va_newaK hc.1 hc.2.1 (atype := .long) (hts _ w1) rfl hd rfl hn.1 rfl (by show n.toNatClampNeg * 8 ≤ 536870912; omega) (by show _ ≤ mX μ' - x0; omega) (by show _ ≤ mS μ' - s0; omega) hD.1 fun H' cA e1 e2 e3 hAr hNm => ?_
  have hcA : cA = gA Γ 1 := Option.some.inj (hNm.symm.trans (hc.2.2.2.2.2.2.2.2.1.1.2 1 _ rfl).2)
  have hD' : Wd Γ (nA kd n.toNatClampNeg μ) H' := by
    refine wd_new hD (by rw [e2, hD.1]) (fun q hq => e3 q (by rw [← hD.1]; exact hq)) (Nat.le_trans hc.2.2.2.2.2.2.2.2.2.2.1 hS.1) (Or.inr trivial) (fun b hb => by simp [mK_nA, hb]) (fun b hb => by simp [mN_nA, hb]) rfl rfl (fun c b j hb => rfl) (fun b hb => ?_) ⟨fun c q hcq hq => ?_, fun h64 => ?_⟩
    · funext q
      simp [ev, mK_nA, aI_nA, aL_nA, aP_nA, hb]
    · simp only [mK_nA, if_pos] at hcq
      have hl : c < vcl.length := (List.getElem?_eq_some_iff.mp hq).1
      have h14 : vcl.length = 14 := rfl
      omega
    · rw [e1, hcA]
      simp only [mK_nA, mN_nA, if_pos, hj]
      congr 2
      funext q
      simp [ev, mK_nA, aI_nA, aL_nA, aP_nA, hj, newarray.typeOf, defaultValue]
  have hW := (kk _ _ w μ' h2).2 p e s m args below meth c x0 s0 H' locs ls hc (by rw [mX_nA]; omega) (by rw [mS_nA]; omega) (vs_grow hS (by rw [e2, hD.1]) (fun q hq => e3 q (by rw [← hD.1]; exact hq))) hD' hl
  rw [mX_nA, mS_nA, show mX μ + 1 - x0 = mX μ - x0 + 1 by omega, show mS μ + n.toNatClampNeg - s0 = mS μ - s0 + n.toNatClampNeg by omega] at hW
  exact hW
theorem ok_newAZ {α : Type} {Γ : Gam} {y : Mth} {d : Nat} {rv : Rv α} {pc : Nat} {lv : List (Nat × Value)} {st : List Value} {F : Option Nat → M α} {n : Int32} {kd : Nat} (hk : 64 ≤ kd) (hj : kd % 8 = 2) (w1 : Cond.arrayClass .boolean ∈ lw_g) (hd : decode y.2.1 pc = .ok (.newarray .boolean, 2)) (kk : ∀ r : Option Nat, Ok Γ y d rv (pc + 2) lv (va_rf r :: st) (F r)) : Ok Γ y d rv pc lv (.int n :: st) (bn (newA kd n) F) := by
  intro μ w μ' h
  obtain ⟨u, μ1, h1, h2⟩ := bn_some h
  unfold newA at h1
  by_cases hn : ¬ n < 0 ∧ n.toNatClampNeg ≤ 1000000
  case neg => rw [if_neg hn] at h1; cases h1
  rw [if_pos hn] at h1
  cases h1
  have hm := (kk _ _ w μ' h2).1
  rw [mX_nA, mS_nA] at hm
  refine ⟨⟨by omega, by omega⟩, ?_⟩
  intro p e s m args below meth c x0 s0 H locs ls hc g1 g2 hS hD hl
  have hts := hc.2.2.2.2.2.1
  refine va_newaK hc.1 hc.2.1 (atype := .boolean) (hts _ w1) rfl hd rfl hn.1 rfl (by show n.toNatClampNeg * 1 ≤ 536870912; omega) (by show _ ≤ mX μ' - x0; omega) (by show _ ≤ mS μ' - s0; omega) hD.1 fun H' cA e1 e2 e3 hAr hNm => ?_
  have hcA : cA = gA Γ 2 := Option.some.inj (hNm.symm.trans (hc.2.2.2.2.2.2.2.2.1.1.2 2 _ rfl).2)
  have hD' : Wd Γ (nA kd n.toNatClampNeg μ) H' := by
    refine wd_new hD (by rw [e2, hD.1]) (fun q hq => e3 q (by rw [← hD.1]; exact hq)) (Nat.le_trans hc.2.2.2.2.2.2.2.2.2.2.1 hS.1) (Or.inr trivial) (fun b hb => by simp [mK_nA, hb]) (fun b hb => by simp [mN_nA, hb]) rfl rfl (fun c b j hb => rfl) (fun b hb => ?_) ⟨fun c q hcq hq => ?_, fun h64 => ?_⟩
    · funext q
      simp [ev, mK_nA, aI_nA, aL_nA, aP_nA, hb]
    · simp only [mK_nA, if_pos] at hcq
      have hl : c < vcl.length := (List.getElem?_eq_some_iff.mp hq).1
      have h14 : vcl.length = 14 := rfl
      omega
    · rw [e1, hcA]
      simp only [mK_nA, mN_nA, if_pos, hj]
      congr 2
      funext q
      simp [ev, mK_nA, aI_nA, aL_nA, aP_nA, hj, newarray.typeOf, defaultValue]
  have hW := (kk _ _ w μ' h2).2 p e s m args below meth c x0 s0 H' locs ls hc (by rw [mX_nA]; omega) (by rw [mS_nA]; omega) (vs_grow hS (by rw [e2, hD.1]) (fun q hq => e3 q (by rw [← hD.1]; exact hq))) hD' hl
  rw [mX_nA, mS_nA, show mX μ + 1 - x0 = mX μ - x0 + 1 by omega, show mS μ + n.toNatClampNeg - s0 = mS μ - s0 + n.toNatClampNeg by omega] at hW
  exact hW
theorem ok_newAC {α : Type} {Γ : Gam} {y : Mth} {d : Nat} {rv : Rv α} {pc : Nat} {lv : List (Nat × Value)} {st : List Value} {F : Option Nat → M α} {n : Int32} {kd : Nat} (hk : 64 ≤ kd) (hj : kd % 8 = 3) (w1 : Cond.arrayClass .char ∈ lw_g) (hd : decode y.2.1 pc = .ok (.newarray .char, 2)) (kk : ∀ r : Option Nat, Ok Γ y d rv (pc + 2) lv (va_rf r :: st) (F r)) : Ok Γ y d rv pc lv (.int n :: st) (bn (newA kd n) F) := by
  intro μ w μ' h
  obtain ⟨u, μ1, h1, h2⟩ := bn_some h
  unfold newA at h1
  by_cases hn : ¬ n < 0 ∧ n.toNatClampNeg ≤ 1000000
  case neg => rw [if_neg hn] at h1; cases h1
  rw [if_pos hn] at h1
  cases h1
  have hm := (kk _ _ w μ' h2).1
  rw [mX_nA, mS_nA] at hm
  refine ⟨⟨by omega, by omega⟩, ?_⟩
  intro p e s m args below meth c x0 s0 H locs ls hc g1 g2 hS hD hl
  have hts := hc.2.2.2.2.2.1
  refine va_newaK hc.1 hc.2.1 (atype := .char) (hts _ w1) rfl hd rfl hn.1 rfl (by show n.toNatClampNeg * 2 ≤ 536870912; omega) (by show _ ≤ mX μ' - x0; omega) (by show _ ≤ mS μ' - s0; omega) hD.1 fun H' cA e1 e2 e3 hAr hNm => ?_
  have hcA : cA = gA Γ 3 := Option.some.inj (hNm.symm.trans (hc.2.2.2.2.2.2.2.2.1.1.2 3 _ rfl).2)
  have hD' : Wd Γ (nA kd n.toNatClampNeg μ) H' := by
    refine wd_new hD (by rw [e2, hD.1]) (fun q hq => e3 q (by rw [← hD.1]; exact hq)) (Nat.le_trans hc.2.2.2.2.2.2.2.2.2.2.1 hS.1) (Or.inr trivial) (fun b hb => by simp [mK_nA, hb]) (fun b hb => by simp [mN_nA, hb]) rfl rfl (fun c b j hb => rfl) (fun b hb => ?_) ⟨fun c q hcq hq => ?_, fun h64 => ?_⟩
    · funext q
      simp [ev, mK_nA, aI_nA, aL_nA, aP_nA, hb]
    · simp only [mK_nA, if_pos] at hcq
      have hl : c < vcl.length := (List.getElem?_eq_some_iff.mp hq).1
      have h14 : vcl.length = 14 := rfl
      omega
    · rw [e1, hcA]
      simp only [mK_nA, mN_nA, if_pos, hj]
      congr 2
      funext q
      simp [ev, mK_nA, aI_nA, aL_nA, aP_nA, hj, newarray.typeOf, defaultValue]
  have hW := (kk _ _ w μ' h2).2 p e s m args below meth c x0 s0 H' locs ls hc (by rw [mX_nA]; omega) (by rw [mS_nA]; omega) (vs_grow hS (by rw [e2, hD.1]) (fun q hq => e3 q (by rw [← hD.1]; exact hq))) hD' hl
  rw [mX_nA, mS_nA, show mX μ + 1 - x0 = mX μ - x0 + 1 by omega, show mS μ + n.toNatClampNeg - s0 = mS μ - s0 + n.toNatClampNeg by omega] at hW
  exact hW
theorem ok_newA4 {α : Type} {Γ : Gam} {y : Mth} {d : Nat} {rv : Rv α} {pc : Nat} {lv : List (Nat × Value)} {st : List Value} {F : Option Nat → M α} {n : Int32} {kd idx : Nat} (hk : 64 ≤ kd) (hj : kd % 8 = 4) (w1 : Cond.classLink y.1.cls idx "java/lang/Object" ∈ lw_g) (w2 : Cond.arrayOver (.object "java/lang/Object") ∈ lw_nn) (hd : decode y.2.1 pc = .ok (.anewarray idx, 3)) (kk : ∀ r : Option Nat, Ok Γ y d rv (pc + 3) lv (va_rf r :: st) (F r)) : Ok Γ y d rv pc lv (.int n :: st) (bn (newA kd n) F) := by
  intro μ w μ' h
  obtain ⟨u, μ1, h1, h2⟩ := bn_some h
  unfold newA at h1
  by_cases hn : ¬ n < 0 ∧ n.toNatClampNeg ≤ 1000000
  case neg => rw [if_neg hn] at h1; cases h1
  rw [if_pos hn] at h1
  cases h1
  have hm := (kk _ _ w μ' h2).1
  rw [mX_nA, mS_nA] at hm
  refine ⟨⟨by omega, by omega⟩, ?_⟩
  intro p e s m args below meth c x0 s0 H locs ls hc g1 g2 hS hD hl
  have hts := hc.2.2.2.2.2.1
  refine W.anew hc.1 hc.2.1 hc.2.2.2.2.1 (hts _ w1) (va_AO.use (hc.2.2.2.2.2.2.2.2.1.2.1 _ w2)) rfl hd rfl hn.1 (by omega) (by show _ ≤ mX μ' - x0; omega) (by show _ ≤ mS μ' - s0; omega) fun cA kA comp f1 f2 f3 f4 => ?_
  have hcA : cA = gA Γ 4 := by
    obtain ⟨_, _, _, _, _, z⟩ := (hc.2.2.2.2.2.2.2.2.1.1.2 4 _ rfl).2
    exact Option.some.inj (f1.symm.trans z)
  generalize hH : H.push { cls := cA, slots := Array.replicate n.toNatClampNeg .null, vm := .none } = H'
  have e1 : H'[mX μ]? = some (arrV cA n.toNatClampNeg (fun _ => .null)) := by rw [← hH, ← arrV_new, ← hD.1]; simp
  have e2 : H'.size = mX μ + 1 := by rw [← hH, Array.size_push, hD.1]
  have e3 : ∀ q, q < mX μ → H'[q]? = H[q]? := fun q hq => by rw [← hH, Array.getElem?_push, if_neg (by rw [hD.1]; exact Nat.ne_of_lt hq)]
  have hD' : Wd Γ (nA kd n.toNatClampNeg μ) H' := by
    refine wd_new hD (by rw [e2, hD.1]) (fun q hq => e3 q (by rw [← hD.1]; exact hq)) (Nat.le_trans hc.2.2.2.2.2.2.2.2.2.2.1 hS.1) (Or.inr trivial) (fun b hb => by simp [mK_nA, hb]) (fun b hb => by simp [mN_nA, hb]) rfl rfl (fun c b j hb => rfl) (fun b hb => ?_) ⟨fun c q hcq hq => ?_, fun h64 => ?_⟩
    · funext q
      simp [ev, mK_nA, aI_nA, aL_nA, aP_nA, hb]
    · simp only [mK_nA, if_pos] at hcq
      have hl : c < vcl.length := (List.getElem?_eq_some_iff.mp hq).1
      have h14 : vcl.length = 14 := rfl
      omega
    · rw [e1, hcA]
      simp only [mK_nA, mN_nA, if_pos, hj]
      congr 2
      funext q
      simp [ev, mK_nA, aI_nA, aL_nA, aP_nA, hj, va_rf]
  have hW := (kk _ _ w μ' h2).2 p e s m args below meth c x0 s0 H' locs ls hc (by rw [mX_nA]; omega) (by rw [mS_nA]; omega) (vs_grow hS (by rw [e2, hD.1]) (fun q hq => e3 q (by rw [← hD.1]; exact hq))) hD' hl
  rw [mX_nA, mS_nA, show mX μ + 1 - x0 = mX μ - x0 + 1 by omega, show mS μ + n.toNatClampNeg - s0 = mS μ - s0 + n.toNatClampNeg by omega] at hW
  rw [hD.1]
  exact hW
theorem ok_newA5 {α : Type} {Γ : Gam} {y : Mth} {d : Nat} {rv : Rv α} {pc : Nat} {lv : List (Nat × Value)} {st : List Value} {F : Option Nat → M α} {n : Int32} {kd idx : Nat} (hk : 64 ≤ kd) (hj : kd % 8 = 5) (w1 : Cond.classLink y.1.cls idx "GrainPit$Month" ∈ lw_g) (w2 : Cond.arrayOver (.object "GrainPit$Month") ∈ lw_nn) (hd : decode y.2.1 pc = .ok (.anewarray idx, 3)) (kk : ∀ r : Option Nat, Ok Γ y d rv (pc + 3) lv (va_rf r :: st) (F r)) : Ok Γ y d rv pc lv (.int n :: st) (bn (newA kd n) F) := by
  intro μ w μ' h
  obtain ⟨u, μ1, h1, h2⟩ := bn_some h
  unfold newA at h1
  by_cases hn : ¬ n < 0 ∧ n.toNatClampNeg ≤ 1000000
  case neg => rw [if_neg hn] at h1; cases h1
  rw [if_pos hn] at h1
  cases h1
  have hm := (kk _ _ w μ' h2).1
  rw [mX_nA, mS_nA] at hm
  refine ⟨⟨by omega, by omega⟩, ?_⟩
  intro p e s m args below meth c x0 s0 H locs ls hc g1 g2 hS hD hl
  have hts := hc.2.2.2.2.2.1
  refine W.anew hc.1 hc.2.1 hc.2.2.2.2.1 (hts _ w1) (va_AO.use (hc.2.2.2.2.2.2.2.2.1.2.1 _ w2)) rfl hd rfl hn.1 (by omega) (by show _ ≤ mX μ' - x0; omega) (by show _ ≤ mS μ' - s0; omega) fun cA kA comp f1 f2 f3 f4 => ?_
  have hcA : cA = gA Γ 5 := by
    obtain ⟨_, _, _, _, _, z⟩ := (hc.2.2.2.2.2.2.2.2.1.1.2 5 _ rfl).2
    exact Option.some.inj (f1.symm.trans z)
  generalize hH : H.push { cls := cA, slots := Array.replicate n.toNatClampNeg .null, vm := .none } = H'
  have e1 : H'[mX μ]? = some (arrV cA n.toNatClampNeg (fun _ => .null)) := by rw [← hH, ← arrV_new, ← hD.1]; simp
  have e2 : H'.size = mX μ + 1 := by rw [← hH, Array.size_push, hD.1]
  have e3 : ∀ q, q < mX μ → H'[q]? = H[q]? := fun q hq => by rw [← hH, Array.getElem?_push, if_neg (by rw [hD.1]; exact Nat.ne_of_lt hq)]
  have hD' : Wd Γ (nA kd n.toNatClampNeg μ) H' := by
    refine wd_new hD (by rw [e2, hD.1]) (fun q hq => e3 q (by rw [← hD.1]; exact hq)) (Nat.le_trans hc.2.2.2.2.2.2.2.2.2.2.1 hS.1) (Or.inr trivial) (fun b hb => by simp [mK_nA, hb]) (fun b hb => by simp [mN_nA, hb]) rfl rfl (fun c b j hb => rfl) (fun b hb => ?_) ⟨fun c q hcq hq => ?_, fun h64 => ?_⟩
    · funext q
      simp [ev, mK_nA, aI_nA, aL_nA, aP_nA, hb]
    · simp only [mK_nA, if_pos] at hcq
      have hl : c < vcl.length := (List.getElem?_eq_some_iff.mp hq).1
      have h14 : vcl.length = 14 := rfl
      omega
    · rw [e1, hcA]
      simp only [mK_nA, mN_nA, if_pos, hj]
      congr 2
      funext q
      simp [ev, mK_nA, aI_nA, aL_nA, aP_nA, hj, va_rf]
  have hW := (kk _ _ w μ' h2).2 p e s m args below meth c x0 s0 H' locs ls hc (by rw [mX_nA]; omega) (by rw [mS_nA]; omega) (vs_grow hS (by rw [e2, hD.1]) (fun q hq => e3 q (by rw [← hD.1]; exact hq))) hD' hl
  rw [mX_nA, mS_nA, show mX μ + 1 - x0 = mX μ - x0 + 1 by omega, show mS μ + n.toNatClampNeg - s0 = mS μ - s0 + n.toNatClampNeg by omega] at hW
  rw [hD.1]
  exact hW
theorem ok_newA6 {α : Type} {Γ : Gam} {y : Mth} {d : Nat} {rv : Rv α} {pc : Nat} {lv : List (Nat × Value)} {st : List Value} {F : Option Nat → M α} {n : Int32} {kd idx : Nat} (hk : 64 ≤ kd) (hj : kd % 8 = 6) (w1 : Cond.classLink y.1.cls idx "GrainPit$Settle" ∈ lw_g) (w2 : Cond.arrayOver (.object "GrainPit$Settle") ∈ lw_nn) (hd : decode y.2.1 pc = .ok (.anewarray idx, 3)) (kk : ∀ r : Option Nat, Ok Γ y d rv (pc + 3) lv (va_rf r :: st) (F r)) : Ok Γ y d rv pc lv (.int n :: st) (bn (newA kd n) F) := by
  intro μ w μ' h
  obtain ⟨u, μ1, h1, h2⟩ := bn_some h
  unfold newA at h1
  by_cases hn : ¬ n < 0 ∧ n.toNatClampNeg ≤ 1000000
  case neg => rw [if_neg hn] at h1; cases h1
  rw [if_pos hn] at h1
  cases h1
  have hm := (kk _ _ w μ' h2).1
  rw [mX_nA, mS_nA] at hm
  refine ⟨⟨by omega, by omega⟩, ?_⟩
  intro p e s m args below meth c x0 s0 H locs ls hc g1 g2 hS hD hl
  have hts := hc.2.2.2.2.2.1
  refine W.anew hc.1 hc.2.1 hc.2.2.2.2.1 (hts _ w1) (va_AO.use (hc.2.2.2.2.2.2.2.2.1.2.1 _ w2)) rfl hd rfl hn.1 (by omega) (by show _ ≤ mX μ' - x0; omega) (by show _ ≤ mS μ' - s0; omega) fun cA kA comp f1 f2 f3 f4 => ?_
  have hcA : cA = gA Γ 6 := by
    obtain ⟨_, _, _, _, _, z⟩ := (hc.2.2.2.2.2.2.2.2.1.1.2 6 _ rfl).2
    exact Option.some.inj (f1.symm.trans z)
  generalize hH : H.push { cls := cA, slots := Array.replicate n.toNatClampNeg .null, vm := .none } = H'
  have e1 : H'[mX μ]? = some (arrV cA n.toNatClampNeg (fun _ => .null)) := by rw [← hH, ← arrV_new, ← hD.1]; simp
  have e2 : H'.size = mX μ + 1 := by rw [← hH, Array.size_push, hD.1]
  have e3 : ∀ q, q < mX μ → H'[q]? = H[q]? := fun q hq => by rw [← hH, Array.getElem?_push, if_neg (by rw [hD.1]; exact Nat.ne_of_lt hq)]
  have hD' : Wd Γ (nA kd n.toNatClampNeg μ) H' := by
    refine wd_new hD (by rw [e2, hD.1]) (fun q hq => e3 q (by rw [← hD.1]; exact hq)) (Nat.le_trans hc.2.2.2.2.2.2.2.2.2.2.1 hS.1) (Or.inr trivial) (fun b hb => by simp [mK_nA, hb]) (fun b hb => by simp [mN_nA, hb]) rfl rfl (fun c b j hb => rfl) (fun b hb => ?_) ⟨fun c q hcq hq => ?_, fun h64 => ?_⟩
    · funext q
      simp [ev, mK_nA, aI_nA, aL_nA, aP_nA, hb]
    · simp only [mK_nA, if_pos] at hcq
      have hl : c < vcl.length := (List.getElem?_eq_some_iff.mp hq).1
      have h14 : vcl.length = 14 := rfl
      omega
    · rw [e1, hcA]
      simp only [mK_nA, mN_nA, if_pos, hj]
      congr 2
      funext q
      simp [ev, mK_nA, aI_nA, aL_nA, aP_nA, hj, va_rf]
  have hW := (kk _ _ w μ' h2).2 p e s m args below meth c x0 s0 H' locs ls hc (by rw [mX_nA]; omega) (by rw [mS_nA]; omega) (vs_grow hS (by rw [e2, hD.1]) (fun q hq => e3 q (by rw [← hD.1]; exact hq))) hD' hl
  rw [mX_nA, mS_nA, show mX μ + 1 - x0 = mX μ - x0 + 1 by omega, show mS μ + n.toNatClampNeg - s0 = mS μ - s0 + n.toNatClampNeg by omega] at hW
  rw [hD.1]
  exact hW
theorem ok_cst {α : Type} {Γ : Gam} {y : Mth} {d : Nat} {rv : Rv α} {pc : Nat} {lv : List (Nat × Value)} {st : List Value} {F : M α} {r : Option Nat} {idx cn : Nat} {C : String} {T : u_T} {N : Nat} (hcl : vcl[cn]? = some (C, T, N)) (w1 : Cond.classLink y.1.cls idx C ∈ lw_g) (hd : decode y.2.1 pc = .ok (.checkcast idx, 3)) (kk : Ok Γ y d rv (pc + 3) lv (va_rf r :: st) F) : Ok Γ y d rv pc lv (va_rf r :: st) (bn (cst cn r) fun _ => F) := by
  intro μ w μ' h
  obtain ⟨u, μ1, h1, h2⟩ := bn_some h
  unfold cst at h1
  cases r with
  | none =>
    cases h1
    exact ok_of (fun hc hl k2 => lv_castN hc.1 hc.2.1 hd (k2 _ hl)) kk μ w μ' h2
  | some a =>
    simp only at h1
    by_cases hK : mK μ a = cn + 1
    case neg => rw [if_neg hK] at h1; cases h1
    rw [if_pos hK] at h1
    cases h1
    refine ⟨(kk μ w μ' h2).1, ?_⟩
    intro p e s m args below meth c x0 s0 H locs ls hc g1 g2 hS hD hl
    obtain ⟨cell, q1, q2, q3, -⟩ := (hD.2.2 a (by omega)).1.2.1 cn _ hK hcl
    have hCA := (hc.2.2.2.2.2.2.2.2.1.1.1 cn _ hcl).2
    exact va_castS hc.1 hc.2.1 hc.2.2.2.2.1 (hc.2.2.2.2.2.1 _ w1) hCA ⟨cell, q1, by rw [q3]; rfl, by rw [q2]; exact hCA.1⟩ hd ((kk μ w μ' h2).2 p e s m args below meth c x0 s0 H locs ls hc g1 g2 hS hD hl)
theorem ok_objInit {α : Type} {Γ : Gam} {y : Mth} {d : Nat} {rv : Rv α} {pc : Nat} {lv : List (Nat × Value)} {st : List Value} {F : M α} {r : Option Nat} {idx : Nat} (w1 : Cond.methodLink y.1.cls idx Lib.objectInit ∈ lw_g) (w2 : Cond.instanceMethod Lib.objectInit ∈ lw_g) (w3 : Cond.code Lib.objectInit ⟨#[0xb1]⟩ 1 none ∈ lw_g) (hr : ∃ a, r = some a) (hdep : 1 ≤ d) (hst : st.length ≤ 20) (hd : decode y.2.1 pc = .ok (.invokespecial idx, 3)) (kk : Ok Γ y d rv (pc + 3) lv st F) : Ok Γ y d rv pc lv (va_rf r :: st) F := by
  obtain ⟨a, rfl⟩ := hr
  intro μ w μ' h
  refine ⟨(kk μ w μ' h).1, ?_⟩
  intro p e s m args below meth c x0 s0 H locs ls hc g1 g2 hS hD hl
  have hts := hc.2.2.2.2.2.1
  refine W.objInit hc.1 hc.2.1 hc.2.2.2.2.1 (hts _ w1) (hts _ w2) (hts _ w3) (a := a) (rest := st) rfl (by show ls.size = _; rw [hl.1, hc.2.2.2.1]) rfl hd hdep ?_ ((kk μ w μ' h).2 p e s m args below meth c x0 s0 H locs ls hc g1 g2 hS hD hl)
  have hz := cat_sum st
  show 2 * 0 + _ + 12 ≤ 64 * d
  omega
end
section
theorem nn_warm {s U : State} (hW : s.WarmedH U.vm) {w : Cond} (hw : nnw w = true) (h : va_Nw w s) : va_Nw w U := by
  cases w <;> first
    | (simp [nnw] at hw; done)
    | exact va_Nw.warmM hW h
    | exact va_Nw.warmC hW h
    | exact va_Nw.warmD hW h
    | (rename_i t; cases t <;> first | (simp [nnw] at hw; done) | exact va_AO.moved hW.alike h)
theorem ex_to {Γ : Gam} {s U : State} (hst : Stab Γ) (h : EX Γ s) (hW : s.WarmedH U.vm) (hs : s.heap.size ≤ U.heap.size) (hk : ∀ q, q < s.heap.size → ¬ gB Γ ≤ q → U.heap[q]? = s.heap[q]?) : EX Γ U := by
  obtain ⟨⟨h1, t0, h10, h11⟩, ⟨mi, h2, h3⟩, h4, h5, ⟨aK, aV, g0, g1, g2, g3, g4, g5⟩, h6⟩ := h
  exact ⟨⟨va_Z.kept (va_Z.moved hW.alike h1) hk, t0, h10, va_T.kept (va_T.moved hW.alike h11) hk⟩, ⟨mi, h2, va_Mi.moved hW.alike h3⟩, va_Z.kept (va_Z.moved hW.alike h4) hk, va_Z.kept (va_Z.moved hW.alike h5) hk, ⟨aK, aV, g0, vk_S.kept (vk_S.moved hW.alike g1) hk, vk_R.warm hW g2, vk_R.warm hW g3, vk_R.warm hW g4, vk_R.warm hW g5⟩, hst s U h6 hW hs hk⟩
theorem kk_to {Γ : Gam} {s U : State} (hst : Stab Γ) (h : KK Γ s) (hW : s.WarmedH U.vm) (hs : s.heap.size ≤ U.heap.size) (hk : ∀ q, q < s.heap.size → ¬ gB Γ ≤ q → U.heap[q]? = s.heap[q]?) : KK Γ U :=
  ⟨va_K.moved hW.alike h.1, fun w hw => nn_warm hW (List.mem_filter.mp hw).2 (h.2.1 w hw), ex_to hst h.2.2 hW hs hk⟩
theorem pc_blind {Γ : Gam} (hst : Stab Γ) (μ : Mem) (av : List Value) : FrameBlind (va_Pc av (fun U => Wd Γ μ U.heap ∧ KK Γ U ∧ gB Γ ≤ U.heap.size)) := fun a U g mk h =>
  ⟨h.1, h.2.1, kk_to (s := U) (U := U.calling g mk a) hst h.2.2.1 (State.WarmedH.refl U) (Nat.le_refl _) (fun _ _ _ => rfl), h.2.2.2⟩
theorem pc_at {Γ : Gam} {y : Mth} {p : Program} {s : State} {m : MethodId} {args : Array Value} {meth : Method} {c : Code} {H : Heap} {locs : List Loc} {μ : Mem} (hc : Ctx Γ y p s m args meth c) (hS : va_S (fun q => gB Γ ≤ q) s.heap H locs) (hD : Wd Γ μ H) {av : List Value} {U : State} (hU : U.heap = H) (hW : s.WarmedH U.vm) : va_Pc av (fun U => Wd Γ μ U.heap ∧ KK Γ U ∧ gB Γ ≤ U.heap.size) av.toArray U :=
  ⟨rfl, by rw [hU]; exact hD, kk_to hc.2.2.2.2.2.2.2.2.2.1 hc.2.2.2.2.2.2.2.2.1 hW (by rw [hU]; exact hS.1) (fun q h1 h2 => by rw [hU]; exact hS.2.1 q h1 h2), by rw [hU]; exact Nat.le_trans hc.2.2.2.2.2.2.2.2.2.2.1 hS.1⟩
/-- behind a call -/
theorem w_back {Γ : Gam} {p : Program} {e : Env} {R : Room} {s : State} {m : MethodId} {args : Array Value} {below : List Frame} {meth : Method} {c : Code} {H : Heap} {locs : List Loc} {Q : State → Prop} {pc : Nat} {ls : Array Slot} {st0 rest : List Value} {a : Array Value} {μ μ1 : Mem} {x0 s0 : Nat} {v : Option Value}
    (hr : va_Run p (gL Γ) e R s m args below meth c H locs (mX μ - x0) (mS μ - s0) (mX μ1 - mX μ) (mS μ1 - mS μ) (F0 m pc ls st0) rest (Qo Γ v μ1 a) (fun q => gB Γ ≤ q)) (hS : va_S (fun q => gB Γ ≤ q) s.heap H locs) (g1 : x0 ≤ mX μ) (g2 : s0 ≤ mS μ) (hm : mX μ ≤ mX μ1 ∧ mS μ ≤ mS μ1)
    (kk : ∀ (H' : Heap) (locs' : List Loc), va_S (fun q => gB Γ ≤ q) s.heap H' locs' → Wd Γ μ1 H' → W p (gL Γ) e R s m args below meth c H' locs' (mX μ1 - x0) (mS μ1 - s0) Q (F0 m (pc + 3) ls (v.toList ++ rest))) : W p (gL Γ) e R s m args below meth c H locs (mX μ - x0) (mS μ - s0) Q (F0 m pc ls st0) := by
  intro T hT X
  obtain ⟨v', st₀, t, T', L, h0, X', hL, e1, e2, ⟨hv, hWd, hF⟩, stp⟩ := hr T hT X
  cases hv
  rw [show mX μ - x0 + (mX μ1 - mX μ) = mX μ1 - x0 by omega, show mS μ - s0 + (mS μ1 - mS μ) = mS μ1 - s0 by omega] at X'
  rw [← e1] at hWd
  have hS' : va_S (fun q => gB Γ ≤ q) s.heap T'.heap (locs ++ L) := by
    refine ⟨?_, fun q h1 h2 => ?_, fun q hq => ?_⟩
    · rw [e1]; exact Nat.le_trans hS.1 (by rw [← h0]; exact hF.1)
    · rw [e1, hF.2 q (by rw [h0]; exact Nat.lt_of_lt_of_le h1 hS.1) h2, h0]
      exact hS.2.1 q h1 h2
    · rcases List.mem_append.mp hq with h | h
      · exact hS.2.2 q h
      · exact hL q h
  obtain ⟨t2, a1, b1⟩ := kk T'.heap (locs ++ L) hS' hWd T' rfl X'
  exact ⟨t2, stp t2 a1, b1⟩
/-- a callee's words and room, decided once a callee -/
def CY (yc : Mth) (n : Nat) : Prop := Cond.code yc.1 yc.2.1 yc.2.2.1 yc.2.2.2 ∈ lw_g ∧ Cond.initialized yc.1.cls ∈ lw_g ∧ (yc.1.cls ≠ "java/lang/invoke/MethodHandle" ∧ yc.1.cls ≠ "java/lang/invoke/VarHandle" ∧ (parseMethodDescriptor yc.1.desc).map (fun d => d.parameters.length) = some n) ∧ yc.2.2.1 ≤ 40
theorem wsy_good {yc : Mth} {n : Nat} (h : CY yc n) : GoodIn lw_g (wsy yc) := fun w hw => by
  rcases List.mem_cons.mp hw with rfl | hw
  · exact ⟨h.1, good_of_word (lw_g_good _ h.1)⟩
  · exact ⟨hw, good_of_word (lw_g_good _ hw)⟩
theorem cy_callB {Γ : Gam} {y yc : Mth} {p : Program} {s : State} {m : MethodId} {args : Array Value} {meth : Method} {c : Code} {n idx d dc c1 s1 c2 s2 : Nat} (hc : Ctx Γ y p s m args meth c) (h : CY yc n) (hl : Cond.methodLink y.1.cls idx yc.1 ∈ lw_g) (hdep : dc + 1 ≤ d) : CallB (rmo d c2 s2) s args y.1.cls idx yc.1 yc.2.1 yc.2.2.1 yc.2.2.2 (wsy yc) (rmo dc c1 s1) c1 s1 n :=
  callB_of n hc.2.2.2.2.2.1 (wsy_good h) rfl rfl rfl (hc.2.2.2.2.2.1 _ h.2.1) (hc.2.2.2.2.2.1 _ hl) h.2.2.1 ⟨hdep, by
    have h4 := h.2.2.2
    show 8 + (yc.2.2.1 + 11) + 64 * dc ≤ 64 * d
    omega⟩
theorem ok_callV {α : Type} {Γ : Gam} {y : Mth} {d : Nat} {rv : Rv α} {pc : Nat} {lv : List (Nat × Value)} {st : List Value} {β : Type} {F : β → M α} {G : Nat → M β} {yc : Mth} {dc : Nat} {rvc : β → Option Value} {r : Option Nat} {idx cn : Nat} {C : String} {T : u_T} {N : Nat} (As rest : List Value) (hC : ∀ b : Nat, Ct Γ yc dc rvc (va_rf (some b) :: As) (G b)) (hcl : vcl[cn]? = some (C, T, N)) (hy : CY yc As.length)
    (w1 : Cond.methodLink y.1.cls idx yc.1 ∈ lw_g) (w2 : Cond.instanceMethod yc.1 ∈ lw_g) (w3 : Cond.selects C yc.1 yc.1 ∈ lw_g) (hdep : dc + 1 ≤ d) (hrest : rest.length ≤ 4) (hst : st = As.reverse ++ va_rf r :: rest) (hd : decode y.2.1 pc = .ok (.invokevirtual idx, 3)) (kk : ∀ x : β, Ok Γ y d rv (pc + 3) lv ((rvc x).toList ++ rest) (F x)) : Ok Γ y d rv pc lv st (bn (pRc cn r) fun b => bn (G b) F) := by
  subst hst
  intro μ w μ' h
  obtain ⟨b, μ0, h1, h2⟩ := bn_some h
  obtain ⟨b', rfl, hK, e⟩ := pRc_some h1
  cases e
  obtain ⟨x, μ1, h3, h4⟩ := bn_some h2
  have hk := kk x μ1 w μ' h4
  have hg := hC b μ x μ1 h3
  refine ⟨⟨Nat.le_trans hg.1.1 hk.1.1, Nat.le_trans hg.1.2 hk.1.2⟩, ?_⟩
  intro p e s m args below meth c x0 s0 H locs ls hc g1 g2 hS hD hl
  have hM := hg.2 hc.2.2.2.2.2.2.2.2.2.1
  obtain ⟨cell, q1, q2, q3, -⟩ := (hD.2.2 b (by omega)).1.2.1 cn _ hK hcl
  have hCA := (hc.2.2.2.2.2.2.2.2.1.1.1 cn _ hcl).2
  have hsum := cat_sum rest
  refine w_back (a := (Value.ref b :: As).toArray) (va_runV (As := As) (rest := rest) (b := b) ⟨hc.1, hc.2.1, hc.2.2.2.1, hc.2.2.2.2.1, hc.2.2.2.2.2.1⟩ hM ⟨cy_callB hc hy w1 hdep, hc.2.2.2.2.2.1 _ w2, hc.2.2.2.2.2.1 _ w3⟩ ⟨pc_blind hc.2.2.2.2.2.2.2.2.2.1 _ _, ⟨cell, q1, by rw [q3]; rfl, by rw [q2]; exact hCA.1⟩, fun U hU hW => pc_at hc hS hD hU hW⟩ rfl rfl hl.1 rfl (by show 2 * 0 + _ ≤ 8; omega) hd ⟨by show _ ≤ mX μ' - x0; omega, by show _ ≤ mS μ' - s0; omega⟩) hS g1 g2 hg.1 ?_
  intro H' locs' hS' hD'
  exact hk.2 p e s m args below meth c x0 s0 H' locs' ls hc (by omega) (by omega) hS' hD' hl
theorem ok_callS {α : Type} {Γ : Gam} {y : Mth} {d : Nat} {rv : Rv α} {pc : Nat} {lv : List (Nat × Value)} {st : List Value} {β : Type} {F : β → M α} {G : M β} {yc : Mth} {dc : Nat} {rvc : β → Option Value} {idx : Nat} (As rest : List Value) (hC : Ct Γ yc dc rvc As G) (hy : CY yc As.length)
    (w1 : Cond.methodLink y.1.cls idx yc.1 ∈ lw_g) (w2 : Cond.static yc.1 ∈ lw_g) (hdep : dc + 1 ≤ d) (hrest : rest.length ≤ 4) (hst : st = As.reverse ++ rest) (hd : decode y.2.1 pc = .ok (.invokestatic idx, 3)) (kk : ∀ x : β, Ok Γ y d rv (pc + 3) lv ((rvc x).toList ++ rest) (F x)) : Ok Γ y d rv pc lv st (bn G F) := by
  subst hst
  intro μ w μ' h
  obtain ⟨x, μ1, h3, h4⟩ := bn_some h
  have hk := kk x μ1 w μ' h4
  have hg := hC μ x μ1 h3
  refine ⟨⟨Nat.le_trans hg.1.1 hk.1.1, Nat.le_trans hg.1.2 hk.1.2⟩, ?_⟩
  intro p e s m args below meth c x0 s0 H locs ls hc g1 g2 hS hD hl
  have hM := hg.2 hc.2.2.2.2.2.2.2.2.2.1
  have hsum := cat_sum rest
  refine w_back (a := As.toArray) (va_runS (As := As) (rest := rest) ⟨hc.1, hc.2.1, hc.2.2.2.1, hc.2.2.2.2.1, hc.2.2.2.2.2.1⟩ hM ⟨cy_callB hc hy w1 hdep, hc.2.2.2.2.2.1 _ w2⟩ ⟨pc_blind hc.2.2.2.2.2.2.2.2.2.1 _ _, fun U hU hW => pc_at hc hS hD hU hW⟩ rfl rfl hl.1 rfl (by show 2 * 0 + _ ≤ 8; omega) hd ⟨by show _ ≤ mX μ' - x0; omega, by show _ ≤ mS μ' - s0; omega⟩) hS g1 g2 hg.1 ?_
  intro H' locs' hS' hD'
  exact hk.2 p e s m args below meth c x0 s0 H' locs' ls hc (by omega) (by omega) hS' hD' hl
/-- a constructor; the receiver is any cell (an object that was just made) -/
theorem ok_callI {α : Type} {Γ : Gam} {y : Mth} {d : Nat} {rv : Rv α} {pc : Nat} {lv : List (Nat × Value)} {st : List Value} {F : M α} {G : Nat → M Unit} {yc : Mth} {dc : Nat} {r : Option Nat} {idx cn : Nat} (As rest : List Value) (hC : ∀ b : Nat, Ct Γ yc dc vV (va_rf (some b) :: As) (G b)) (hy : CY yc As.length) (hret : yc.2.2.2 = none) (hn : yc.1.name = "<init>")
    (w1 : Cond.methodLink y.1.cls idx yc.1 ∈ lw_g) (w2 : Cond.instanceMethod yc.1 ∈ lw_g) (hdep : dc + 1 ≤ d) (hrest : rest.length ≤ 4) (hst : st = As.reverse ++ va_rf r :: rest) (hd : decode y.2.1 pc = .ok (.invokespecial idx, 3)) (kk : Ok Γ y d rv (pc + 3) lv rest F) : Ok Γ y d rv pc lv st (bn (pRc cn r) fun b => bn (G b) fun _ => F) := by
  subst hst
  intro μ w μ' h
  obtain ⟨b, μ0, h1, h2⟩ := bn_some h
  obtain ⟨b', rfl, hK, e⟩ := pRc_some h1
  cases e
  obtain ⟨x, μ1, h3, h4⟩ := bn_some h2
  have hk := kk μ1 w μ' h4
  have hg := hC b μ x μ1 h3
  refine ⟨⟨Nat.le_trans hg.1.1 hk.1.1, Nat.le_trans hg.1.2 hk.1.2⟩, ?_⟩
  intro p e s m args below meth c x0 s0 H locs ls hc g1 g2 hS hD hl
  have hM := hg.2 hc.2.2.2.2.2.2.2.2.2.1
  have hsum := cat_sum rest
  have hB := cy_callB (c1 := mX μ1 - mX μ) (s1 := mS μ1 - mS μ) (c2 := mX μ' - x0) (s2 := mS μ' - s0) hc hy w1 hdep
  rw [hret] at hB
  refine w_back (a := (Value.ref b :: As).toArray) (va_runI (As := As) (rest := rest) (b := b) ⟨hc.1, hc.2.1, hc.2.2.2.1, hc.2.2.2.2.1, hc.2.2.2.2.2.1⟩ hM ⟨hB, hn, hc.2.2.2.2.2.1 _ w2⟩ ⟨pc_blind hc.2.2.2.2.2.2.2.2.2.1 _ _, fun U hU hW => pc_at hc hS hD hU hW⟩ rfl rfl hl.1 rfl (by show 2 * 0 + _ ≤ 8; omega) hd ⟨by show _ ≤ mX μ' - x0; omega, by show _ ≤ mS μ' - s0; omega⟩) hS g1 g2 hg.1 ?_
  intro H' locs' hS' hD'
  exact hk.2 p e s m args below meth c x0 s0 H' locs' ls hc (by omega) (by omega) hS' hD' hl
/-- a nest mate's private constructor -/
theorem ok_callIN {α : Type} {Γ : Gam} {y : Mth} {d : Nat} {rv : Rv α} {pc : Nat} {lv : List (Nat × Value)} {st : List Value} {F : M α} {G : Nat → M Unit} {yc : Mth} {dc : Nat} {r : Option Nat} {idx cn : Nat} {host : String} (As rest : List Value) (hC : ∀ b : Nat, Ct Γ yc dc vV (va_rf (some b) :: As) (G b)) (hy : CY yc As.length) (hret : yc.2.2.2 = none) (hn : yc.1.name = "<init>")
    (w1 : Cond.methodLinkNest y.1.cls idx yc.1 host ∈ lw_nn) (w2 : Cond.instanceMethod yc.1 ∈ lw_g) (hdep : dc + 1 ≤ d) (hrest : rest.length ≤ 4) (hst : st = As.reverse ++ va_rf r :: rest) (hd : decode y.2.1 pc = .ok (.invokespecial idx, 3)) (kk : Ok Γ y d rv (pc + 3) lv rest F) : Ok Γ y d rv pc lv st (bn (pRc cn r) fun b => bn (G b) fun _ => F) := by
  subst hst
  intro μ w μ' h
  obtain ⟨b, μ0, h1, h2⟩ := bn_some h
  obtain ⟨b', rfl, hK, e⟩ := pRc_some h1
  cases e
  obtain ⟨x, μ1, h3, h4⟩ := bn_some h2
  have hk := kk μ1 w μ' h4
  have hg := hC b μ x μ1 h3
  refine ⟨⟨Nat.le_trans hg.1.1 hk.1.1, Nat.le_trans hg.1.2 hk.1.2⟩, ?_⟩
  intro p e s m args below meth c x0 s0 H locs ls hc g1 g2 hS hD hl
  have hM := hg.2 hc.2.2.2.2.2.2.2.2.2.1
  have hsum := cat_sum rest
  have h40 := hy.2.2.2
  have hB := va_cnB (R := rmo d (mX μ' - x0) (mS μ' - s0)) (rm := rmo dc (mX μ1 - mX μ) (mS μ1 - mS μ)) (ret := yc.2.2.2) (maxL := yc.2.2.1) (bytes := yc.2.1) (ws' := lw_g) As.length hc.2.2.2.2.2.1 (wsy_good hy) rfl rfl rfl (hc.2.2.2.2.2.2.2.2.1.2.1 _ w1) (hc.2.2.2.2.2.1 _ hy.2.1) hy.2.2.1 ⟨hdep, by show 8 + (yc.2.2.1 + 11) + 64 * dc ≤ 64 * d; omega⟩
  rw [hret] at hB
  refine w_back (a := (Value.ref b :: As).toArray) (va_runIN (As := As) (rest := rest) (b := b) ⟨hc.1, hc.2.1, hc.2.2.2.1, hc.2.2.2.2.1, hc.2.2.2.2.2.1⟩ hM ⟨hB, hn, hc.2.2.2.2.2.1 _ w2⟩ ⟨pc_blind hc.2.2.2.2.2.2.2.2.2.1 _ _, fun U hU hW => pc_at hc hS hD hU hW⟩ rfl rfl hl.1 rfl (by show 2 * 0 + _ ≤ 8; omega) hd ⟨by show _ ≤ mX μ' - x0; omega, by show _ ≤ mS μ' - s0; omega⟩) hS g1 g2 hg.1 ?_
  intro H' locs' hS' hD'
  exact hk.2 p e s m args below meth c x0 s0 H' locs' ls hc (by omega) (by omega) hS' hD' hl
/-- what a body's table of handlers is -/
theorem ctx_tab {l : Launch} {p : Program} {y : Mth} {S : Spec} {e : Env} {s s₁ : State} {m : MethodId} {args : Array Value} {below : List Frame} {meth : Method} {c : Code} {ws : List Cond} (B : BodyLoose p l y.1 S y.2.1 y.2.2.1 y.2.2.2 e s m args below meth c s₁) (hts : ∀ w ∈ ws, w.before args s = true) (hsub : ∀ w ∈ lw_g, w ∈ ws := by exact fun w hw => List.mem_cons_of_mem _ hw) : (Cond.code y.1 y.2.1 y.2.2.1 y.2.2.2 ∈ lw_g → c.exceptionTable.toList = []) ∧ ∀ hh, Cond.codeWith y.1 y.2.1 y.2.2.1 y.2.2.2 hh ∈ lw_g → c.exceptionTable.toList = tableOf hh := by
  refine ⟨fun hw => ?_, fun hh hw => ?_⟩
  · obtain ⟨meth9, c9, h1, h2, -, -, -, -, h7, -⟩ := Cond.code_spec B.named (hts _ (hsub _ hw))
    cases Option.some.inj (h1.symm.trans B.method)
    cases Option.some.inj (h2.symm.trans (Stand.of_body B).code)
    rw [Array.isEmpty_iff.mp h7]
  · obtain ⟨m9, meth9, c9, hn9, h1, h2, -, -, h6, -⟩ := Cond.codeWith_spec (hts _ (hsub _ hw))
    cases Option.some.inj (hn9.symm.trans B.named)
    cases Option.some.inj (h1.symm.trans B.method)
    cases Option.some.inj (h2.symm.trans (Stand.of_body B).code)
    rw [← h6, table_eq]
/-- a method's contract out of the walk of its body -/
theorem ct_of {α : Type} {Γ : Gam} {y : Mth} {d : Nat} {rv : α → Option Value} {av : List Value} {F : M α} (hp : plainName y.1.cls = true) (hlen : (lg_sl av).length ≤ y.2.2.1) (k : Ok Γ y d (qo Γ rv) 0 (lv_args 0 av) [] F) : Ct Γ y d rv av F := by
  intro μ x μ' h
  refine ⟨(k μ x μ' h).1, fun hst => ?_⟩
  have hm := (k μ x μ' h).1
  refine Met.ofW (cc := y.2.1) (maxL := y.2.2.1) (ret := y.2.2.2) hp rfl ?_
  intro p e s m args below meth c s₁ B hml hv
  obtain ⟨rfl, hD, hKK, hb⟩ := hv
  have hts := atoms_spec (ws := wsy y) B.pre
  have hc : Ctx Γ y p s m av.toArray meth c := ⟨B.exec, B.bytes, B.returns, hml, findClass_of_methodNamed B.named, fun w hw => hts w (List.mem_cons_of_mem _ hw), B.notSynchronized, (name_of_methodNamed B.named B.method).1, hKK, hst, hb, ctx_tab B hts⟩
  have hl := lv_entry av (n := y.2.2.1) hlen
  rw [lg_entry_eq]
  have hW := (k μ x μ' h).2 p e s m av.toArray below meth c (mX μ) (mS μ) s.heap [] _ hc (Nat.le_refl _) (Nat.le_refl _) va_S.rf hD hl
  rw [Nat.sub_self, Nat.sub_self] at hW
  exact hW
end
section
theorem ok_mmax {α : Type} {Γ : Gam} {y : Mth} {d : Nat} {rv : Rv α} {pc : Nat} {lv : List (Nat × Value)} {st : List Value} {F : M α} {x z : Int32} {idx : Nat} (w1 : Cond.methodLink y.1.cls idx Lib.Math.max.name ∈ lw_g) (w2 : Cond.static Lib.Math.max.name ∈ lw_g) (w3 : Cond.initialized "java/lang/Math" ∈ lw_g) (w4 : Cond.code Lib.Math.max.name Lib.Math.max.code 2 (some .int) ∈ lw_g) (hdep : 1 ≤ d) (hst : st.length ≤ 20) (hd : decode y.2.1 pc = .ok (.invokestatic idx, 3)) (k : Ok Γ y d rv (pc + 3) lv (.int (if x < z then z else x) :: st) F) : Ok Γ y d rv pc lv (.int z :: .int x :: st) F := by
  intro μ w μ' h
  have hm := (k μ w μ' h).1
  refine ⟨hm, ?_⟩
  intro p e s m args below meth c x0 s0 H locs ls hc g1 g2 hS hD hl
  have hts := hc.2.2.2.2.2.1
  have hz := cat_sum st
  exact va_mmax hc.1 hc.2.1 (by rw [hl.1, hc.2.2.2.1]) hc.2.2.2.2.1 (hts _ w1) (hts _ w2) (hts _ w3) (hts _ w4) hdep (by show _ ≤ 64 * d; omega) (by show _ ≤ mX μ' - x0; omega) (by show _ ≤ mS μ' - s0; omega) hd ((k μ w μ' h).2 p e s m args below meth c x0 s0 H locs ls hc g1 g2 hS hD hl)
theorem ok_mmin {α : Type} {Γ : Gam} {y : Mth} {d : Nat} {rv : Rv α} {pc : Nat} {lv : List (Nat × Value)} {st : List Value} {F : M α} {x z : Int32} {idx : Nat} (w1 : Cond.methodLink y.1.cls idx Lib.Math.min.name ∈ lw_g) (w2 : Cond.static Lib.Math.min.name ∈ lw_g) (w3 : Cond.initialized "java/lang/Math" ∈ lw_g) (w4 : Cond.code Lib.Math.min.name Lib.Math.min.code 2 (some .int) ∈ lw_g) (hdep : 1 ≤ d) (hst : st.length ≤ 20) (hd : decode y.2.1 pc = .ok (.invokestatic idx, 3)) (k : Ok Γ y d rv (pc + 3) lv (.int (if z < x then z else x) :: st) F) : Ok Γ y d rv pc lv (.int z :: .int x :: st) F := by
  intro μ w μ' h
  have hm := (k μ w μ' h).1
  refine ⟨hm, ?_⟩
  intro p e s m args below meth c x0 s0 H locs ls hc g1 g2 hS hD hl
  have hts := hc.2.2.2.2.2.1
  have hz := cat_sum st
  exact va_mmin hc.1 hc.2.1 (by rw [hl.1, hc.2.2.2.1]) hc.2.2.2.2.1 (hts _ w1) (hts _ w2) (hts _ w3) (hts _ w4) hdep (by show _ ≤ 64 * d; omega) (by show _ ≤ mX μ' - x0; omega) (by show _ ≤ mS μ' - s0; omega) hd ((k μ w μ' h).2 p e s m args below meth c x0 s0 H locs ls hc g1 g2 hS hD hl)
theorem ok_mabs {α : Type} {Γ : Gam} {y : Mth} {d : Nat} {rv : Rv α} {pc : Nat} {lv : List (Nat × Value)} {st : List Value} {F : M α} {x : Int32} {idx : Nat} (w1 : Cond.methodLink y.1.cls idx Lib.Math.abs.name ∈ lw_g) (w2 : Cond.static Lib.Math.abs.name ∈ lw_g) (w3 : Cond.initialized "java/lang/Math" ∈ lw_g) (w4 : Cond.code Lib.Math.abs.name Lib.Math.abs.code 1 (some .int) ∈ lw_g) (hdep : 1 ≤ d) (hst : st.length ≤ 20) (hd : decode y.2.1 pc = .ok (.invokestatic idx, 3)) (k : Ok Γ y d rv (pc + 3) lv (.int (if 0 ≤ x then x else 0 - x) :: st) F) : Ok Γ y d rv pc lv (.int x :: st) F := by
  intro μ w μ' h
  have hm := (k μ w μ' h).1
  refine ⟨hm, ?_⟩
  intro p e s m args below meth c x0 s0 H locs ls hc g1 g2 hS hD hl
  have hts := hc.2.2.2.2.2.1
  have hz := cat_sum st
  exact va_mabs hc.1 hc.2.1 (by rw [hl.1, hc.2.2.2.1]) hc.2.2.2.2.1 (hts _ w1) (hts _ w2) (hts _ w3) (hts _ w4) hdep (by show _ ≤ 64 * d; omega) (by show _ ≤ mX μ' - x0; omega) (by show _ ≤ mS μ' - s0; omega) hd ((k μ w μ' h).2 p e s m args below meth c x0 s0 H locs ls hc g1 g2 hS hD hl)
/-- how often a loop may go round: far above what any run needs -/
def FU : Nat := 100000
theorem cf_in {C : String} {T : u_T} {N : Nat} (ps : List Nat) (hp : u_ws C T N = ps.filterMap (fun i => lw_tbl[i]?)) (h : (u_ws C T N).all goodWord = true) : ∀ w ∈ u_ws C T N, w ∈ lw_g := fun w hw => by
  have hg := List.all_eq_true.mp h w hw
  rw [hp] at hw
  obtain ⟨i, -, hi⟩ := List.mem_filterMap.mp hw
  exact List.mem_filter.mpr ⟨List.mem_of_getElem? hi, hg⟩
def dvb (v : Value) (t : Nat) : Bool := match v with
  | .int x => decide (x = 0 ∧ t ≠ 1 ∧ t ≠ 2)
  | .long x => decide (x = 0 ∧ t = 1)
  | .null => decide (t = 2)
  | _ => false
theorem dvb_ok {v : Value} {c k : Nat} (h : dvb v (fty c k) = true) : v = dvf c k := by
  unfold dvb at h
  unfold dvf
  cases v <;> simp at h
  · obtain ⟨h1, h2, h3⟩ := h
    rw [if_neg h2, if_neg h3, h1]
  · obtain ⟨h1, h2⟩ := h
    rw [if_pos h2, h1]
  · rw [if_neg (by omega), if_pos h]
theorem df_all {ty : Nat → FieldType} {c N : Nat} (h : ((List.range N).all fun k => dvb (defaultValue (ty k)) (fty c k)) = true) : ∀ k, k < N → defaultValue (ty k) = dvf c k := fun k hk => dvb_ok (List.all_eq_true.mp h k (List.mem_range.mpr hk))
theorem rf_obj {n : String} : ∀ r : Option Nat, narrow (.object n) (va_rf r) = va_rf r ∧ fits (.object n) (va_rf r) = true := fun r => by cases r <;> exact ⟨rfl, rfl⟩
theorem rf_arr {t : FieldType} : ∀ r : Option Nat, narrow (.array t) (va_rf r) = va_rf r ∧ fits (.array t) (va_rf r) = true := fun r => by cases r <;> exact ⟨rfl, rfl⟩
theorem ct_in {α : Type} {Γ : Gam} {y : Mth} {d : Nat} {rv : α → Option Value} {av : List Value} {F : M α} {lv : List (Nat × Value)} (hp : plainName y.1.cls = true) (hl : lv_args 0 av = lv) (hlen : (lg_sl av).length ≤ y.2.2.1) (k : Ok Γ y d (qo Γ rv) 0 lv [] F) : Ct Γ y d rv av F := ct_of hp hlen (by rw [hl]; exact k)
theorem ok_callVI {α : Type} {Γ : Gam} {y : Mth} {d : Nat} {rv : Rv α} {pc : Nat} {lv : List (Nat × Value)} {st : List Value} {F : Int32 → M α} {G : Nat → M Int32} {yc : Mth} {dc : Nat} {r : Option Nat} {idx cn : Nat} {C : String} {T : u_T} {N : Nat} (As rest : List Value) (hC : ∀ b : Nat, Ct Γ yc dc vI (va_rf (some b) :: As) (G b)) (hcl : vcl[cn]? = some (C, T, N)) (hy : CY yc As.length)
    (w1 : Cond.methodLink y.1.cls idx yc.1 ∈ lw_g) (w2 : Cond.instanceMethod yc.1 ∈ lw_g) (w3 : Cond.selects C yc.1 yc.1 ∈ lw_g) (hdep : dc + 1 ≤ d) (hrest : rest.length ≤ 4) (hst : st = As.reverse ++ va_rf r :: rest) (hd : decode y.2.1 pc = .ok (.invokevirtual idx, 3)) (kk : ∀ x : Int32, Ok Γ y d rv (pc + 3) lv (.int x :: rest) (F x)) : Ok Γ y d rv pc lv st (bn (pRc cn r) fun b => bn (G b) F) :=
  ok_callV As rest hC hcl hy w1 w2 w3 hdep hrest hst hd kk
theorem ok_callSI {α : Type} {Γ : Gam} {y : Mth} {d : Nat} {rv : Rv α} {pc : Nat} {lv : List (Nat × Value)} {st : List Value} {F : Int32 → M α} {G : M Int32} {yc : Mth} {dc : Nat} {idx : Nat} (As rest : List Value) (hC : Ct Γ yc dc vI As G) (hy : CY yc As.length)
    (w1 : Cond.methodLink y.1.cls idx yc.1 ∈ lw_g) (w2 : Cond.static yc.1 ∈ lw_g) (hdep : dc + 1 ≤ d) (hrest : rest.length ≤ 4) (hst : st = As.reverse ++ rest) (hd : decode y.2.1 pc = .ok (.invokestatic idx, 3)) (kk : ∀ x : Int32, Ok Γ y d rv (pc + 3) lv (.int x :: rest) (F x)) : Ok Γ y d rv pc lv st (bn G F) :=
  ok_callS As rest hC hy w1 w2 hdep hrest hst hd kk
theorem ok_callVL {α : Type} {Γ : Gam} {y : Mth} {d : Nat} {rv : Rv α} {pc : Nat} {lv : List (Nat × Value)} {st : List Value} {F : Int64 → M α} {G : Nat → M Int64} {yc : Mth} {dc : Nat} {r : Option Nat} {idx cn : Nat} {C : String} {T : u_T} {N : Nat} (As rest : List Value) (hC : ∀ b : Nat, Ct Γ yc dc vL (va_rf (some b) :: As) (G b)) (hcl : vcl[cn]? = some (C, T, N)) (hy : CY yc As.length)
    (w1 : Cond.methodLink y.1.cls idx yc.1 ∈ lw_g) (w2 : Cond.instanceMethod yc.1 ∈ lw_g) (w3 : Cond.selects C yc.1 yc.1 ∈ lw_g) (hdep : dc + 1 ≤ d) (hrest : rest.length ≤ 4) (hst : st = As.reverse ++ va_rf r :: rest) (hd : decode y.2.1 pc = .ok (.invokevirtual idx, 3)) (kk : ∀ x : Int64, Ok Γ y d rv (pc + 3) lv (.long x :: rest) (F x)) : Ok Γ y d rv pc lv st (bn (pRc cn r) fun b => bn (G b) F) :=
  ok_callV As rest hC hcl hy w1 w2 w3 hdep hrest hst hd kk
theorem ok_callSL {α : Type} {Γ : Gam} {y : Mth} {d : Nat} {rv : Rv α} {pc : Nat} {lv : List (Nat × Value)} {st : List Value} {F : Int64 → M α} {G : M Int64} {yc : Mth} {dc : Nat} {idx : Nat} (As rest : List Value) (hC : Ct Γ yc dc vL As G) (hy : CY yc As.length)
    (w1 : Cond.methodLink y.1.cls idx yc.1 ∈ lw_g) (w2 : Cond.static yc.1 ∈ lw_g) (hdep : dc + 1 ≤ d) (hrest : rest.length ≤ 4) (hst : st = As.reverse ++ rest) (hd : decode y.2.1 pc = .ok (.invokestatic idx, 3)) (kk : ∀ x : Int64, Ok Γ y d rv (pc + 3) lv (.long x :: rest) (F x)) : Ok Γ y d rv pc lv st (bn G F) :=
  ok_callS As rest hC hy w1 w2 hdep hrest hst hd kk
theorem ok_callVR {α : Type} {Γ : Gam} {y : Mth} {d : Nat} {rv : Rv α} {pc : Nat} {lv : List (Nat × Value)} {st : List Value} {F : Option Nat → M α} {G : Nat → M (Option Nat)} {yc : Mth} {dc : Nat} {r : Option Nat} {idx cn : Nat} {C : String} {T : u_T} {N : Nat} (As rest : List Value) (hC : ∀ b : Nat, Ct Γ yc dc vP (va_rf (some b) :: As) (G b)) (hcl : vcl[cn]? = some (C, T, N)) (hy : CY yc As.length)
    (w1 : Cond.methodLink y.1.cls idx yc.1 ∈ lw_g) (w2 : Cond.instanceMethod yc.1 ∈ lw_g) (w3 : Cond.selects C yc.1 yc.1 ∈ lw_g) (hdep : dc + 1 ≤ d) (hrest : rest.length ≤ 4) (hst : st = As.reverse ++ va_rf r :: rest) (hd : decode y.2.1 pc = .ok (.invokevirtual idx, 3)) (kk : ∀ x : Option Nat, Ok Γ y d rv (pc + 3) lv (va_rf x :: rest) (F x)) : Ok Γ y d rv pc lv st (bn (pRc cn r) fun b => bn (G b) F) :=
  ok_callV As rest hC hcl hy w1 w2 w3 hdep hrest hst hd kk
theorem ok_callSR {α : Type} {Γ : Gam} {y : Mth} {d : Nat} {rv : Rv α} {pc : Nat} {lv : List (Nat × Value)} {st : List Value} {F : Option Nat → M α} {G : M (Option Nat)} {yc : Mth} {dc : Nat} {idx : Nat} (As rest : List Value) (hC : Ct Γ yc dc vP As G) (hy : CY yc As.length)
    (w1 : Cond.methodLink y.1.cls idx yc.1 ∈ lw_g) (w2 : Cond.static yc.1 ∈ lw_g) (hdep : dc + 1 ≤ d) (hrest : rest.length ≤ 4) (hst : st = As.reverse ++ rest) (hd : decode y.2.1 pc = .ok (.invokestatic idx, 3)) (kk : ∀ x : Option Nat, Ok Γ y d rv (pc + 3) lv (va_rf x :: rest) (F x)) : Ok Γ y d rv pc lv st (bn G F) :=
  ok_callS As rest hC hy w1 w2 hdep hrest hst hd kk
theorem ok_callVV {α : Type} {Γ : Gam} {y : Mth} {d : Nat} {rv : Rv α} {pc : Nat} {lv : List (Nat × Value)} {st : List Value} {F : M α} {G : Nat → M Unit} {yc : Mth} {dc : Nat} {r : Option Nat} {idx cn : Nat} {C : String} {T : u_T} {N : Nat} (As rest : List Value) (hC : ∀ b : Nat, Ct Γ yc dc vV (va_rf (some b) :: As) (G b)) (hcl : vcl[cn]? = some (C, T, N)) (hy : CY yc As.length)
    (w1 : Cond.methodLink y.1.cls idx yc.1 ∈ lw_g) (w2 : Cond.instanceMethod yc.1 ∈ lw_g) (w3 : Cond.selects C yc.1 yc.1 ∈ lw_g) (hdep : dc + 1 ≤ d) (hrest : rest.length ≤ 4) (hst : st = As.reverse ++ va_rf r :: rest) (hd : decode y.2.1 pc = .ok (.invokevirtual idx, 3)) (kk : Ok Γ y d rv (pc + 3) lv rest F) : Ok Γ y d rv pc lv st (bn (pRc cn r) fun b => bn (G b) fun _ => F) :=
  ok_callV As rest hC hcl hy w1 w2 w3 hdep hrest hst hd (fun _ => kk)
theorem ok_callSV {α : Type} {Γ : Gam} {y : Mth} {d : Nat} {rv : Rv α} {pc : Nat} {lv : List (Nat × Value)} {st : List Value} {F : M α} {G : M Unit} {yc : Mth} {dc : Nat} {idx : Nat} (As rest : List Value) (hC : Ct Γ yc dc vV As G) (hy : CY yc As.length)
    (w1 : Cond.methodLink y.1.cls idx yc.1 ∈ lw_g) (w2 : Cond.static yc.1 ∈ lw_g) (hdep : dc + 1 ≤ d) (hrest : rest.length ≤ 4) (hst : st = As.reverse ++ rest) (hd : decode y.2.1 pc = .ok (.invokestatic idx, 3)) (kk : Ok Γ y d rv (pc + 3) lv rest F) : Ok Γ y d rv pc lv st (bn G fun _ => F) :=
  ok_callS As rest hC hy w1 w2 hdep hrest hst hd (fun _ => kk)
def stO (k : Nat) (r : Option Nat) (i : Int32) (v : Option Nat) : M Unit := bn (pArr k r) fun a μ => if ¬ (i < 0 ∨ mN μ a ≤ i.toNatClampNeg) ∧ (v = none ∨ (1 ≤ mK μ (v.getD 0) ∧ mK μ (v.getD 0) ≤ 13)) then some ((), tP μ k a i.toNatClampNeg v) else none
theorem wd_tP {Γ : Gam} {μ : Mem} {H H' : Heap} {a kd i : Nat} {v : Option Nat} {j : Nat} (hD : Wd Γ μ H) (hk : 64 ≤ kd) (hj : kd % 8 = j) (h4 : 4 ≤ j) (hK : mK μ a = kd) (e1 : H'[a]? = some ((arrV (gA Γ j) (mN μ a) (ev μ a)).setSlot i (va_rf v))) (e2 : H'.size = H.size) (e3 : ∀ q, q ≠ a → H'[q]? = H[q]?) : Wd Γ (tP μ kd a i v) H' := by
  have h1 : ¬ kd % 8 = 1 := by omega
  have h4' : 4 ≤ kd % 8 := by omega
  refine wd_aput hD hk hK ?_ e2 e3 rfl rfl rfl rfl rfl (fun b hb => ?_)
  · rw [e1, arrV_store, hj]
    congr 2
    funext q
    by_cases hq : q = i
    · subst hq
      simp [updV, ev, hK, h1, h4', mK_tP, aI_tP, aL_tP, aP_tP, up3_eq]
    · have hz : ∀ {β : Type} (m : Nat → Nat → Nat → β) (v : β), up3 m kd a i v kd a q = m kd a q := fun m v => up3_ne (Or.inr hq)
      simp [updV, hq, ev, hK, h1, h4', mK_tP, aI_tP, aL_tP, aP_tP, hz]
  · funext q
    have hz : ∀ {β : Type} (m : Nat → Nat → Nat → β) (v : β) (g : Nat), up3 m kd a i v g b q = m g b q := fun m v g => up3_ne (Or.inl hb)
    simp only [ev, mK_tP, aI_tP, aL_tP, aP_tP, hz]
    try rfl
theorem ok_stP5 {α : Type} {Γ : Gam} {y : Mth} {d : Nat} {rv : Rv α} {pc : Nat} {lv : List (Nat × Value)} {st : List Value} {F : M α} {r v : Option Nat} {i : Int32} {kd : Nat} (hk : 64 ≤ kd) (hj : kd % 8 = 5) (hd : decode y.2.1 pc = .ok (.aastore, 1)) (kk : Ok Γ y d rv (pc + 1) lv st F) : Ok Γ y d rv pc lv (va_rf v :: .int i :: va_rf r :: st) (bn (stP kd 2 r i v) fun _ => F) := by
  intro μ w μ' h
  obtain ⟨u, μ1, h1, h2⟩ := bn_some h
  obtain ⟨a, μ2, h3, h4⟩ := bn_some h1
  obtain ⟨a', rfl, hK, e⟩ := pArr_some h3
  cases e
  by_cases hin : ¬ (i < 0 ∨ mN μ a ≤ i.toNatClampNeg) ∧ (v = none ∨ mK μ (v.getD 0) = 2 + 1)
  case neg => simp only [if_neg hin] at h4; cases h4
  simp only [if_pos hin] at h4
  cases h4
  refine ⟨(kk _ w μ' h2).1, ?_⟩
  intro p e s m args below meth c x0 s0 H locs ls hc g1 g2 hS hD hl
  have hcell := wd_arr hD hk hK
  rw [hj] at hcell
  have hA := (hc.2.2.2.2.2.2.2.2.1.1.2 5 _ rfl)
  have hlt : i.toNatClampNeg < mN μ a := Nat.not_le.mp fun q => hin.1 (Or.inr q)
  have h0 : ¬ i < 0 := fun q => hin.1 (Or.inl q)
  cases v with
  | none =>
    refine va_WaastN (C := "GrainPit$Month") hc.1 hc.2.1 hcell (hA.1 _ _) (fun h => by cases h) (by rw [arrV_size]; exact hin.1) rfl rfl hd fun H' e1 e2 e3 => ?_
    exact (kk _ w μ' h2).2 p e s m args below meth c x0 s0 H' _ ls hc g1 g2 (hS.put e2 e3 (arr_base hD hk (by omega) hK)) (wd_tP (v := none) hD hk hj (by omega) hK e1 e2 e3) hl
  | some q =>
    have hq : mK μ q = 2 + 1 := hin.2.elim (fun z => nomatch z) (fun z => z)
    obtain ⟨cellV, q1, q2, q3, -⟩ := (hD.2.2 q (by omega)).1.2.1 2 _ hq rfl
    obtain ⟨kA, comp, k1, k2, k3, -⟩ := hA.2
    have hcls := (hc.2.2.2.2.2.2.2.2.1.1.1 2 _ rfl).2
    have hcomp : comp = (gD Γ).1 2 := Option.some.inj (k3.symm.trans hcls.1)
    subst hcomp
    obtain ⟨kC, hkC, -⟩ := hcls.2
    refine W.aast hc.1 hc.2.1 hcell (fun q h => by cases h) (fun h => by cases h) k1 k2 rfl hkC ⟨h0, by rw [arrV_size]; exact hlt⟩ q1 (fun q h => by rw [q3] at h; cases h) (by rw [q2]; exact hkC) (by rw [q2]; exact va_assign hcls) rfl rfl hd fun H' e1 e2 e3 => ?_
    exact (kk _ w μ' h2).2 p e s m args below meth c x0 s0 H' _ ls hc g1 g2 (hS.put e2 e3 (arr_base hD hk (by omega) hK)) (wd_tP (v := some q) hD hk hj (by omega) hK e1 e2 e3) hl
theorem ok_stP6 {α : Type} {Γ : Gam} {y : Mth} {d : Nat} {rv : Rv α} {pc : Nat} {lv : List (Nat × Value)} {st : List Value} {F : M α} {r v : Option Nat} {i : Int32} {kd : Nat} (hk : 64 ≤ kd) (hj : kd % 8 = 6) (hd : decode y.2.1 pc = .ok (.aastore, 1)) (kk : Ok Γ y d rv (pc + 1) lv st F) : Ok Γ y d rv pc lv (va_rf v :: .int i :: va_rf r :: st) (bn (stP kd 8 r i v) fun _ => F) := by
  intro μ w μ' h
  obtain ⟨u, μ1, h1, h2⟩ := bn_some h
  obtain ⟨a, μ2, h3, h4⟩ := bn_some h1
  obtain ⟨a', rfl, hK, e⟩ := pArr_some h3
  cases e
  by_cases hin : ¬ (i < 0 ∨ mN μ a ≤ i.toNatClampNeg) ∧ (v = none ∨ mK μ (v.getD 0) = 8 + 1)
  case neg => simp only [if_neg hin] at h4; cases h4
  simp only [if_pos hin] at h4
  cases h4
  refine ⟨(kk _ w μ' h2).1, ?_⟩
  intro p e s m args below meth c x0 s0 H locs ls hc g1 g2 hS hD hl
  have hcell := wd_arr hD hk hK
  rw [hj] at hcell
  have hA := (hc.2.2.2.2.2.2.2.2.1.1.2 6 _ rfl)
  have hlt : i.toNatClampNeg < mN μ a := Nat.not_le.mp fun q => hin.1 (Or.inr q)
  have h0 : ¬ i < 0 := fun q => hin.1 (Or.inl q)
  cases v with
  | none =>
    refine va_WaastN (C := "GrainPit$Settle") hc.1 hc.2.1 hcell (hA.1 _ _) (fun h => by cases h) (by rw [arrV_size]; exact hin.1) rfl rfl hd fun H' e1 e2 e3 => ?_
    exact (kk _ w μ' h2).2 p e s m args below meth c x0 s0 H' _ ls hc g1 g2 (hS.put e2 e3 (arr_base hD hk (by omega) hK)) (wd_tP (v := none) hD hk hj (by omega) hK e1 e2 e3) hl
  | some q =>
    have hq : mK μ q = 8 + 1 := hin.2.elim (fun z => nomatch z) (fun z => z)
    obtain ⟨cellV, q1, q2, q3, -⟩ := (hD.2.2 q (by omega)).1.2.1 8 _ hq rfl
    obtain ⟨kA, comp, k1, k2, k3, -⟩ := hA.2
    have hcls := (hc.2.2.2.2.2.2.2.2.1.1.1 8 _ rfl).2
    have hcomp : comp = (gD Γ).1 8 := Option.some.inj (k3.symm.trans hcls.1)
    subst hcomp
    obtain ⟨kC, hkC, -⟩ := hcls.2
    refine W.aast hc.1 hc.2.1 hcell (fun q h => by cases h) (fun h => by cases h) k1 k2 rfl hkC ⟨h0, by rw [arrV_size]; exact hlt⟩ q1 (fun q h => by rw [q3] at h; cases h) (by rw [q2]; exact hkC) (by rw [q2]; exact va_assign hcls) rfl rfl hd fun H' e1 e2 e3 => ?_
    exact (kk _ w μ' h2).2 p e s m args below meth c x0 s0 H' _ ls hc g1 g2 (hS.put e2 e3 (arr_base hD hk (by omega) hK)) (wd_tP (v := some q) hD hk hj (by omega) hK e1 e2 e3) hl
theorem lg_len (av : List Value) : (lg_sl av).length = (av.map fun v => v.category).sum := by
  induction av with
  | nil => rfl
  | cons v r ih =>
    have h : lg_sl (v :: r) = (if v.category = 2 then [Slot.val v, .second] else [.val v]) ++ lg_sl r := rfl
    rw [h, List.length_append, ih, List.map_cons, List.sum_cons]
    rcases lv_cat v with e | e <;> simp [e]
end
section
def cK (i : Nat) : M (Option Nat) := fun μ => some (mT μ i, μ)
def kIx (μ : Mem) (o : Nat) (r : Option Nat) : Option Nat := if r = mT μ o then some 0 else if r = mT μ (o + 1) then some 1 else if r = mT μ (o + 2) then some 2 else none
theorem kIx_some {μ : Mem} {o i : Nat} {r : Option Nat} (h : kIx μ o r = some i) : i < 3 ∧ r = mT μ (o + i) := by
  unfold kIx at h
  by_cases h0 : r = mT μ o
  · rw [if_pos h0] at h; cases h; exact ⟨by decide, h0⟩
  rw [if_neg h0] at h
  by_cases h1 : r = mT μ (o + 1)
  · rw [if_pos h1] at h; cases h; exact ⟨by decide, h1⟩
  rw [if_neg h1] at h
  by_cases h2 : r = mT μ (o + 2)
  · rw [if_pos h2] at h; cases h; exact ⟨by decide, h2⟩
  rw [if_neg h2] at h
  cases h
/-- of a text: its bytes, its coder; of its bytes: how many, each; a text as a receiver -/
def kV (r : Option Nat) : M (Option Nat) := fun μ => match kIx μ 1 r with
  | none => none
  | some i => some (mT μ (11 + i), μ)
def kC (r : Option Nat) : M Int32 := fun μ => match kIx μ 1 r with
  | none => none
  | some _ => some (0, μ)
def kLen (r : Option Nat) : M Int32 := fun μ => match kIx μ 11 r with
  | none => none
  | some i => some (Int32.ofNat (kLn.getD i 0), μ)
def kBt (r : Option Nat) (j : Int32) : M Int32 := fun μ => match kIx μ 11 r with
  | none => none
  | some i => if ¬ (j < 0 ∨ kLn.getD i 0 ≤ j.toNatClampNeg) then some ((kBy.getD i []).getD j.toNatClampNeg 0, μ) else none
def kRc (r : Option Nat) : M Nat := fun μ => match kIx μ 1 r with
  | none => none
  | some _ => match r with
    | none => none
    | some a => some (a, μ)
theorem ok_getS0 {α : Type} {Γ : Gam} {y : Mth} {d : Nat} {rv : Rv α} {pc : Nat} {lv : List (Nat × Value)} {st : List Value} {F : Option Nat → M α} {idx : Nat} (w : Cond.fieldLink y.1.cls idx "java/util/ArrayList" "DEFAULTCAPACITY_EMPTY_ELEMENTDATA" "[Ljava/lang/Object;" ∈ lw_g) (hd : decode y.2.1 pc = .ok (.getstatic idx, 3)) (kk : ∀ r : Option Nat, Ok Γ y d rv (pc + 3) lv (va_rf r :: st) (F r)) : Ok Γ y d rv pc lv st (bn (cK 0) F) := by
  intro μ w' μ' h
  obtain ⟨u, μ1, h1, h2⟩ := bn_some h
  cases h1
  refine ⟨(kk _ μ w' μ' h2).1, ?_⟩
  intro p e s m args below meth c x0 s0 H locs ls hc g1 g2 hS hD hl
  have hZ := hc.2.2.2.2.2.2.2.2.1.2.2.1.1
  rw [← hD.2.1] at hZ
  exact va_gets hc.1 hc.2.1 hZ hS hc.2.2.2.2.1 (hc.2.2.2.2.2.1 _ w) (fun x hx => hx) hd ((kk _ μ w' μ' h2).2 p e s m args below meth c x0 s0 H locs ls hc g1 g2 hS hD hl)
theorem ok_getSF {α : Type} {Γ : Gam} {y : Mth} {d : Nat} {rv : Rv α} {pc : Nat} {lv : List (Nat × Value)} {st : List Value} {F : Option Nat → M α} {idx : Nat} (w : Cond.fieldLink y.1.cls idx "jdk/internal/util/Preconditions" "SIOOBE_FORMATTER" "Ljava/util/function/BiFunction;" ∈ lw_g) (hd : decode y.2.1 pc = .ok (.getstatic idx, 3)) (kk : ∀ r : Option Nat, Ok Γ y d rv (pc + 3) lv (va_rf r :: st) (F r)) : Ok Γ y d rv pc lv st (bn (cK 41) F) := by
  intro μ w' μ' h
  obtain ⟨u, μ1, h1, h2⟩ := bn_some h
  cases h1
  refine ⟨(kk _ μ w' μ' h2).1, ?_⟩
  intro p e s m args below meth c x0 s0 H locs ls hc g1 g2 hS hD hl
  have hZ := hc.2.2.2.2.2.2.2.2.1.2.2.2.2.2.1
  rw [← hD.2.1] at hZ
  exact va_gets hc.1 hc.2.1 hZ hS hc.2.2.2.2.1 (hc.2.2.2.2.2.1 _ w) (fun x hx => hx) hd ((kk _ μ w' μ' h2).2 p e s m args below meth c x0 s0 H locs ls hc g1 g2 hS hD hl)
theorem ok_getSC {α : Type} {Γ : Gam} {y : Mth} {d : Nat} {rv : Rv α} {pc : Nat} {lv : List (Nat × Value)} {st : List Value} {F : M α} {idx : Nat} (w : Cond.fieldLink y.1.cls idx "java/lang/String" "COMPACT_STRINGS" "Z" ∈ lw_g) (hd : decode y.2.1 pc = .ok (.getstatic idx, 3)) (kk : Ok Γ y d rv (pc + 3) lv (.int 1 :: st) F) : Ok Γ y d rv pc lv st F := by
  intro μ w' μ' h
  refine ⟨(kk μ w' μ' h).1, ?_⟩
  intro p e s m args below meth c x0 s0 H locs ls hc g1 g2 hS hD hl
  exact va_gets hc.1 hc.2.1 hc.2.2.2.2.2.2.2.2.1.2.2.2.2.1 hS hc.2.2.2.2.1 (hc.2.2.2.2.2.1 _ w) (fun x hx => hx) hd ((kk μ w' μ' h).2 p e s m args below meth c x0 s0 H locs ls hc g1 g2 hS hD hl)
theorem ok_ldcM {α : Type} {Γ : Gam} {y : Mth} {d : Nat} {rv : Rv α} {pc : Nat} {lv : List (Nat × Value)} {st : List Value} {F : Option Nat → M α} {idx : Nat} (w : Cond.classLink y.1.cls idx "[Ljava/lang/Object;" ∈ lw_g) (hd : decode y.2.1 pc = .ok (.ldc idx, 2)) (kk : ∀ r : Option Nat, Ok Γ y d rv (pc + 2) lv (va_rf r :: st) (F r)) : Ok Γ y d rv pc lv st (bn (cK 40) F) := by
  intro μ w' μ' h
  obtain ⟨u, μ1, h1, h2⟩ := bn_some h
  cases h1
  refine ⟨(kk _ μ w' μ' h2).1, ?_⟩
  intro p e s m args below meth c x0 s0 H locs ls hc g1 g2 hS hD hl
  obtain ⟨mi, e1, hM⟩ := hc.2.2.2.2.2.2.2.2.1.2.2.2.1
  have hk := (kk _ μ w' μ' h2).2 p e s m args below meth c x0 s0 H locs ls hc g1 g2 hS hD hl
  rw [hD.2.1, e1] at hk
  exact va_ldcM hc.1 hc.2.1 hc.2.2.2.2.1 (hc.2.2.2.2.2.1 _ w) hM hd hk
theorem ok_getC {α : Type} {Γ : Gam} {y : Mth} {d : Nat} {rv : Rv α} {pc : Nat} {lv : List (Nat × Value)} {st : List Value} {F : Option Nat → M α} {r : Option Nat} {idx kd : Nat} (hk : 64 ≤ kd) (hj : kd % 8 = 4) (w1 : Cond.methodLink y.1.cls idx ⟨"java/lang/Object", "getClass", "()Ljava/lang/Class;"⟩ ∈ lw_g) (w2 : Cond.declares ⟨"java/lang/Object", "getClass", "()Ljava/lang/Class;"⟩ ∈ lw_nn) (w3 : Cond.selects "[Ljava/lang/Object;" ⟨"java/lang/Object", "getClass", "()Ljava/lang/Class;"⟩ ⟨"java/lang/Object", "getClass", "()Ljava/lang/Class;"⟩ ∈ lw_g) (w4 : Cond.instanceMethod ⟨"java/lang/Object", "getClass", "()Ljava/lang/Class;"⟩ ∈ lw_g) (w5 : Cond.native ⟨"java/lang/Object", "getClass", "()Ljava/lang/Class;"⟩ ∈ lw_g)
    (hdep : 1 ≤ d) (hst : st.length ≤ 20) (hd : decode y.2.1 pc = .ok (.invokevirtual idx, 3)) (kk : ∀ q : Option Nat, Ok Γ y d rv (pc + 3) lv (va_rf q :: st) (F q)) : Ok Γ y d rv pc lv (va_rf r :: st) (bn (pArr kd r) fun _ => bn (cK 40) F) := by
  intro μ w' μ' h
  obtain ⟨a, μ0, h0, h00⟩ := bn_some h
  obtain ⟨a', rfl, hK, e⟩ := pArr_some h0
  cases e
  obtain ⟨u, μ1, h1, h2⟩ := bn_some h00
  cases h1
  refine ⟨(kk _ μ w' μ' h2).1, ?_⟩
  intro p e s m args below meth c x0 s0 H locs ls hc g1 g2 hS hD hl
  obtain ⟨mi, e1, hM⟩ := hc.2.2.2.2.2.2.2.2.1.2.2.2.1
  have hkk := (kk _ μ w' μ' h2).2 p e s m args below meth c x0 s0 H locs ls hc g1 g2 hS hD hl
  rw [hD.2.1, e1] at hkk
  have hts := hc.2.2.2.2.2.1
  have hcell := wd_arr hD hk hK
  rw [hj] at hcell
  have hz := cat_sum st
  have hRA := (hc.2.2.2.2.2.2.2.2.1.1.2 4 _ rfl).2
  exact va_getC hc.1 hc.2.1 (by rw [hl.1, hc.2.2.2.1]) hc.2.2.2.2.1 (hts _ w1) (va_Nw.use rfl (hc.2.2.2.2.2.2.2.2.1.2.1 _ w2)) (hts _ w3) (hts _ w4) (hts _ w5) hM ⟨_, hcell, rfl, va_nmO hRA rfl⟩ hdep (by show _ ≤ 64 * d; omega) hd hkk
theorem ok_ldcS0 {α : Type} {Γ : Gam} {y : Mth} {d : Nat} {rv : Rv α} {pc : Nat} {lv : List (Nat × Value)} {st : List Value} {F : Option Nat → M α} (hy : y.1.cls = "GrainPit$Reader") (hd : decode y.2.1 pc = .ok (.ldc 143, 2)) (kk : ∀ r : Option Nat, Ok Γ y d rv (pc + 2) lv (va_rf r :: st) (F r)) : Ok Γ y d rv pc lv st (bn (cK 1) F) := by
  intro μ w' μ' h
  obtain ⟨u, μ1, h1, h2⟩ := bn_some h
  cases h1
  refine ⟨(kk _ μ w' μ' h2).1, ?_⟩
  intro p e s m args below meth c x0 s0 H locs ls hc g1 g2 hS hD hl
  obtain ⟨aK, aV, q0, q1⟩ := hc.2.2.2.2.2.2.2.2.1.2.2.2.2.2.2.1
  have hkk := (kk _ μ w' μ' h2).2 p e s m args below meth c x0 s0 H locs ls hc g1 g2 hS hD hl
  rw [hD.2.1, (q0 0 (by decide)).1] at hkk
  exact va_ldcS hc.1 hc.2.1 (by rw [← hy]; exact hc.2.2.2.2.1) q1.2.1 hd hkk
theorem ok_ldcS1 {α : Type} {Γ : Gam} {y : Mth} {d : Nat} {rv : Rv α} {pc : Nat} {lv : List (Nat × Value)} {st : List Value} {F : Option Nat → M α} (hy : y.1.cls = "GrainPit$Reader") (hd : decode y.2.1 pc = .ok (.ldc 128, 2)) (kk : ∀ r : Option Nat, Ok Γ y d rv (pc + 2) lv (va_rf r :: st) (F r)) : Ok Γ y d rv pc lv st (bn (cK 2) F) := by
  intro μ w' μ' h
  obtain ⟨u, μ1, h1, h2⟩ := bn_some h
  cases h1
  refine ⟨(kk _ μ w' μ' h2).1, ?_⟩
  intro p e s m args below meth c x0 s0 H locs ls hc g1 g2 hS hD hl
  obtain ⟨aK, aV, q0, q1⟩ := hc.2.2.2.2.2.2.2.2.1.2.2.2.2.2.2.1
  have hkk := (kk _ μ w' μ' h2).2 p e s m args below meth c x0 s0 H locs ls hc g1 g2 hS hD hl
  rw [hD.2.1, (q0 1 (by decide)).1] at hkk
  exact va_ldcS hc.1 hc.2.1 (by rw [← hy]; exact hc.2.2.2.2.1) q1.2.2.1 hd hkk
theorem ok_ldcS2 {α : Type} {Γ : Gam} {y : Mth} {d : Nat} {rv : Rv α} {pc : Nat} {lv : List (Nat × Value)} {st : List Value} {F : Option Nat → M α} (hy : y.1.cls = "GrainPitModel") (hd : decode y.2.1 pc = .ok (.ldc 110, 2)) (kk : ∀ r : Option Nat, Ok Γ y d rv (pc + 2) lv (va_rf r :: st) (F r)) : Ok Γ y d rv pc lv st (bn (cK 3) F) := by
  intro μ w' μ' h
  obtain ⟨u, μ1, h1, h2⟩ := bn_some h
  cases h1
  refine ⟨(kk _ μ w' μ' h2).1, ?_⟩
  intro p e s m args below meth c x0 s0 H locs ls hc g1 g2 hS hD hl
  obtain ⟨aK, aV, q0, q1⟩ := hc.2.2.2.2.2.2.2.2.1.2.2.2.2.2.2.1
  have hkk := (kk _ μ w' μ' h2).2 p e s m args below meth c x0 s0 H locs ls hc g1 g2 hS hD hl
  rw [hD.2.1, (q0 2 (by decide)).1] at hkk
  exact va_ldcS hc.1 hc.2.1 (by rw [← hy]; exact hc.2.2.2.2.1) q1.2.2.2.1 hd hkk
theorem ok_ldcS3 {α : Type} {Γ : Gam} {y : Mth} {d : Nat} {rv : Rv α} {pc : Nat} {lv : List (Nat × Value)} {st : List Value} {F : Option Nat → M α} (hy : y.1.cls = "GrainPitModel") (hd : decode y.2.1 pc = .ok (.ldc 151, 2)) (kk : ∀ r : Option Nat, Ok Γ y d rv (pc + 2) lv (va_rf r :: st) (F r)) : Ok Γ y d rv pc lv st (bn (cK 2) F) := by
  intro μ w' μ' h
  obtain ⟨u, μ1, h1, h2⟩ := bn_some h
  cases h1
  refine ⟨(kk _ μ w' μ' h2).1, ?_⟩
  intro p e s m args below meth c x0 s0 H locs ls hc g1 g2 hS hD hl
  obtain ⟨aK, aV, q0, q1⟩ := hc.2.2.2.2.2.2.2.2.1.2.2.2.2.2.2.1
  have hkk := (kk _ μ w' μ' h2).2 p e s m args below meth c x0 s0 H locs ls hc g1 g2 hS hD hl
  rw [hD.2.1, (q0 1 (by decide)).1] at hkk
  exact va_ldcS hc.1 hc.2.1 (by rw [← hy]; exact hc.2.2.2.2.1) q1.2.2.2.2 hd hkk
theorem kx {Γ : Gam} {U : State} (h : EX Γ U) : ∃ aK aV : Nat → Nat, (∀ i, i < 3 → gT Γ (1 + i) = some (aK i) ∧ gT Γ (11 + i) = some (aV i)) ∧ vk_S 3 kLn kBy aK aV (fun q => gB Γ ≤ q) U U.heap := by
  obtain ⟨aK, aV, q0, q1, -⟩ := h.2.2.2.2.1
  exact ⟨aK, aV, q0, q1⟩
theorem ok_kV {α : Type} {Γ : Gam} {y : Mth} {d : Nat} {rv : Rv α} {pc : Nat} {lv : List (Nat × Value)} {st : List Value} {F : Option Nat → M α} {r : Option Nat} {idx : Nat} (w : Cond.fieldLink y.1.cls idx "java/lang/String" "value" "[B" ∈ lw_g) (hd : decode y.2.1 pc = .ok (.getfield idx, 3)) (kk : ∀ q : Option Nat, Ok Γ y d rv (pc + 3) lv (va_rf q :: st) (F q)) : Ok Γ y d rv pc lv (va_rf r :: st) (bn (kV r) F) := by
  intro μ w' μ' h
  obtain ⟨u, μ1, h1, h2⟩ := bn_some h
  unfold kV at h1
  cases hi : kIx μ 1 r with
  | none => rw [hi] at h1; cases h1
  | some i =>
    rw [hi] at h1
    cases h1
    obtain ⟨hi3, hr⟩ := kIx_some hi
    refine ⟨(kk _ μ w' μ' h2).1, ?_⟩
    intro p e s m args below meth c x0 s0 H locs ls hc g1 g2 hS hD hl
    obtain ⟨aK, aV, q0, q1⟩ := kx hc.2.2.2.2.2.2.2.2.1.2.2
    have hkk := (kk _ μ w' μ' h2).2 p e s m args below meth c x0 s0 H locs ls hc g1 g2 hS hD hl
    rw [hD.2.1, (q0 i hi3).2] at hkk
    rw [hr, hD.2.1, (q0 i hi3).1]
    exact vk_getf hc.1 hc.2.1 (q1.1 i hi3).2.2.1 hS hc.2.2.2.2.1 (hc.2.2.2.2.2.1 _ w) (fun x hx => hx) hd hkk
theorem ok_kC {α : Type} {Γ : Gam} {y : Mth} {d : Nat} {rv : Rv α} {pc : Nat} {lv : List (Nat × Value)} {st : List Value} {F : Int32 → M α} {r : Option Nat} {idx : Nat} (w : Cond.fieldLink y.1.cls idx "java/lang/String" "coder" "B" ∈ lw_g) (hd : decode y.2.1 pc = .ok (.getfield idx, 3)) (kk : ∀ q : Int32, Ok Γ y d rv (pc + 3) lv (.int q :: st) (F q)) : Ok Γ y d rv pc lv (va_rf r :: st) (bn (kC r) F) := by
  intro μ w' μ' h
  obtain ⟨u, μ1, h1, h2⟩ := bn_some h
  unfold kC at h1
  cases hi : kIx μ 1 r with
  | none => rw [hi] at h1; cases h1
  | some i =>
    rw [hi] at h1
    cases h1
    obtain ⟨hi3, hr⟩ := kIx_some hi
    refine ⟨(kk _ μ w' μ' h2).1, ?_⟩
    intro p e s m args below meth c x0 s0 H locs ls hc g1 g2 hS hD hl
    obtain ⟨aK, aV, q0, q1⟩ := kx hc.2.2.2.2.2.2.2.2.1.2.2
    have hkk := (kk _ μ w' μ' h2).2 p e s m args below meth c x0 s0 H locs ls hc g1 g2 hS hD hl
    rw [hr, hD.2.1, (q0 i hi3).1]
    exact vk_getf hc.1 hc.2.1 (q1.1 i hi3).2.1 hS hc.2.2.2.2.1 (hc.2.2.2.2.2.1 _ w) (fun x hx => hx) hd hkk
theorem ok_kLen {α : Type} {Γ : Gam} {y : Mth} {d : Nat} {rv : Rv α} {pc : Nat} {lv : List (Nat × Value)} {st : List Value} {F : Int32 → M α} {r : Option Nat} (hd : decode y.2.1 pc = .ok (.arraylength, 1)) (kk : ∀ q : Int32, Ok Γ y d rv (pc + 1) lv (.int q :: st) (F q)) : Ok Γ y d rv pc lv (va_rf r :: st) (bn (kLen r) F) := by
  intro μ w' μ' h
  obtain ⟨u, μ1, h1, h2⟩ := bn_some h
  unfold kLen at h1
  cases hi : kIx μ 11 r with
  | none => rw [hi] at h1; cases h1
  | some i =>
    rw [hi] at h1
    cases h1
    obtain ⟨hi3, hr⟩ := kIx_some hi
    refine ⟨(kk _ μ w' μ' h2).1, ?_⟩
    intro p e s m args below meth c x0 s0 H locs ls hc g1 g2 hS hD hl
    obtain ⟨aK, aV, q0, q1⟩ := kx hc.2.2.2.2.2.2.2.2.1.2.2
    have hkk := (kk _ μ w' μ' h2).2 p e s m args below meth c x0 s0 H locs ls hc g1 g2 hS hD hl
    rw [hr, hD.2.1, (q0 i hi3).2]
    exact va_tlen hc.1 hc.2.1 (q1.1 i hi3).2.2.2 hS rfl hd hkk
theorem ok_kBt {α : Type} {Γ : Gam} {y : Mth} {d : Nat} {rv : Rv α} {pc : Nat} {lv : List (Nat × Value)} {st : List Value} {F : Int32 → M α} {r : Option Nat} {j : Int32} (hd : decode y.2.1 pc = .ok (.baload, 1)) (kk : ∀ q : Int32, Ok Γ y d rv (pc + 1) lv (.int q :: st) (F q)) : Ok Γ y d rv pc lv (.int j :: va_rf r :: st) (bn (kBt r j) F) := by
  intro μ w' μ' h
  obtain ⟨u, μ1, h1, h2⟩ := bn_some h
  unfold kBt at h1
  cases hi : kIx μ 11 r with
  | none => rw [hi] at h1; cases h1
  | some i =>
    rw [hi] at h1
    by_cases hin : ¬ (j < 0 ∨ kLn.getD i 0 ≤ j.toNatClampNeg)
    case neg => simp only [if_neg hin] at h1; cases h1
    simp only [if_pos hin] at h1
    cases h1
    obtain ⟨hi3, hr⟩ := kIx_some hi
    refine ⟨(kk _ μ w' μ' h2).1, ?_⟩
    intro p e s m args below meth c x0 s0 H locs ls hc g1 g2 hS hD hl
    obtain ⟨aK, aV, q0, q1⟩ := kx hc.2.2.2.2.2.2.2.2.1.2.2
    have hkk := (kk _ μ w' μ' h2).2 p e s m args below meth c x0 s0 H locs ls hc g1 g2 hS hD hl
    rw [hr, hD.2.1, (q0 i hi3).2]
    exact va_tb hc.1 hc.2.1 (q1.1 i hi3).2.2.2 hS hin rfl hd hkk
/-- a call on a text -/
theorem ok_callK {α : Type} {Γ : Gam} {y : Mth} {d : Nat} {rv : Rv α} {pc : Nat} {lv : List (Nat × Value)} {st : List Value} {F : Int32 → M α} {G : Nat → M Int32} {yc : Mth} {dc : Nat} {r : Option Nat} {idx : Nat} (As rest : List Value) (hC : ∀ b : Nat, Ct Γ yc dc vI (va_rf (some b) :: As) (G b)) (hy : CY yc As.length)
    (w1 : Cond.methodLink y.1.cls idx yc.1 ∈ lw_g) (w2 : Cond.instanceMethod yc.1 ∈ lw_g) (w3 : Cond.selects "java/lang/String" yc.1 yc.1 ∈ lw_g) (hdep : dc + 1 ≤ d) (hrest : rest.length ≤ 4) (hst : st = As.reverse ++ va_rf r :: rest) (hd : decode y.2.1 pc = .ok (.invokevirtual idx, 3)) (kk : ∀ x : Int32, Ok Γ y d rv (pc + 3) lv (.int x :: rest) (F x)) : Ok Γ y d rv pc lv st (bn (kRc r) fun b => bn (G b) F) := by
  subst hst
  intro μ w μ' h
  obtain ⟨b, μ0, h1, h2⟩ := bn_some h
  unfold kRc at h1
  cases hi : kIx μ 1 r with
  | none => rw [hi] at h1; cases h1
  | some i =>
    rw [hi] at h1
    cases r with
    | none => cases h1
    | some b' =>
      cases h1
      obtain ⟨hi3, hr⟩ := kIx_some hi
      obtain ⟨x, μ1, h3, h4⟩ := bn_some h2
      have hk := kk x μ1 w μ' h4
      have hg := hC b μ x μ1 h3
      refine ⟨⟨Nat.le_trans hg.1.1 hk.1.1, Nat.le_trans hg.1.2 hk.1.2⟩, ?_⟩
      intro p e s m args below meth c x0 s0 H locs ls hc g1 g2 hS hD hl
      have hM := hg.2 hc.2.2.2.2.2.2.2.2.2.1
      obtain ⟨aK, aV, q0, q1⟩ := kx hc.2.2.2.2.2.2.2.2.1.2.2
      have hb : b = aK i := by
        rw [hD.2.1, (q0 i hi3).1] at hr
        exact Option.some.inj hr
      subst hb
      have hsum := cat_sum rest
      refine w_back (a := (Value.ref (aK i) :: As).toArray) (va_runV (As := As) (rest := rest) (b := aK i) ⟨hc.1, hc.2.1, hc.2.2.2.1, hc.2.2.2.2.1, hc.2.2.2.2.2.1⟩ hM ⟨cy_callB hc hy w1 hdep, hc.2.2.2.2.2.1 _ w2, hc.2.2.2.2.2.1 _ w3⟩ ⟨pc_blind hc.2.2.2.2.2.2.2.2.2.1 _ _, vk_recv q1 hi3 hS, fun U hU hW => pc_at hc hS hD hU hW⟩ rfl rfl hl.1 rfl (by show 2 * 0 + _ ≤ 8; omega) hd ⟨by show _ ≤ mX μ' - x0; omega, by show _ ≤ mS μ' - s0; omega⟩) hS g1 g2 hg.1 ?_
      intro H' locs' hS' hD'
      exact hk.2 p e s m args below meth c x0 s0 H' locs' ls hc (by omega) (by omega) hS' hD' hl
end
section
theorem own_cast : ∀ c, c < 13 → ∃ q : vw_C, vcl[c]? = some q ∧ Cond.castable q.1 "java/lang/Object" ∈ lw_nn := fun c hc => match c, hc with
  | 0, _ => ⟨_, rfl, nin 1642 (by decide +kernel) rfl⟩
  | 1, _ => ⟨_, rfl, nin 1639 (by decide +kernel) rfl⟩
  | 2, _ => ⟨_, rfl, nin 1636 (by decide +kernel) rfl⟩
  | 3, _ => ⟨_, rfl, nin 1645 (by decide +kernel) rfl⟩
  | 4, _ => ⟨_, rfl, nin 1634 (by decide +kernel) rfl⟩
  | 5, _ => ⟨_, rfl, nin 1644 (by decide +kernel) rfl⟩
  | 6, _ => ⟨_, rfl, nin 1638 (by decide +kernel) rfl⟩
  | 7, _ => ⟨_, rfl, nin 1635 (by decide +kernel) rfl⟩
  | 8, _ => ⟨_, rfl, nin 1643 (by decide +kernel) rfl⟩
  | 9, _ => ⟨_, rfl, nin 1641 (by decide +kernel) rfl⟩
  | 10, _ => ⟨_, rfl, nin 1640 (by decide +kernel) rfl⟩
  | 11, _ => ⟨_, rfl, nin 1633 (by decide +kernel) rfl⟩
  | 12, _ => ⟨_, rfl, nin 1637 (by decide +kernel) rfl⟩
  | c + 13, h => absurd h (by omega)
theorem any_obj {Γ : Gam} {y : Mth} {μ : Mem} {p : Program} {s : State} {m : MethodId} {args : Array Value} {meth : Method} {c : Code} {H : Heap} {q : Nat} (hc : Ctx Γ y p s m args meth c) (hD : Wd Γ μ H) (h1 : 1 ≤ mK μ q) (h2 : mK μ q ≤ 13) : va_Any "java/lang/Object" s H q := by
  obtain ⟨r, hr, hw⟩ := own_cast (mK μ q - 1) (by omega)
  obtain ⟨cell, q1, q2, q3, -⟩ := (hD.2.2 q (by omega)).1.2.1 (mK μ q - 1) r (by omega) hr
  have hCA := (hc.2.2.2.2.2.2.2.2.1.1.1 _ _ hr).2
  obtain ⟨-, kC, hkC, -⟩ := id hCA
  obtain ⟨c0, t0, f1, f2, f3⟩ := Cond.castable_spec (va_Nw.use (A := args) rfl (hc.2.2.2.2.2.2.2.2.1.2.1 _ hw))
  cases hCA.1.symm.trans f1
  refine ⟨cell, q1, by rw [q3]; rfl, ⟨kC, by rw [q2]; exact hkC⟩, fun comp hcomp => ?_⟩
  cases hcomp.symm.trans f2
  rw [q2]
  exact f3
theorem ok_stO {α : Type} {Γ : Gam} {y : Mth} {d : Nat} {rv : Rv α} {pc : Nat} {lv : List (Nat × Value)} {st : List Value} {F : M α} {r v : Option Nat} {i : Int32} {kd : Nat} (hk : 64 ≤ kd) (hj : kd % 8 = 4) (h76 : kd ≠ 76) (hd : decode y.2.1 pc = .ok (.aastore, 1)) (kk : Ok Γ y d rv (pc + 1) lv st F) : Ok Γ y d rv pc lv (va_rf v :: .int i :: va_rf r :: st) (bn (stO kd r i v) fun _ => F) := by
  intro μ w μ' h
  obtain ⟨u, μ1, h1, h2⟩ := bn_some h
  obtain ⟨a, μ2, h3, h4⟩ := bn_some h1
  obtain ⟨a', rfl, hK, e⟩ := pArr_some h3
  cases e
  by_cases hin : ¬ (i < 0 ∨ mN μ a ≤ i.toNatClampNeg) ∧ (v = none ∨ (1 ≤ mK μ (v.getD 0) ∧ mK μ (v.getD 0) ≤ 13))
  case neg => simp only [if_neg hin] at h4; cases h4
  simp only [if_pos hin] at h4
  cases h4
  refine ⟨(kk _ w μ' h2).1, ?_⟩
  intro p e s m args below meth c x0 s0 H locs ls hc g1 g2 hS hD hl
  have hcell := wd_arr hD hk hK
  rw [hj] at hcell
  have hA := (hc.2.2.2.2.2.2.2.2.1.1.2 4 _ rfl)
  have hlt : i.toNatClampNeg < mN μ a := Nat.not_le.mp fun q => hin.1 (Or.inr q)
  have h0 : ¬ i < 0 := fun q => hin.1 (Or.inl q)
  cases v with
  | none =>
    refine va_WaastN (C := "java/lang/Object") hc.1 hc.2.1 hcell (hA.1 _ _) (fun h => by cases h) (by rw [arrV_size]; exact hin.1) rfl rfl hd fun H' e1 e2 e3 => ?_
    exact (kk _ w μ' h2).2 p e s m args below meth c x0 s0 H' _ ls hc g1 g2 (hS.put e2 e3 (arr_base hD hk h76 hK)) (wd_tP (v := none) hD hk hj (by omega) hK e1 e2 e3) hl
  | some q =>
    have hq : 1 ≤ mK μ q ∧ mK μ q ≤ 13 := hin.2.elim (fun z => nomatch z) (fun z => z)
    obtain ⟨cellV, q1, q3, ⟨kC, hkC⟩, hasg⟩ := any_obj hc hD hq.1 hq.2
    obtain ⟨kA, comp, k1, k2, k3, -⟩ := hA.2
    obtain ⟨kE, hkE, -⟩ := Vm.findClass_spec k3
    refine W.aast hc.1 hc.2.1 hcell (fun q h => by cases h) (fun h => by cases h) k1 k2 rfl hkE ⟨h0, by rw [arrV_size]; exact hlt⟩ q1 (fun q h => by rw [h] at q3; cases q3) hkC (hasg _ k3) rfl rfl hd fun H' e1 e2 e3 => ?_
    exact (kk _ w μ' h2).2 p e s m args below meth c x0 s0 H' _ ls hc g1 g2 (hS.put e2 e3 (arr_base hD hk h76 hK)) (wd_tP (v := some q) hD hk hj (by omega) hK e1 e2 e3) hl
theorem nn_toInt {z : Int32} (hz : ¬ z < 0) : z.toInt = (z.toNatClampNeg : Int) := by
  have hz0 : (0 : Int) ≤ z.toInt := by
    have := Int32.not_lt.mp hz
    simpa using Int32.le_iff_toInt_le.mp this
  show z.toInt = ((z.toInt.toNat : Nat) : Int)
  omega
theorem acw : nativeFrameWords "java/lang/System" "arraycopy" 5 ≤ 20 := by decide
/-- arraycopy, what it does to the heap -/
theorem w_copyI {p : Program} {l : Launch} {e : Env} {R : Room} {s : State} {m : MethodId} {args : Array Value} {below : List Frame} {meth : Method} {c : Code} {H : Heap} {locs : List Loc} {cells slots : Nat} {Q : State → Prop} {cc : ByteArray} {pc : Nat} {ls : Array Slot} {rest : List Value} (hexec : p.tables.exec = Jvm.exec) (hb : c.code = cc) (hml : c.maxLocals = ls.size) {own : String} {index : Nat} (hown : s.vm.findClass own = some m.cls) (hlink : (Cond.methodLink own index arraycopyName).before args s = true) (hnat : (Cond.native arraycopyName).before args s = true) (hstat : (Cond.static arraycopyName).before args s = true) (hini : (Cond.initialized "java/lang/System").before args s = true)
    {a0 a : Nat} {c0 c1 : ClassId} {n0 n1 : Nat} {f g : Nat → Int32} (hc0 : H[a0]? = some (arrV c0 n0 (fun j => Value.int (f j)))) (hc1 : H[a]? = some (arrV c1 n1 (fun j => Value.int (g j)))) (hA0 : ArrOfT s c0 .int) (hA1 : ArrOfT s c1 .int) (hR1 : va_RA s c1 .int)
    {sp dp n : Int32} (h1 : ¬ sp < 0) (h2 : ¬ dp < 0) (h3 : ¬ n < 0) (h4 : sp.toNatClampNeg + n.toNatClampNeg ≤ n0) (h5 : dp.toNatClampNeg + n.toNatClampNeg ≤ n1) 
    (hframes : 1 ≤ R.frames) (hlocals : (rest.map fun v => v.category).sum + (nativeFrameWords "java/lang/System" "arraycopy" 5 + 11) ≤ R.locals) (hdg : decode cc pc = .ok (.invokestatic index, 3))
    (kk : ∀ (H1 : Heap) (locs1 : List Loc), H1[a]? = some (arrV c1 n1 (fun j => Value.int (va_cpy f g sp.toNatClampNeg dp.toNatClampNeg n.toNatClampNeg j))) → H1.size = H.size → (∀ q, q ≠ a → H1[q]? = H[q]?) → (∀ x ∈ locs1, x ∈ locs ∨ x.base = a) → W p l e R s m args below meth c H1 locs1 cells slots Q (F0 m (pc + 3) ls rest)) : W p l e R s m args below meth c H locs cells slots Q (F0 m pc ls (.int n :: .int dp :: .ref a :: .int sp :: .ref a0 :: rest)) := by
  intro T hT X
  obtain ⟨-, k0, hk0, cm0, hkk0⟩ := hA0 n0 (fun j => Value.int (f j))
  obtain ⟨-, k1, hk1, cm1, hkk1⟩ := hA1 n1 (fun j => Value.int (g j))
  obtain ⟨vm', X', step⟩ := X.arraycopy hexec hown hlink hnat hstat hini (src := a0) (dst := a) (cs := arrV c0 n0 (fun j => Value.int (f j))) (cd := arrV c1 n1 (fun j => Value.int (g j))) (srcPos := sp) (destPos := dp) (n := n) (by rw [hT]; exact hc0) (by rw [hT]; exact hc1)
    (fun _ h => by cases h) (fun _ h => by cases h) (fun h => by cases h) (fun h => by cases h) hk0 hk1 hkk0 hkk1 (by simp [refKind]) h1 h2 h3
    (by rw [nn_toInt h1, nn_toInt h3, arrV_size]; omega)
    (by rw [nn_toInt h2, nn_toInt h3, arrV_size]; omega)
    (fun vm₁ _ i hi => by
      have e : (arrV c0 n0 (fun j => Value.int (f j))).slots.getD (sp.toNatClampNeg + i) .null = .int (f (sp.toNatClampNeg + i)) := by
        rw [Array.getD_eq_getD_getElem?, arrV_read _ _ (by omega)]
        rfl
      refine ⟨?_, ?_⟩
      · rw [e]; rfl
      · rw [e]; exact trivial)
    (g := F0 m pc ls (.int n :: .int dp :: .ref a :: .int sp :: .ref a0 :: rest)) rfl (by rw [hml]) (rest := rest) rfl (by rw [hb]; exact hdg) hframes (by show 2 * 0 + _ + _ ≤ _; omega)
  have e1 : copied (arrV c0 n0 (fun j => Value.int (f j))) (arrV c1 n1 (fun j => Value.int (g j))) sp dp n = arrV c1 n1 (fun j => Value.int (va_cpy f g sp.toNatClampNeg dp.toNatClampNeg n.toNatClampNeg j)) := va_copied (fun z => Value.int z) c0 c1 f g h4
  rw [e1] at X' step
  have hl : a < H.size := (Array.getElem?_eq_some_iff.mp hc1).1
  generalize hH : H.setIfInBounds a (arrV c1 n1 (fun j => Value.int (va_cpy f g sp.toNatClampNeg dp.toNatClampNeg n.toNatClampNeg j))) = H1
  obtain ⟨t, a1, b1⟩ := kk H1 _ (by rw [← hH]; simp [Array.getElem?_setIfInBounds, hl]) (by rw [← hH]; simp) (fun q hq => by rw [← hH]; simp [Array.getElem?_setIfInBounds, Ne.symm hq]) (fun x hx => by
      rcases List.mem_append.mp hx with h | h
      · exact Or.inl h
      · obtain ⟨z, -, hz⟩ := List.mem_map.mp h
        exact Or.inr (by rw [← hz])) _ (by rw [← hH, ← hT]; rfl) X'
  exact ⟨t, step t a1, b1⟩
/-- arraycopy, what it does to the heap -/
theorem w_copyP {p : Program} {l : Launch} {e : Env} {R : Room} {s : State} {m : MethodId} {args : Array Value} {below : List Frame} {meth : Method} {c : Code} {H : Heap} {locs : List Loc} {cells slots : Nat} {Q : State → Prop} {cc : ByteArray} {pc : Nat} {ls : Array Slot} {rest : List Value} (hexec : p.tables.exec = Jvm.exec) (hb : c.code = cc) (hml : c.maxLocals = ls.size) {own : String} {index : Nat} (hown : s.vm.findClass own = some m.cls) (hlink : (Cond.methodLink own index arraycopyName).before args s = true) (hnat : (Cond.native arraycopyName).before args s = true) (hstat : (Cond.static arraycopyName).before args s = true) (hini : (Cond.initialized "java/lang/System").before args s = true)
    {a0 a : Nat} {c0 c1 : ClassId} {n0 n1 : Nat} {f g : Nat → Option Nat} (hc0 : H[a0]? = some (arrV c0 n0 (fun j => va_rf (f j)))) (hc1 : H[a]? = some (arrV c1 n1 (fun j => va_rf (g j)))) (hA0 : ArrOfT s c0 (.object "java/lang/Object")) (hA1 : ArrOfT s c1 (.object "java/lang/Object")) (hR1 : va_RA s c1 (.object "java/lang/Object"))
    {sp dp n : Int32} (h1 : ¬ sp < 0) (h2 : ¬ dp < 0) (h3 : ¬ n < 0) (h4 : sp.toNatClampNeg + n.toNatClampNeg ≤ n0) (h5 : dp.toNatClampNeg + n.toNatClampNeg ≤ n1) (hel : ∀ i : Nat, i < n.toNatClampNeg → ∀ y : Nat, f (sp.toNatClampNeg + i) = some y → va_Any "java/lang/Object" s H y)
    (hframes : 1 ≤ R.frames) (hlocals : (rest.map fun v => v.category).sum + (nativeFrameWords "java/lang/System" "arraycopy" 5 + 11) ≤ R.locals) (hdg : decode cc pc = .ok (.invokestatic index, 3))
    (kk : ∀ (H1 : Heap) (locs1 : List Loc), H1[a]? = some (arrV c1 n1 (fun j => va_rf (va_cpy f g sp.toNatClampNeg dp.toNatClampNeg n.toNatClampNeg j))) → H1.size = H.size → (∀ q, q ≠ a → H1[q]? = H[q]?) → (∀ x ∈ locs1, x ∈ locs ∨ x.base = a) → W p l e R s m args below meth c H1 locs1 cells slots Q (F0 m (pc + 3) ls rest)) : W p l e R s m args below meth c H locs cells slots Q (F0 m pc ls (.int n :: .int dp :: .ref a :: .int sp :: .ref a0 :: rest)) := by
  intro T hT X
  obtain ⟨-, k0, hk0, cm0, hkk0⟩ := hA0 n0 (fun j => va_rf (f j))
  obtain ⟨-, k1, hk1, cm1, hkk1⟩ := hA1 n1 (fun j => va_rf (g j))
  obtain ⟨vm', X', step⟩ := X.arraycopy hexec hown hlink hnat hstat hini (src := a0) (dst := a) (cs := arrV c0 n0 (fun j => va_rf (f j))) (cd := arrV c1 n1 (fun j => va_rf (g j))) (srcPos := sp) (destPos := dp) (n := n) (by rw [hT]; exact hc0) (by rw [hT]; exact hc1)
    (fun _ h => by cases h) (fun _ h => by cases h) (fun h => by cases h) (fun h => by cases h) hk0 hk1 hkk0 hkk1 rfl h1 h2 h3
    (by rw [nn_toInt h1, nn_toInt h3, arrV_size]; omega)
    (by rw [nn_toInt h2, nn_toInt h3, arrV_size]; omega)
    (fun vm₁ hal i hi => by
      have e : (arrV c0 n0 (fun j => va_rf (f j))).slots.getD (sp.toNatClampNeg + i) .null = va_rf (f (sp.toNatClampNeg + i)) := by
        rw [Array.getD_eq_getD_getElem?, arrV_read _ _ (by omega)]
        rfl
      rw [e]
      cases hy : f (sp.toNatClampNeg + i) with
      | none => exact ⟨rfl, trivial⟩
      | some y =>
        obtain ⟨cellV, g1, g2, ⟨kC, hkC⟩, hasg⟩ := hel i hi y hy
        obtain ⟨kA, comp, r1, r2, r3, -⟩ := hR1
        cases hk1.symm.trans r1
        cases hkk1.symm.trans r2
        obtain ⟨kE, hkE, -⟩ := Vm.findClass_spec r3
        obtain ⟨kC', hkC', -⟩ := hal.2.2 _ _ hkC
        obtain ⟨kE', hkE', -⟩ := hal.2.2 _ _ hkE
        refine ⟨rfl, cellV, (show T.heap[y]? = some cellV by rw [hT]; exact g1), (fun q h => by rw [h] at g2; cases g2), ⟨kC', hkC'⟩, ?_, ?_⟩
        · exact ⟨kE', hkE'⟩
        · show vm₁.assignable _ _ = true
          rw [hal.assignable]
          exact hasg _ r3)
    (g := F0 m pc ls (.int n :: .int dp :: .ref a :: .int sp :: .ref a0 :: rest)) rfl (by rw [hml]) (rest := rest) rfl (by rw [hb]; exact hdg) hframes (by show 2 * 0 + _ + _ ≤ _; omega)
  have e1 : copied (arrV c0 n0 (fun j => va_rf (f j))) (arrV c1 n1 (fun j => va_rf (g j))) sp dp n = arrV c1 n1 (fun j => va_rf (va_cpy f g sp.toNatClampNeg dp.toNatClampNeg n.toNatClampNeg j)) := va_copied (fun z => va_rf z) c0 c1 f g h4
  rw [e1] at X' step
  have hl : a < H.size := (Array.getElem?_eq_some_iff.mp hc1).1
  generalize hH : H.setIfInBounds a (arrV c1 n1 (fun j => va_rf (va_cpy f g sp.toNatClampNeg dp.toNatClampNeg n.toNatClampNeg j))) = H1
  obtain ⟨t, a1, b1⟩ := kk H1 _ (by rw [← hH]; simp [Array.getElem?_setIfInBounds, hl]) (by rw [← hH]; simp) (fun q hq => by rw [← hH]; simp [Array.getElem?_setIfInBounds, Ne.symm hq]) (fun x hx => by
      rcases List.mem_append.mp hx with h | h
      · exact Or.inl h
      · obtain ⟨z, -, hz⟩ := List.mem_map.mp h
        exact Or.inr (by rw [← hz])) _ (by rw [← hH, ← hT]; rfl) X'
  exact ⟨t, step t a1, b1⟩
def cpI (μ : Mem) (k0 a0 i k1 a1 j n : Nat) : Mem := (mI μ, mL μ, mP μ, fun g b q => if g = k1 ∧ b = a1 then va_cpy (aI μ k0 a0) (aI μ k1 a1) i j n q else aI μ g b q, aL μ, aP μ, mK μ, mN μ, mX μ, mS μ, mT μ)
def cpyI (k0 k1 : Nat) (r0 : Option Nat) (i : Int32) (r1 : Option Nat) (j n : Int32) : M Unit := bn (pArr k0 r0) fun a0 => bn (pArr k1 r1) fun a1 μ => if ¬ i < 0 ∧ ¬ j < 0 ∧ ¬ n < 0 ∧ i.toNatClampNeg + n.toNatClampNeg ≤ mN μ a0 ∧ j.toNatClampNeg + n.toNatClampNeg ≤ mN μ a1 then some ((), cpI μ k0 a0 i.toNatClampNeg k1 a1 j.toNatClampNeg n.toNatClampNeg) else none
theorem ok_cpyI {α : Type} {Γ : Gam} {y : Mth} {d : Nat} {rv : Rv α} {pc : Nat} {lv : List (Nat × Value)} {st : List Value} {F : M α} {r0 r : Option Nat} {i j n : Int32} {kd0 kd idx : Nat} (hk0 : 64 ≤ kd0) (hk : 64 ≤ kd) (hj0 : kd0 % 8 = 0) (hj : kd % 8 = 0) (h76 : kd ≠ 76) (w1 : Cond.methodLink y.1.cls idx arraycopyName ∈ lw_g) (w2 : Cond.native arraycopyName ∈ lw_g) (w3 : Cond.static arraycopyName ∈ lw_g) (w4 : Cond.initialized "java/lang/System" ∈ lw_g) (hdep : 1 ≤ d) (hst : st.length ≤ 10) (hd : decode y.2.1 pc = .ok (.invokestatic idx, 3)) (kk : Ok Γ y d rv (pc + 3) lv st F) : Ok Γ y d rv pc lv (.int n :: .int j :: va_rf r :: .int i :: va_rf r0 :: st) (bn (cpyI kd0 kd r0 i r j n) fun _ => F) := by
  intro μ w μ' h
  obtain ⟨u, μ1, h1, h2⟩ := bn_some h
  obtain ⟨a0, μ2, h3, h4⟩ := bn_some h1
  obtain ⟨a0', rfl, hK0, e⟩ := pArr_some h3
  cases e
  obtain ⟨a, μ3, h5, h6⟩ := bn_some h4
  obtain ⟨a', rfl, hK, e⟩ := pArr_some h5
  cases e
  by_cases hin : ¬ i < 0 ∧ ¬ j < 0 ∧ ¬ n < 0 ∧ i.toNatClampNeg + n.toNatClampNeg ≤ mN μ a0 ∧ j.toNatClampNeg + n.toNatClampNeg ≤ mN μ a
  case neg => simp only [if_neg hin] at h6; cases h6
  simp only [if_pos hin] at h6
  cases h6
  refine ⟨(kk _ w μ' h2).1, ?_⟩
  intro p e s m args below meth c x0 s0 H locs ls hc g1 g2 hS hD hl
  have hts := hc.2.2.2.2.2.1
  have hcell0 := wd_arr hD hk0 hK0
  have hcell := wd_arr hD hk hK
  rw [hj0] at hcell0
  rw [hj] at hcell
  have hA := (hc.2.2.2.2.2.2.2.2.1.1.2 0 _ rfl)
  have hev0 : ev μ a0 = fun q => Value.int (aI μ kd0 a0 q) := by funext q; simp [ev, hK0, hj0]
  have hev : ev μ a = fun q => Value.int (aI μ kd a q) := by funext q; simp [ev, hK, hj]
  rw [hev0] at hcell0
  rw [hev] at hcell
  have hz := cat_sum st
  have hw := acw
  refine w_copyI hc.1 hc.2.1 (by rw [hl.1, hc.2.2.2.1]) hc.2.2.2.2.1 (hts _ w1) (hts _ w2) (hts _ w3) (hts _ w4) hcell0 hcell hA.1 hA.1 hA.2 hin.1 hin.2.1 hin.2.2.1 hin.2.2.2.1 hin.2.2.2.2  hdep (by show _ ≤ 64 * d; omega) hd fun H' locs' e1 e2 e3 e4 => ?_
  have hD' : Wd Γ (cpI μ kd0 a0 i.toNatClampNeg kd a j.toNatClampNeg n.toNatClampNeg) H' := by
    refine wd_aput hD hk hK ?_ e2 e3 rfl rfl rfl rfl rfl (fun b hb => ?_)
    · rw [e1, hj]
      congr 2
      funext q
      have hKx : mK (cpI μ kd0 a0 i.toNatClampNeg kd a j.toNatClampNeg n.toNatClampNeg) a = kd := hK
      have hax : aI (cpI μ kd0 a0 i.toNatClampNeg kd a j.toNatClampNeg n.toNatClampNeg) kd a q = va_cpy (aI μ kd0 a0) (aI μ kd a) i.toNatClampNeg j.toNatClampNeg n.toNatClampNeg q := by
        show (if kd = kd ∧ a = a then _ else _) = _
        rw [if_pos ⟨rfl, rfl⟩]
      unfold ev
      rw [hKx, hax, hj]
      simp
    · funext q
      have hax : ∀ g, aI (cpI μ kd0 a0 i.toNatClampNeg kd a j.toNatClampNeg n.toNatClampNeg) g b q = aI μ g b q := fun g => by
        show (if g = kd ∧ b = a then _ else _) = _
        rw [if_neg (fun z => hb z.2)]
      unfold ev
      rw [hax]
      rfl
  have hS' : va_S (fun q => gB Γ ≤ q) s.heap H' locs' := by
    refine ⟨by rw [e2]; exact hS.1, fun q h1 h2 => ?_, fun x hx => ?_⟩
    · rw [e3 q (fun z => h2 (by rw [z]; exact arr_base hD hk h76 hK))]
      exact hS.2.1 q h1 h2
    · rcases e4 x hx with h | h
      · exact hS.2.2 x h
      · show gB Γ ≤ x.base
        rw [h]
        exact arr_base hD hk h76 hK
  exact (kk _ w μ' h2).2 p e s m args below meth c x0 s0 H' locs' ls hc g1 g2 hS' hD' hl
def cpP (μ : Mem) (k0 a0 i k1 a1 j n : Nat) : Mem := (mI μ, mL μ, mP μ, aI μ, aL μ, fun g b q => if g = k1 ∧ b = a1 then va_cpy (aP μ k0 a0) (aP μ k1 a1) i j n q else aP μ g b q, mK μ, mN μ, mX μ, mS μ, mT μ)
def cpyP (k0 k1 : Nat) (r0 : Option Nat) (i : Int32) (r1 : Option Nat) (j n : Int32) : M Unit := bn (pArr k0 r0) fun a0 => bn (pArr k1 r1) fun a1 μ => if ¬ i < 0 ∧ ¬ j < 0 ∧ ¬ n < 0 ∧ i.toNatClampNeg + n.toNatClampNeg ≤ mN μ a0 ∧ j.toNatClampNeg + n.toNatClampNeg ≤ mN μ a1 ∧ ((List.range n.toNatClampNeg).all fun q => decide (aP μ k0 a0 (i.toNatClampNeg + q) = none ∨ (1 ≤ mK μ ((aP μ k0 a0 (i.toNatClampNeg + q)).getD 0) ∧ mK μ ((aP μ k0 a0 (i.toNatClampNeg + q)).getD 0) ≤ 13))) = true then some ((), cpP μ k0 a0 i.toNatClampNeg k1 a1 j.toNatClampNeg n.toNatClampNeg) else none
theorem ok_cpyP {α : Type} {Γ : Gam} {y : Mth} {d : Nat} {rv : Rv α} {pc : Nat} {lv : List (Nat × Value)} {st : List Value} {F : M α} {r0 r : Option Nat} {i j n : Int32} {kd0 kd idx : Nat} (hk0 : 64 ≤ kd0) (hk : 64 ≤ kd) (hj0 : kd0 % 8 = 4) (hj : kd % 8 = 4) (h76 : kd ≠ 76) (w1 : Cond.methodLink y.1.cls idx arraycopyName ∈ lw_g) (w2 : Cond.native arraycopyName ∈ lw_g) (w3 : Cond.static arraycopyName ∈ lw_g) (w4 : Cond.initialized "java/lang/System" ∈ lw_g) (hdep : 1 ≤ d) (hst : st.length ≤ 10) (hd : decode y.2.1 pc = .ok (.invokestatic idx, 3)) (kk : Ok Γ y d rv (pc + 3) lv st F) : Ok Γ y d rv pc lv (.int n :: .int j :: va_rf r :: .int i :: va_rf r0 :: st) (bn (cpyP kd0 kd r0 i r j n) fun _ => F) := by
  intro μ w μ' h
  obtain ⟨u, μ1, h1, h2⟩ := bn_some h
  obtain ⟨a0, μ2, h3, h4⟩ := bn_some h1
  obtain ⟨a0', rfl, hK0, e⟩ := pArr_some h3
  cases e
  obtain ⟨a, μ3, h5, h6⟩ := bn_some h4
  obtain ⟨a', rfl, hK, e⟩ := pArr_some h5
  cases e
  by_cases hin : ¬ i < 0 ∧ ¬ j < 0 ∧ ¬ n < 0 ∧ i.toNatClampNeg + n.toNatClampNeg ≤ mN μ a0 ∧ j.toNatClampNeg + n.toNatClampNeg ≤ mN μ a ∧ ((List.range n.toNatClampNeg).all fun q => decide (aP μ kd0 a0 (i.toNatClampNeg + q) = none ∨ (1 ≤ mK μ ((aP μ kd0 a0 (i.toNatClampNeg + q)).getD 0) ∧ mK μ ((aP μ kd0 a0 (i.toNatClampNeg + q)).getD 0) ≤ 13))) = true
  case neg => simp only [if_neg hin] at h6; cases h6
  simp only [if_pos hin] at h6
  cases h6
  refine ⟨(kk _ w μ' h2).1, ?_⟩
  intro p e s m args below meth c x0 s0 H locs ls hc g1 g2 hS hD hl
  have hts := hc.2.2.2.2.2.1
  have hcell0 := wd_arr hD hk0 hK0
  have hcell := wd_arr hD hk hK
  rw [hj0] at hcell0
  rw [hj] at hcell
  have hA := (hc.2.2.2.2.2.2.2.2.1.1.2 4 _ rfl)
  have hev0 : ev μ a0 = fun q => va_rf (aP μ kd0 a0 q) := by funext q; simp [ev, hK0, hj0]
  have hev : ev μ a = fun q => va_rf (aP μ kd a q) := by funext q; simp [ev, hK, hj]
  rw [hev0] at hcell0
  rw [hev] at hcell
  have hz := cat_sum st
  have hw := acw
  refine w_copyP hc.1 hc.2.1 (by rw [hl.1, hc.2.2.2.1]) hc.2.2.2.2.1 (hts _ w1) (hts _ w2) (hts _ w3) (hts _ w4) hcell0 hcell hA.1 hA.1 hA.2 hin.1 hin.2.1 hin.2.2.1 hin.2.2.2.1 hin.2.2.2.2.1 (fun q hq z hz => by
    have hq2 := List.all_eq_true.mp hin.2.2.2.2.2 q (List.mem_range.mpr hq)
    rw [hz] at hq2
    have hq3 := of_decide_eq_true hq2
    rcases hq3 with hq3 | hq3
    · cases hq3
    · exact any_obj hc hD hq3.1 hq3.2) hdep (by show _ ≤ 64 * d; omega) hd fun H' locs' e1 e2 e3 e4 => ?_
  have hD' : Wd Γ (cpP μ kd0 a0 i.toNatClampNeg kd a j.toNatClampNeg n.toNatClampNeg) H' := by
    refine wd_aput hD hk hK ?_ e2 e3 rfl rfl rfl rfl rfl (fun b hb => ?_)
    · rw [e1, hj]
      congr 2
      funext q
      have hKx : mK (cpP μ kd0 a0 i.toNatClampNeg kd a j.toNatClampNeg n.toNatClampNeg) a = kd := hK
      have hax : aP (cpP μ kd0 a0 i.toNatClampNeg kd a j.toNatClampNeg n.toNatClampNeg) kd a q = va_cpy (aP μ kd0 a0) (aP μ kd a) i.toNatClampNeg j.toNatClampNeg n.toNatClampNeg q := by
        show (if kd = kd ∧ a = a then _ else _) = _
        rw [if_pos ⟨rfl, rfl⟩]
      unfold ev
      rw [hKx, hax, hj]
      simp
    · funext q
      have hax : ∀ g, aP (cpP μ kd0 a0 i.toNatClampNeg kd a j.toNatClampNeg n.toNatClampNeg) g b q = aP μ g b q := fun g => by
        show (if g = kd ∧ b = a then _ else _) = _
        rw [if_neg (fun z => hb z.2)]
      unfold ev
      rw [hax]
      rfl
  have hS' : va_S (fun q => gB Γ ≤ q) s.heap H' locs' := by
    refine ⟨by rw [e2]; exact hS.1, fun q h1 h2 => ?_, fun x hx => ?_⟩
    · rw [e3 q (fun z => h2 (by rw [z]; exact arr_base hD hk h76 hK))]
      exact hS.2.1 q h1 h2
    · rcases e4 x hx with h | h
      · exact hS.2.2 x h
      · show gB Γ ≤ x.base
        rw [h]
        exact arr_base hD hk h76 hK
  exact (kk _ w μ' h2).2 p e s m args below meth c x0 s0 H' locs' ls hc g1 g2 hS' hD' hl
theorem w_clone {p : Program} {l : Launch} {e : Env} {R : Room} {s : State} {m : MethodId} {args : Array Value} {below : List Frame} {meth : Method} {c : Code} {H : Heap} {locs : List Loc} {cells slots : Nat} {Q : State → Prop} {cc : ByteArray} {pc : Nat} {ls : Array Slot} {rest : List Value} (hexec : p.tables.exec = Jvm.exec) (hb : c.code = cc) (hml : c.maxLocals = ls.size) {own : String} {index : Nat} (hown : s.vm.findClass own = some m.cls)
    (hlink : (Cond.methodLink own index ⟨"[I", "clone", "()Ljava/lang/Object;"⟩).before args s = true) (hsame : (Cond.sameMethod "[I" "java/lang/Object" "clone" "()Ljava/lang/Object;").before args s = true) (hnat : (Cond.native ⟨"java/lang/Object", "clone", "()Ljava/lang/Object;"⟩).before args s = true) (hinst : (Cond.instanceMethod ⟨"java/lang/Object", "clone", "()Ljava/lang/Object;"⟩).before args s = true)
    (hsel : (Cond.selects "[I" ⟨"[I", "clone", "()Ljava/lang/Object;"⟩ ⟨"java/lang/Object", "clone", "()Ljava/lang/Object;"⟩).before args s = true) (hcl : va_Nw (.castable "[I" "java/lang/Cloneable") s) {a : Nat} {cA : ClassId} {n : Nat} {f : Nat → Int32} (hcell : H[a]? = some (arrV cA n (fun j => Value.int (f j)))) (hA : ArrOfT s cA .int) (hnm : s.vm.findClass "[I" = some cA)
    (hframes : 1 ≤ R.frames) (hlocals : (rest.map fun v => v.category).sum + 14 ≤ R.locals) (hcells : cells + 1 ≤ R.cells) (hslots : slots + n ≤ R.slots) (hdg : decode cc pc = .ok (.invokevirtual index, 3))
    (kk : ∀ H1 : Heap, H1[H.size]? = some (arrV cA n (fun j => Value.int (f j))) → H1.size = H.size + 1 → (∀ q, q < H.size → H1[q]? = H[q]?) → W p l e R s m args below meth c H1 locs (cells + 1) (slots + n) Q (F0 m (pc + 3) ls (.ref H.size :: rest))) : W p l e R s m args below meth c H locs cells slots Q (F0 m pc ls (.ref a :: rest)) := by
  have hcellE : ({ cls := (arrV cA n (fun j => Value.int (f j))).cls, slots := (arrV cA n (fun j => Value.int (f j))).slots } : Cell) = arrV cA n (fun j => Value.int (f j)) := rfl
  obtain ⟨c0, t0', f1, f2, f3⟩ := Cond.castable_spec (va_Nw.use (A := args) rfl hcl)
  cases hnm.symm.trans f1
  intro T hT X
  have hcellT : T.heap[a]? = some (arrV cA n (fun j => Value.int (f j))) := by rw [hT]; exact hcell
  obtain ⟨-, kA, hkA, comp, hkind⟩ := State.isArrayOf_alike X.warmed.alike (hA 0 (fun _ => .null))
  obtain ⟨-, kS, hkS, compS, hkindS⟩ := hA 0 (fun _ => .null)
  obtain ⟨vm', X', st⟩ := X.cloneArray hexec hown hlink hsame hnat hinst hsel (a := a) (cell := arrV cA n (fun j => Value.int (f j))) hcellT (fun k h => by cases h) (fun h => by cases h) hnm f2 f3
    (fun i v hv => by
      have hk' : T.vm.classes[cA]? = some kA := hkA
      have hi : i < n := by
        have := (Array.getElem?_eq_some_iff.mp hv).1
        rwa [arrV_size] at this
      rw [arrV_read _ _ hi] at hv
      cases hv
      show T.fitsSlot cA _ i (.int (f i)) = true
      simp [State.fitsSlot, State.slotType?, hk', hkind, fits, arrV])
    (g := F0 m pc ls (.ref a :: rest)) rfl (by rw [hml]) rfl (by rw [hb]; exact hdg) hframes (by show 2 * 0 + _ + 14 ≤ _; omega) hcells (by rw [arrV_size]; exact hslots) (hloader := Vm.clonesLoader_of_array hkS hkindS)
  rw [hcellE, arrV_size] at X'
  generalize hH1 : H.push (arrV cA n (fun j => Value.int (f j))) = H1
  obtain ⟨t, b1, b2⟩ := kk H1 (by rw [← hH1, Array.getElem?_push_size]) (by rw [← hH1, Array.size_push]) (fun q hq => by rw [← hH1, Array.getElem?_push, if_neg (Nat.ne_of_lt hq)])
    ((T.setVm vm').pushCell (arrV cA n (fun j => Value.int (f j)))) (by rw [← hH1, ← hT]; rfl) X'
  refine ⟨t, st t ?_, b2⟩
  rw [hcellE, hT]
  exact b1
/-- a copy of an int array, of another kind -/
def clA (k0 a k1 : Nat) (μ : Mem) : Mem := (mI μ, mL μ, mP μ, fun g b i => if b = mX μ then (if g = k1 then aI μ k0 a i else 0) else aI μ g b i, fun g b i => if b = mX μ then 0 else aL μ g b i, fun g b i => if b = mX μ then none else aP μ g b i, fun b => if b = mX μ then k1 else mK μ b, fun b => if b = mX μ then mN μ a else mN μ b, mX μ + 1, mS μ + mN μ a, mT μ)
def clI (k0 k1 : Nat) (r : Option Nat) : M (Option Nat) := bn (pArr k0 r) fun a μ => some (some (mX μ), clA k0 a k1 μ)
theorem ok_clI {α : Type} {Γ : Gam} {y : Mth} {d : Nat} {rv : Rv α} {pc : Nat} {lv : List (Nat × Value)} {st : List Value} {F : Option Nat → M α} {r : Option Nat} {kd0 kd idx : Nat} (hk0 : 64 ≤ kd0) (hk : 64 ≤ kd) (hj0 : kd0 % 8 = 0) (hj : kd % 8 = 0) (w1 : Cond.methodLink y.1.cls idx ⟨"[I", "clone", "()Ljava/lang/Object;"⟩ ∈ lw_g) (w2 : Cond.sameMethod "[I" "java/lang/Object" "clone" "()Ljava/lang/Object;" ∈ lw_g) (w3 : Cond.native ⟨"java/lang/Object", "clone", "()Ljava/lang/Object;"⟩ ∈ lw_g) (w4 : Cond.instanceMethod ⟨"java/lang/Object", "clone", "()Ljava/lang/Object;"⟩ ∈ lw_g) (w5 : Cond.selects "[I" ⟨"[I", "clone", "()Ljava/lang/Object;"⟩ ⟨"java/lang/Object", "clone", "()Ljava/lang/Object;"⟩ ∈ lw_g) (w6 : Cond.castable "[I" "java/lang/Cloneable" ∈ lw_nn)
    (hdep : 1 ≤ d) (hst : st.length ≤ 10) (hd : decode y.2.1 pc = .ok (.invokevirtual idx, 3)) (kk : ∀ q : Option Nat, Ok Γ y d rv (pc + 3) lv (va_rf q :: st) (F q)) : Ok Γ y d rv pc lv (va_rf r :: st) (bn (clI kd0 kd r) F) := by
  intro μ w μ' h
  obtain ⟨u, μ1, h1, h2⟩ := bn_some h
  obtain ⟨a, μ2, h3, h4⟩ := bn_some h1
  obtain ⟨a', rfl, hK, e⟩ := pArr_some h3
  cases e
  cases h4
  have hm := (kk _ _ w μ' h2).1
  have m1 : mX (clA kd0 a kd μ) = mX μ + 1 := rfl
  have m2 : mS (clA kd0 a kd μ) = mS μ + mN μ a := rfl
  rw [m1, m2] at hm
  refine ⟨⟨by omega, by omega⟩, ?_⟩
  intro p e s m args below meth c x0 s0 H locs ls hc g1 g2 hS hD hl
  have hts := hc.2.2.2.2.2.1
  have hcell := wd_arr hD hk0 hK
  rw [hj0] at hcell
  have hA := (hc.2.2.2.2.2.2.2.2.1.1.2 0 _ rfl)
  have hev : ev μ a = fun q => Value.int (aI μ kd0 a q) := by funext q; simp [ev, hK, hj0]
  rw [hev] at hcell
  have hz := cat_sum st
  have hlt : a < H.size := (hD.2.2 a (by omega)).1.1
  refine w_clone hc.1 hc.2.1 (by rw [hl.1, hc.2.2.2.1]) hc.2.2.2.2.1 (hts _ w1) (hts _ w2) (hts _ w3) (hts _ w4) (hts _ w5) (hc.2.2.2.2.2.2.2.2.1.2.1 _ w6) hcell hA.1 hA.2 hdep (by show _ ≤ 64 * d; omega) (by show _ ≤ mX μ' - x0; omega) (by show _ ≤ mS μ' - s0; omega) hd fun H' e1 e2 e3 => ?_
  rw [hD.1] at e1
  have hax : mX μ ≠ a := by rw [← hD.1]; omega
  have hD' : Wd Γ (clA kd0 a kd μ) H' := by
    refine wd_new hD e2 e3 (Nat.le_trans hc.2.2.2.2.2.2.2.2.2.2.1 hS.1) (Or.inr trivial) (fun b hb => ?_) (fun b hb => ?_) rfl rfl (fun c b j hb => rfl) (fun b hb => ?_) ⟨fun c q hcq hq => ?_, fun h64 => ?_⟩
    · show (if b = mX μ then _ else _) = _
      rw [if_neg hb]
    · show (if b = mX μ then _ else _) = _
      rw [if_neg hb]
    · funext q
      have k1 : mK (clA kd0 a kd μ) b = mK μ b := by show (if b = mX μ then _ else _) = _; rw [if_neg hb]
      have k2 : ∀ g, aI (clA kd0 a kd μ) g b q = aI μ g b q := fun g => by show (if b = mX μ then _ else _) = _; rw [if_neg hb]
      have k3 : ∀ g, aL (clA kd0 a kd μ) g b q = aL μ g b q := fun g => by show (if b = mX μ then _ else _) = _; rw [if_neg hb]
      have k4 : ∀ g, aP (clA kd0 a kd μ) g b q = aP μ g b q := fun g => by show (if b = mX μ then _ else _) = _; rw [if_neg hb]
      unfold ev
      rw [k1, k2, k3, k4]
    · have k1 : mK (clA kd0 a kd μ) (mX μ) = kd := by show (if mX μ = mX μ then _ else _) = _; rw [if_pos rfl]
      rw [k1] at hcq
      have hl2 : c < vcl.length := (List.getElem?_eq_some_iff.mp hq).1
      have h14 : vcl.length = 14 := rfl
      omega
    · have k1 : mK (clA kd0 a kd μ) (mX μ) = kd := by show (if mX μ = mX μ then _ else _) = _; rw [if_pos rfl]
      have k2 : mN (clA kd0 a kd μ) (mX μ) = mN μ a := by show (if mX μ = mX μ then _ else _) = _; rw [if_pos rfl]
      have k3 : ∀ q, aI (clA kd0 a kd μ) kd (mX μ) q = aI μ kd0 a q := fun q => by show (if mX μ = mX μ then (if kd = kd then _ else _) else _) = _; rw [if_pos rfl, if_pos rfl]
      rw [e1, k1, k2, hj]
      congr 2
      funext q
      unfold ev
      rw [k1, k3, hj]
      simp
  have hW := (kk _ _ w μ' h2).2 p e s m args below meth c x0 s0 H' locs ls hc (by rw [m1]; omega) (by rw [m2]; omega) (vs_grow hS e2 e3) hD' hl
  rw [m1, m2, show mX μ + 1 - x0 = mX μ - x0 + 1 by omega, show mS μ + mN μ a - s0 = mS μ - s0 + mN μ a by omega] at hW
  rw [hD.1]
  exact hW
theorem ok_cstA {α : Type} {Γ : Gam} {y : Mth} {d : Nat} {rv : Rv α} {pc : Nat} {lv : List (Nat × Value)} {st : List Value} {F : M α} {r : Option Nat} {kd idx : Nat} (hk : 64 ≤ kd) (hj : kd % 8 = 0) (w1 : Cond.classLink y.1.cls idx "[I" ∈ lw_g) (hd : decode y.2.1 pc = .ok (.checkcast idx, 3)) (kk : Ok Γ y d rv (pc + 3) lv (va_rf r :: st) F) : Ok Γ y d rv pc lv (va_rf r :: st) (bn (pArr kd r) fun _ => F) := by
  intro μ w μ' h
  obtain ⟨a, μ1, h1, h2⟩ := bn_some h
  obtain ⟨a', rfl, hK, e⟩ := pArr_some h1
  cases e
  refine ⟨(kk μ w μ' h2).1, ?_⟩
  intro p e s m args below meth c x0 s0 H locs ls hc g1 g2 hS hD hl
  have hcell := wd_arr hD hk hK
  rw [hj] at hcell
  have hev : ev μ a = fun q => Value.int (aI μ kd a q) := by funext q; simp [ev, hK, hj]
  rw [hev] at hcell
  have hA := (hc.2.2.2.2.2.2.2.2.1.1.2 0 _ rfl)
  have hP : va_P (gD Γ) vcl [(a, .inl (gA Γ 0, mN μ a, .inl (aI μ kd a)))] H := fun k q hq => by
    have hz : k < 1 := (List.getElem?_eq_some_iff.mp hq).1
    rw [show k = 0 by omega] at hq
    cases hq
    exact hcell
  exact va_castA hc.1 hc.2.1 hc.2.2.2.2.1 (hc.2.2.2.2.2.1 _ w1) hP 0 rfl hA.2 hd ((kk μ w μ' h2).2 p e s m args below meth c x0 s0 H locs ls hc g1 g2 hS hD hl)
end
section
/-! ===== BEGIN exceptions that leave a method, and their catching by the caller (launches without stack traces) ===== -/
section VXA
/-! The laws vx_back, vx_callV, vx_callS, vx_callSW, vx_throw0, vx_throwS follow proofs of the library, with one case more: JvmDerived/Free/Laws.lean (Back.of_free), Shelf42/LK1.lean (callV, callS), Shelf/KitTraced.lean (throwNew0V, throwNewS). -/
/-- where a method has thrown q: the class by its name, the cell, what was written, the world -/
def vx_T (XC : String → State → State → Prop) (st : State) (q : Addr) (t : State) (mc ms : Nat) (free : Addr → Prop) : Prop :=
  ∃ (E : String) (ce : Cell) (L : List Loc), XC E st t ∧ t.heap[q]? = some ce ∧ ce.vm = .none ∧ st.vm.findClass E = some ce.cls ∧ st.WarmedH t.vm ∧ st.sameButNew ({ t with vm := st.vm } : State) L mc ms ∧ ∀ z ∈ L, free z.base
def vx_Q (Qc : Array Value → State → Outcome → State → Prop) (XC : String → State → State → Prop) (mc ms : Nat) (free : Addr → Prop) : Array Value → State → Outcome → State → Prop := fun a st o t =>
  (Qc a st o t ∧ ∃ L, FrameEnd st o t L mc ms ∧ ∀ q ∈ L, free q.base) ∨ ∃ q, o = .threw q ∧ vx_T XC st q t mc ms free
/-- a callee that returns or throws -/
def vx_Met (l : Launch) (y : MethodName) (ws : List Cond) (rm : Room) (Pc : Array Value → State → Prop) (Qc : Array Value → State → Outcome → State → Prop) (XC : String → State → State → Prop) (mc ms : Nat) (free : Addr → Prop) : Prop :=
  MetFree l y (headSpec ws rm) Pc (fun _ _ _ _ _ => True) (vx_Q Qc XC mc ms free)
def vx_Post (XC : String → State → State → Prop) (mc ms : Nat) (free : Addr → Prop) : Pt → Array Value → Addr → Pt → Prop := fun A a q B =>
  ∃ (g : JFrame) (mk : MethodId) (t : State) (L : List Loc) (E : String) (ce : Cell), B.U.heap = t.heap ∧ B.U.vm = t.vm ∧ XC E (A.U.calling g mk a) t ∧ t.heap[q]? = some ce ∧ ce.vm = .none ∧ A.U.vm.findClass E = some ce.cls ∧ B.locs = A.locs ++ L ∧ (∀ z ∈ L, free z.base) ∧ B.cells = A.cells + mc ∧ B.slots = A.slots + ms
def vx_Back (l : Launch) (R : Room) (p : Program) (e : Env) (below : List Frame) (s : State) (sargs : Array Value) (y : MethodName) (len W9 : Nat)
    (Pre : Pt → Array Value → Prop) (Post : Pt → Array Value → Option Value → Pt → Prop) (PostX : Pt → Array Value → Addr → Pt → Prop) : Prop :=
  ∀ (m : MethodId) (meth : Method) (c : Code) (A : Pt) (g : JFrame) (ig : Instr) (mk : MethodId) (a : Array Value),
    Stand p l e R s m sargs below meth c A.U A.locs A.cells A.slots → g.method = m → g.locals.size = c.maxLocals → decode c.code g.pc = .ok (ig, len) →
    2 * g.monitorRoom + (g.stack.map fun v => v.category).sum ≤ W9 → A.U.methodNamed? y = some mk → Pre A a →
    (∃ (v : Option Value) (B : Pt), Stand p l e R s m sargs below meth c B.U B.locs B.cells B.slots ∧ Post A a v B ∧
      Steps p.tables e below (doInvoke e (A.U.setTop g) [] mk a).1 (B.U.setTop { g with pc := g.pc + len, stack := v.toList ++ g.stack })) ∨
    (∃ (q : Addr) (B : Pt), Stand p l e R s m sargs below meth c B.U B.locs B.cells B.slots ∧ PostX A a q B ∧
      Steps p.tables e below (doInvoke e (A.U.setTop g) [] mk a).1 ((B.U.setTop g).pushFrame (.throwing q)))
section Payer
variable {l : Launch} {R : Room} {p : Program} {e : Env} {below : List Frame} {s : State} {sargs : Array Value} {y : MethodName} {len W9 : Nat}
theorem vx_back {ws : List Cond} {rm : Room} {Pc : Array Value → State → Prop} {Qc : Array Value → State → Outcome → State → Prop} {XC : String → State → State → Prop} {mc ms : Nat} {free : Addr → Prop} {bytes : ByteArray} {maxL : Nat} {ret : Option FieldType}
    (hM : vx_Met l y ws rm Pc Qc XC mc ms free) (hblind : FrameBlind Pc) (hrc : rm.cells = mc) (hrs : rm.slots = ms)
    (hframes : rm.frames + 1 ≤ R.frames) (hlocals : W9 + (maxL + 11) + rm.locals ≤ R.locals)
    (hws : ∀ w ∈ ws, ∀ a' U, s.WarmedH U.vm → w.before a' U = true) (hcode : Cond.code y bytes maxL ret ∈ ws) (hinit : ∀ a' U, s.WarmedH U.vm → (Cond.initialized y.cls).before a' U = true) :
    vx_Back l R p e below s sargs y len W9 (PreOf R mc ms Pc) (PostOf Qc mc ms free) (vx_Post XC mc ms free) := by
  intro m meth c A g ig mk a X hg hsize hdg hW hn hp
  have h1 : (headSpec ws rm).pre.before a A.U = true := atoms_intro fun w hw => hws w hw _ _ X.warmed
  have h2 : (Cond.code y bytes maxL ret).before a A.U = true := hws _ hcode _ _ X.warmed
  have h3 : (Cond.initialized y.cls).before a A.U = true := hinit _ _ X.warmed
  have h4 : A.cells + (headSpec ws rm).room.cells ≤ R.cells := by rw [show (headSpec ws rm).room.cells = mc from hrc]; exact hp.1
  have h5 : A.slots + (headSpec ws rm).room.slots ≤ R.slots := by rw [show (headSpec ws rm).room.slots = ms from hrs]; exact hp.2.1
  have hPc : Pc a (A.U.calling g mk a) := hblind _ _ _ _ hp.2.2
  obtain ⟨U, Ls, c0, s0⟩ := A
  dsimp only [Pt.U, Pt.locs, Pt.cells, Pt.slots] at h1 h2 h3 h4 h5 X hn hPc ⊢
  obtain ⟨methY, cY, hmY, hcY, -, hlY, -, -, -, -⟩ := Cond.code_spec hn h2
  obtain ⟨kY, hkY, -⟩ := className_of_methodNamed hn
  have hinitY : kY.init = .initialized := Cond.initialized_spec (findClass_of_methodNamed hn) hkY h3
  have h : At U g.method c below := by rw [hg]; exact X.here
  have hlocals9 : W9 + (maxL + 11) + (headSpec ws rm).room.locals ≤ R.locals := hlocals
  have happ : (headSpec ws rm).appliesLoose y e.platform (U.calling g mk a) = true :=
    Spec.appliesLoose_calling (g := g) h hdg hn hkY hinitY
      (X.room_calling (g := g) (R' := (headSpec ws rm).room) hsize hmY hcY hframes (by rw [hlY]; omega) h4 h5) h1
  obtain ⟨mid, hmid⟩ := h.above
  have hfr : (U.setTop g).frames = (.java g :: mid) ++ below := by rw [State.frames_setTop' g h.top, hmid]; rfl
  obtain ⟨o, s₂, hsteps, -, hend, hq⟩ := Steps.callFree hM p X.admits X.cas X.clock (acts := []) hfr happ hPc trivial
  have hq' : vx_Q Qc XC mc ms free a (U.calling g mk a) o s₂ := hq
  rw [State.frames_setTop' g h.top] at hend
  obtain ⟨g₀, hg0⟩ := Option.isSome_iff_exists.mp h.top
  obtain ⟨r, hr⟩ := State.topJava?_eq_some.mp hg0
  have hr' : (({ U with heap := s₂.heap, slotsUsed := s₂.slotsUsed } : State).setVm s₂.vm).frames = .java g₀ :: r := hr
  rcases hq' with ⟨hqc, L, hfe, hL⟩ | ⟨q, rfl, E, ce, L, hx, hce, hcv, hcl, hW₂, hsm, hL⟩
  · obtain ⟨⟨v, rfl⟩, hW₂, e2, q2, q3, q4, q5, q6⟩ := id hfe
    have e3 : s₂ = ({ (U.calling g mk a).setFrames s₂.frames with heap := s₂.heap, slotsUsed := s₂.slotsUsed } : State).setVm s₂.vm := by
      have : s₂ = ({ s₂ with vm := (U.calling g mk a).vm } : State).setVm s₂.vm := rfl
      rw [e2] at this
      exact this
    obtain ⟨c₂, i₂, len₂, hc₂, hd₂, hf₂⟩ := hend
    have hW' : U.WarmedH s₂.vm := hW₂
    have hcc : c₂ = c := by
      have h1 : s₂.code? g.method = U.code? g.method := by
        rw [State.code?_eq, State.code?_eq, hW'.alike.method?]
      exact Option.some.inj (hc₂.symm.trans (h1.trans h.code))
    subst hcc
    have hlen : len₂ = len := by rw [hdg] at hd₂; cases hd₂; rfl
    subst hlen
    have hs₂ : s₂ = (({ U with heap := s₂.heap, slotsUsed := s₂.slotsUsed } : State).setVm s₂.vm).setTop { g with pc := g.pc + len₂, stack := v.toList ++ g.stack } := by
      refine e3.trans ?_
      rw [hf₂, State.calling_eq h.top, State.setFrames_setFrames, State.setTop_of_frames _ hr', hr]
      rfl
    have hsame : U.sameButNew ({ U with heap := s₂.heap, slotsUsed := s₂.slotsUsed } : State) L mc ms := by
      refine ⟨?_, q2, q3, q4, q5, q6⟩
      obtain ⟨t, ht, -⟩ := State.frames_cons hr
      show ({ U with heap := s₂.heap, slotsUsed := s₂.slotsUsed } : State) = { U.setFrames U.frames with heap := s₂.heap, slotsUsed := s₂.slotsUsed }
      rw [State.setFrames_self ht]
    subst hg
    refine Or.inl ⟨v, ⟨(({ U with heap := s₂.heap, slotsUsed := s₂.slotsUsed } : State).setVm s₂.vm), Ls ++ L, c0 + mc, s0 + ms⟩,
      ⟨X.admits, X.cas, X.clock, X.frames, X.room, X.hears, X.method, X.code, (X.here.setHeapUsed s₂.heap s₂.slotsUsed).setVm hW'.alike, X.tail, State.WarmedH.trans X.warmed hW', X.limits, X.bytes, X.same.trans (hsame.setVm s.vm)⟩,
      ⟨g, mk, s₂, L, rfl, rfl, hqc, rfl, hL, rfl, rfl⟩, ?_⟩
    show Steps p.tables e below _ ((({ U with heap := s₂.heap, slotsUsed := s₂.slotsUsed } : State).setVm s₂.vm).setTop { g with pc := g.pc + len₂, stack := v.toList ++ g.stack })
    rw [← hs₂]
    exact hsteps
  · obtain ⟨e2, q2, q3, q4, q5, q6⟩ := id hsm
    have e3 : s₂ = ({ (U.calling g mk a).setFrames s₂.frames with heap := s₂.heap, slotsUsed := s₂.slotsUsed } : State).setVm s₂.vm := by
      have : s₂ = ({ s₂ with vm := (U.calling g mk a).vm } : State).setVm s₂.vm := rfl
      rw [e2] at this
      exact this
    have hf₂ : s₂.frames = .throwing q :: .java g :: U.frames.tail := hend
    have hW' : U.WarmedH s₂.vm := hW₂
    have hs₂ : s₂ = ((({ U with heap := s₂.heap, slotsUsed := s₂.slotsUsed } : State).setVm s₂.vm).setTop g).pushFrame (.throwing q) := by
      refine e3.trans ?_
      rw [hf₂, State.calling_eq h.top, State.setFrames_setFrames, State.pushFrame, State.frames_setTop _ hr', State.setTop_of_frames _ hr', State.setFrames_setFrames, hr]
      rfl
    have hsame : U.sameButNew ({ U with heap := s₂.heap, slotsUsed := s₂.slotsUsed } : State) L mc ms := by
      refine ⟨?_, q2, q3, q4, q5, q6⟩
      obtain ⟨t, ht, -⟩ := State.frames_cons hr
      show ({ U with heap := s₂.heap, slotsUsed := s₂.slotsUsed } : State) = { U.setFrames U.frames with heap := s₂.heap, slotsUsed := s₂.slotsUsed }
      rw [State.setFrames_self ht]
    subst hg
    refine Or.inr ⟨q, ⟨(({ U with heap := s₂.heap, slotsUsed := s₂.slotsUsed } : State).setVm s₂.vm), Ls ++ L, c0 + mc, s0 + ms⟩,
      ⟨X.admits, X.cas, X.clock, X.frames, X.room, X.hears, X.method, X.code, (X.here.setHeapUsed s₂.heap s₂.slotsUsed).setVm hW'.alike, X.tail, State.WarmedH.trans X.warmed hW', X.limits, X.bytes, X.same.trans (hsame.setVm s.vm)⟩,
      ⟨g, mk, s₂, L, E, ce, rfl, rfl, hx, hce, hcv, hcl, rfl, hL, rfl, rfl⟩, ?_⟩
    show Steps p.tables e below _ (((({ U with heap := s₂.heap, slotsUsed := s₂.slotsUsed } : State).setVm s₂.vm).setTop g).pushFrame (.throwing q))
    rw [← hs₂]
    exact hsteps
end Payer
section Calls
variable {p : Program} {l : Launch} {e : Env} {R : Room} {s : State} {m : MethodId} {args : Array Value} {below : List Frame} {meth : Method} {c : Code} {T : State} {locs : List Loc} {cells slots : Nat}
theorem vx_callV (X : Stand p l e R s m args below meth c T locs cells slots) (hexec : p.tables.exec = Jvm.exec) {own C : String} {index : Nat} {y : MethodName} {bytes : ByteArray} {maxL : Nat} {ret : Option FieldType}
    (hown : s.vm.findClass own = some m.cls) (hlink : (Cond.methodLink own index y).before args s = true) (hinst : (Cond.instanceMethod y).before args s = true) (hsel : (Cond.selects C y y).before args s = true)
    (hcode : (Cond.code y bytes maxL ret).before args s = true) (hy : y.cls ≠ "java/lang/invoke/MethodHandle" ∧ y.cls ≠ "java/lang/invoke/VarHandle")
    {W9 : Nat} {Pre : Pt → Array Value → Prop} {Post : Pt → Array Value → Option Value → Pt → Prop} {PostX : Pt → Array Value → Addr → Pt → Prop} (hK : vx_Back l R p e below s args y 3 W9 Pre Post PostX)
    {b : Addr} {cellB : Cell} (hcell : T.heap[b]? = some cellB) (hobj : cellB.vm.isStatics = false) (hcls : s.vm.findClass C = some cellB.cls)
    {g : JFrame} (hg : g.method = m) (hsize : g.locals.size = c.maxLocals) {argsL rest : List Value} (hlen : ∀ sig, parseMethodDescriptor y.desc = some sig → argsL.length = sig.parameters.length)
    (hstack : g.stack = argsL.reverse ++ .ref b :: rest) (hW : 2 * g.monitorRoom + (rest.map fun v => v.category).sum ≤ W9) (hdg : decode c.code g.pc = .ok (.invokevirtual index, 3))
    (hpre : ∀ vm₁, s.WarmedH vm₁ → Pre ⟨T.setVm vm₁, locs, cells, slots⟩ (Value.ref b :: argsL).toArray) :
    (∃ (v : Option Value) (vm₁ : Vm) (B : Pt), s.WarmedH vm₁ ∧ Stand p l e R s m args below meth c B.U B.locs B.cells B.slots ∧ Post ⟨T.setVm vm₁, locs, cells, slots⟩ (Value.ref b :: argsL).toArray v B ∧
      ∀ target, Steps p.tables e below (B.U.setTop { g with pc := g.pc + 3, stack := v.toList ++ rest }) target → Steps p.tables e below (T.setTop g) target) ∨
    (∃ (q : Addr) (vm₁ : Vm) (B : Pt), s.WarmedH vm₁ ∧ Stand p l e R s m args below meth c B.U B.locs B.cells B.slots ∧ PostX ⟨T.setVm vm₁, locs, cells, slots⟩ (Value.ref b :: argsL).toArray q B ∧
      Steps p.tables e below (T.setTop g) ((B.U.setTop { g with stack := rest }).pushFrame (.throwing q))) := by
  obtain ⟨mk, methM, hnamed, hmethM, hstM, habM⟩ := Cond.instanceMethod_spec hinst
  obtain ⟨methM', cM, hmethM', -, -, -, -, -, -, hsigM⟩ := Cond.code_spec hnamed hcode
  cases hmethM.symm.trans hmethM'
  obtain ⟨c2, r2, m2, q1, q2, q3, q4, kP, hkP, hkPi⟩ := Cond.selects_spec hsel
  cases hcls.symm.trans q1
  cases (State.methodFound?_of_named hnamed hy).symm.trans q2
  cases hnamed.symm.trans q3
  have hselP : selectMethod e.platform s.vm cellB.cls mk = .method mk := by rw [Launch.admits_selectMethod X.admits]; exact q4
  obtain ⟨vm₁, X₁, hstep₁⟩ := X.invokevirtual hexec hown hlink hnamed hmethM hstM hkP hkPi hy (a := b) (cell := cellB) hcell
    (fun z h => by rw [h] at hobj; cases hobj) hselP hmethM habM hkP hkPi (g := g) hg (argsL := argsL) (rest := rest) (hlen _ hsigM) hstack hdg
  rcases hK m meth c ⟨T.setVm vm₁, locs, cells, slots⟩ { g with stack := rest } (.invokevirtual index) mk (Value.ref b :: argsL).toArray X₁ hg hsize hdg hW (X₁.named hnamed) (hpre vm₁ X₁.warmed) with ⟨v, B, X', hpost, hsteps⟩ | ⟨q, B, X', hpost, hsteps⟩
  · exact Or.inl ⟨v, vm₁, B, X₁.warmed, X', hpost, fun target h => hstep₁ _ fun acts => by rw [doInvoke_state]; exact hsteps.trans h⟩
  · exact Or.inr ⟨q, vm₁, B, X₁.warmed, X', hpost, hstep₁ _ fun acts => by rw [doInvoke_state]; exact hsteps⟩
theorem vx_callS (X : Stand p l e R s m args below meth c T locs cells slots) (hexec : p.tables.exec = Jvm.exec) {own : String} {index : Nat} {y : MethodName} {bytes : ByteArray} {maxL : Nat} {ret : Option FieldType}
    (hown : s.vm.findClass own = some m.cls) (hlink : (Cond.methodLink own index y).before args s = true) (hstat : (Cond.static y).before args s = true) (hinit : (Cond.initialized y.cls).before args s = true)
    (hcode : (Cond.code y bytes maxL ret).before args s = true) (hy : y.cls ≠ "java/lang/invoke/MethodHandle" ∧ y.cls ≠ "java/lang/invoke/VarHandle")
    {W9 : Nat} {Pre : Pt → Array Value → Prop} {Post : Pt → Array Value → Option Value → Pt → Prop} {PostX : Pt → Array Value → Addr → Pt → Prop} (hK : vx_Back l R p e below s args y 3 W9 Pre Post PostX)
    {g : JFrame} (hg : g.method = m) (hsize : g.locals.size = c.maxLocals) {argsL rest : List Value} (hlen : ∀ sig, parseMethodDescriptor y.desc = some sig → argsL.length = sig.parameters.length)
    (hstack : g.stack = argsL.reverse ++ rest) (hW : 2 * g.monitorRoom + (rest.map fun v => v.category).sum ≤ W9) (hdg : decode c.code g.pc = .ok (.invokestatic index, 3))
    (hpre : ∀ vm₁, s.WarmedH vm₁ → Pre ⟨T.setVm vm₁, locs, cells, slots⟩ argsL.toArray) :
    (∃ (v : Option Value) (vm₁ : Vm) (B : Pt), s.WarmedH vm₁ ∧ Stand p l e R s m args below meth c B.U B.locs B.cells B.slots ∧ Post ⟨T.setVm vm₁, locs, cells, slots⟩ argsL.toArray v B ∧
      ∀ target, Steps p.tables e below (B.U.setTop { g with pc := g.pc + 3, stack := v.toList ++ rest }) target → Steps p.tables e below (T.setTop g) target) ∨
    (∃ (q : Addr) (vm₁ : Vm) (B : Pt), s.WarmedH vm₁ ∧ Stand p l e R s m args below meth c B.U B.locs B.cells B.slots ∧ PostX ⟨T.setVm vm₁, locs, cells, slots⟩ argsL.toArray q B ∧
      Steps p.tables e below (T.setTop g) ((B.U.setTop { g with stack := rest }).pushFrame (.throwing q))) := by
  obtain ⟨mk, hnamed⟩ := Cond.code_named hcode
  obtain ⟨methM, cM, hmethM, -, -, -, -, -, -, hsigM⟩ := Cond.code_spec hnamed hcode
  have hstatic : methM.isStatic = true := Cond.static_spec hnamed hmethM hstat
  obtain ⟨kP, hkP, -⟩ := className_of_methodNamed hnamed
  have hinitP : kP.init = .initialized := Cond.initialized_spec (findClass_of_methodNamed hnamed) hkP hinit
  obtain ⟨vm₁, X₁, hstep₁⟩ := X.invokestatic hexec hown hlink hnamed hmethM hstatic hkP hinitP hy (g := g) hg (argsL := argsL) (rest := rest) (hlen _ hsigM) hstack hdg
  rcases hK m meth c ⟨T.setVm vm₁, locs, cells, slots⟩ { g with stack := rest } (.invokestatic index) mk argsL.toArray X₁ hg hsize hdg hW (X₁.named hnamed) (hpre vm₁ X₁.warmed) with ⟨v, B, X', hpost, hsteps⟩ | ⟨q, B, X', hpost, hsteps⟩
  · exact Or.inl ⟨v, vm₁, B, X₁.warmed, X', hpost, fun target h => hstep₁ _ fun acts => by rw [doInvoke_state]; exact hsteps.trans h⟩
  · exact Or.inr ⟨q, vm₁, B, X₁.warmed, X', hpost, hstep₁ _ fun acts => by rw [doInvoke_state]; exact hsteps⟩
end Calls
theorem vx_cls {s : State} {T : State} {vm₁ : Vm} {E : String} {k : ClassId} (hW : s.WarmedH vm₁) (h : (T.setVm vm₁).vm.findClass E = some k) : s.vm.findClass E = some k := by
  have h1 : vm₁.findClass E = some k := h
  rw [hW.alike.findClass] at h1
  exact h1
/-- the method's frame g, with q thrown over it -/
def vx_W (p : Program) (l : Launch) (e : Env) (R : Room) (s : State) (m : MethodId) (args : Array Value) (below : List Frame) (meth : Method) (c : Code) (H : Heap) (locs : List Loc) (cells slots : Nat) (Q : State → Prop) (g : JFrame) (q : Addr) : Prop :=
  ∀ T : State, T.heap = H → Stand p l e R s m args below meth c T locs cells slots → ∃ t, Steps p.tables e below ((T.setTop g).pushFrame (.throwing q)) t ∧ Q t
def vx_Run (p : Program) (l : Launch) (e : Env) (R : Room) (s : State) (m : MethodId) (args : Array Value) (below : List Frame) (meth : Method) (c : Code) (H : Heap) (locs : List Loc) (cells slots mc ms : Nat) (g : JFrame) (rest : List Value) (Qa : State → Outcome → State → Prop) (XC : String → State → State → Prop) (free : Addr → Prop) : Prop :=
  ∀ T : State, T.heap = H → Stand p l e R s m args below meth c T locs cells slots →
    (∃ (v : Option Value) (st₀ t T' : State) (L : List Loc), st₀.heap = H ∧ Stand p l e R s m args below meth c T' (locs ++ L) (cells + mc) (slots + ms) ∧ (∀ q ∈ L, free q.base) ∧ T'.heap = t.heap ∧ T'.vm = t.vm ∧ Qa st₀ (.returned v) t ∧
      Goes p e below T g T' { g with pc := g.pc + 3, stack := v.toList ++ rest }) ∨
    (∃ (q : Addr) (st₀ t T' : State) (L : List Loc) (E : String) (ce : Cell), st₀.heap = H ∧ Stand p l e R s m args below meth c T' (locs ++ L) (cells + mc) (slots + ms) ∧ (∀ z ∈ L, free z.base) ∧ T'.heap = t.heap ∧ T'.vm = t.vm ∧ XC E st₀ t ∧ t.heap[q]? = some ce ∧ ce.vm = .none ∧ s.vm.findClass E = some ce.cls ∧
      Steps p.tables e below (T.setTop g) ((T'.setTop { g with stack := rest }).pushFrame (.throwing q)))
def vx_X {S : Type} (px : S → Prop) (B : String → S → State → Prop) (A : Nat → Prop) : String → State → State → Prop := fun E st t => ∃ u : S, px u ∧ B E u t ∧ va_F A st t
section Runs
variable {p : Program} {l : Launch} {e : Env} {R : Room} {s : State} {m : MethodId} {args : Array Value} {below : List Frame} {meth : Method} {c : Code} {H : Heap} {locs : List Loc} {cells slots : Nat}
variable {y : MethodName} {bytes cc : ByteArray} {maxL nL mc ms n index : Nat} {ret : Option FieldType} {ws : List Cond} {rm : Room} {Pc : Array Value → State → Prop} {Qc : Array Value → State → Outcome → State → Prop} {XC : String → State → State → Prop} {free : Addr → Prop} {Ts : List Cond} {own C : String} {b : Addr} {As rest : List Value} {g : JFrame}
theorem vx_callBack (cb : CallB R s args own index y bytes maxL ret ws rm mc ms n) (hM : vx_Met l y ws rm Pc Qc XC mc ms free) (hbl : FrameBlind Pc) : vx_Back l R p e below s args y 3 8 (PreOf R mc ms Pc) (PostOf Qc mc ms free) (vx_Post XC mc ms free) := by
  obtain ⟨hrc, hrs, hfr, hlo, hws, hcw, -, hini, -⟩ := cb
  exact vx_back (bytes := bytes) (maxL := maxL) (ret := ret) hM hbl hrc hrs hfr hlo hws hcw (fun a' U hW => word_at hW (Or.inl (by first | rfl | simp [Cond.onTables, Cond.keeps, Cond.steady])) hini)
theorem vx_runV (S : CallFix p m c cc nL s args Ts own) (hM : vx_Met l y ws rm Pc Qc XC mc ms free) (cw : CallW R s args own C index y bytes maxL ret ws rm mc ms n) (hp : PreV s H C b Pc As)
    (hg : g.method = m) (hn : As.length = n) (hsize : g.locals.size = nL) (hstack : g.stack = As.reverse ++ .ref b :: rest) (hW : 2 * g.monitorRoom + (rest.map fun v => v.category).sum ≤ 8) (hdg : decode cc g.pc = .ok (.invokevirtual index, 3)) (hf : cells + mc ≤ R.cells ∧ slots + ms ≤ R.slots) :
    vx_Run p l e R s m args below meth c H locs cells slots mc ms g rest (Qc (Value.ref b :: As).toArray) XC free := by
  have hK : vx_Back l R p e below s args y 3 8 (PreOf R mc ms Pc) (PostOf Qc mc ms free) (vx_Post XC mc ms free) := vx_callBack cw.1 hM hp.1
  obtain ⟨⟨-, -, -, -, -, -, hcode, -, hy, hlen, hl⟩, hin, hse⟩ := cw
  obtain ⟨hx, hb, hml, ho, -⟩ := S
  obtain ⟨-, ⟨cellB, hcB, hoB, hclB⟩, hPc⟩ := hp
  intro T hT X
  rcases vx_callV X hx (C := C) (bytes := bytes) (maxL := maxL) (ret := ret) ho hl hin hse hcode hy hK (by rw [hT]; exact hcB) hoB hclB hg (hsize.trans hml.symm) (argsL := As) (rest := rest) (fun sig h => hn.trans (hlen sig h)) hstack hW (by rw [hb]; exact hdg)
    (fun vm₁ hW₁ => ⟨hf.1, hf.2, hPc (T.setVm vm₁) hT hW₁⟩) with ⟨v, vm₁, ⟨U', l2, c2, s2⟩, hW₁, X', ⟨g', mk, t, L, e1, e2, hq, h1, hL, h2, h3⟩, st⟩ | ⟨q, vm₁, ⟨U', l2, c2, s2⟩, hW₁, X', ⟨g', mk, t, L, E, ce, e1, e2, hq, hce, hcv, hcl, h1, hL, h2, h3⟩, st⟩
  · dsimp only [Pt.U, Pt.locs, Pt.cells, Pt.slots] at X' e1 e2 h1 h2 h3 st
    subst h1; subst h2; subst h3
    exact Or.inl ⟨v, (T.setVm vm₁).calling g' mk (Value.ref b :: As).toArray, t, U', L, hT, X', hL, e1, e2, hq, st⟩
  · dsimp only [Pt.U, Pt.locs, Pt.cells, Pt.slots] at X' e1 e2 h1 h2 h3 st hcl
    subst h1; subst h2; subst h3
    exact Or.inr ⟨q, (T.setVm vm₁).calling g' mk (Value.ref b :: As).toArray, t, U', L, E, ce, hT, X', hL, e1, e2, hq, hce, hcv, vx_cls hW₁ hcl, st⟩
theorem vx_runS (S : CallFix p m c cc nL s args Ts own) (hM : vx_Met l y ws rm Pc Qc XC mc ms free) (cw : CallB R s args own index y bytes maxL ret ws rm mc ms n ∧ (Cond.static y).before args s = true) (hp : PreS s H Pc As)
    (hg : g.method = m) (hn : As.length = n) (hsize : g.locals.size = nL) (hstack : g.stack = As.reverse ++ rest) (hW : 2 * g.monitorRoom + (rest.map fun v => v.category).sum ≤ 8) (hdg : decode cc g.pc = .ok (.invokestatic index, 3)) (hf : cells + mc ≤ R.cells ∧ slots + ms ≤ R.slots) :
    vx_Run p l e R s m args below meth c H locs cells slots mc ms g rest (Qc As.toArray) XC free := by
  have hK : vx_Back l R p e below s args y 3 8 (PreOf R mc ms Pc) (PostOf Qc mc ms free) (vx_Post XC mc ms free) := vx_callBack cw.1 hM hp.1
  obtain ⟨⟨-, -, -, -, -, -, hcode, hini, hy, hlen, hl⟩, hstt⟩ := cw
  obtain ⟨hx, hb, hml, ho, -⟩ := S
  intro T hT X
  rcases vx_callS X hx (bytes := bytes) (maxL := maxL) (ret := ret) ho hl hstt hini hcode hy hK hg (hsize.trans hml.symm) (argsL := As) (rest := rest) (fun sig h => hn.trans (hlen sig h)) hstack hW (by rw [hb]; exact hdg)
    (fun vm₁ hW₁ => ⟨hf.1, hf.2, hp.2 (T.setVm vm₁) hT hW₁⟩) with ⟨v, vm₁, ⟨U', l2, c2, s2⟩, hW₁, X', ⟨g', mk, t, L, e1, e2, hq, h1, hL, h2, h3⟩, st⟩ | ⟨q, vm₁, ⟨U', l2, c2, s2⟩, hW₁, X', ⟨g', mk, t, L, E, ce, e1, e2, hq, hce, hcv, hcl, h1, hL, h2, h3⟩, st⟩
  · dsimp only [Pt.U, Pt.locs, Pt.cells, Pt.slots] at X' e1 e2 h1 h2 h3 st
    subst h1; subst h2; subst h3
    exact Or.inl ⟨v, (T.setVm vm₁).calling g' mk As.toArray, t, U', L, hT, X', hL, e1, e2, hq, st⟩
  · dsimp only [Pt.U, Pt.locs, Pt.cells, Pt.slots] at X' e1 e2 h1 h2 h3 st hcl
    subst h1; subst h2; subst h3
    exact Or.inr ⟨q, (T.setVm vm₁).calling g' mk As.toArray, t, U', L, E, ce, hT, X', hL, e1, e2, hq, hce, hcv, vx_cls hW₁ hcl, st⟩
end Runs
section Rows
variable {p : Program} {l : Launch} {e : Env} {R : Room} {s : State} {m : MethodId} {args : Array Value} {below : List Frame} {meth : Method} {c : Code} {H : Heap} {locs : List Loc} {cells slots : Nat} {Q : State → Prop}
variable {mc ms : Nat} {free : Addr → Prop} {A0 A1 : Nat → Prop} {H0 : Heap} {a : Array Value} {pc : Nat} {ls : Array Slot} {st0 rest : List Value}
theorem vx_keep {st₀ t T' : State} {L : List Loc} (h0 : st₀.heap = H) (e1 : T'.heap = t.heap) (hS : va_S A0 H0 H locs) (hA : ∀ q, q < H.size → A1 q → A0 q) (hf : ∀ q, free q → A0 q) (hL : ∀ q ∈ L, free q.base) (hF : va_F A1 st₀ t) :
    H.size ≤ T'.heap.size ∧ (∀ q : Nat, q < H.size → ¬ A1 q → T'.heap[q]? = H[q]?) ∧ va_S A0 H0 T'.heap (locs ++ L) := by
  obtain ⟨hz, hk⟩ := hF
  rw [h0] at hz hk
  exact ⟨by rw [e1]; exact hz, fun q h1 h2 => by rw [e1]; exact hk q h1 h2,
    ⟨Nat.le_trans hS.1 (by rw [e1]; exact hz), fun q h1 h2 => by rw [e1, hk q (Nat.lt_of_lt_of_le h1 hS.1) (fun z => h2 (hA q (Nat.lt_of_lt_of_le h1 hS.1) z))]; exact hS.2.1 q h1 h2, fun q hq => by
      rcases List.mem_append.mp hq with h | h
      · exact hS.2.2 q h
      · exact hf _ (hL q h)⟩⟩
theorem vx_calli {S SX : Type} {post : Int32 → S → Prop} {px : SX → Prop} {B : S → State → Prop} {BX : String → SX → State → Prop} {AX : Nat → Prop} (hr : vx_Run p l e R s m args below meth c H locs cells slots mc ms (F0 m pc ls st0) rest (va_Qi post B A1 a) (vx_X px BX AX) free) (hS : va_S A0 H0 H locs) (hA : ∀ q, q < H.size → A1 q → A0 q) (hf : ∀ q, free q → A0 q) (hAX : ∀ q, q < H.size → AX q → A0 q)
    (kx : ∀ (E : String) (ce : Cell) (q9 : Addr) (u : SX) (t : State) (H1 : Heap) (locs1 : List Loc), t.heap = H1 → s.vm.Alike t.vm → px u → BX E u t → H.size ≤ H1.size → (∀ q : Nat, q < H.size → ¬ AX q → H1[q]? = H[q]?) → va_S A0 H0 H1 locs1 → H1[q9]? = some ce → ce.vm = .none → s.vm.findClass E = some ce.cls → vx_W p l e R s m args below meth c H1 locs1 (cells + mc) (slots + ms) Q (F0 m pc ls rest) q9)
    (kk : ∀ (r : Int32) (u : S) (t : State) (H1 : Heap) (locs1 : List Loc), t.heap = H1 → s.vm.Alike t.vm → post r u → B u t → H.size ≤ H1.size → (∀ q : Nat, q < H.size → ¬ A1 q → H1[q]? = H[q]?) → va_S A0 H0 H1 locs1 → W p l e R s m args below meth c H1 locs1 (cells + mc) (slots + ms) Q (F0 m (pc + 3) ls (.int r :: rest))) : W p l e R s m args below meth c H locs cells slots Q (F0 m pc ls st0) := by
  intro T hT X
  rcases hr T hT X with ⟨v, st₀, t, T', L, h0, X', hL, e1, e2, ⟨⟨r, u, hv, hp, hb⟩, hF⟩, st⟩ | ⟨q, st₀, t, T', L, E, ce, h0, X', hL, e1, e2, ⟨u, hp, hb, hF⟩, hce, hcv, hcl, st⟩
  · cases hv
    obtain ⟨k1, k2, k3⟩ := vx_keep h0 e1 hS hA hf hL hF
    obtain ⟨t2, a1, b1⟩ := kk r u t T'.heap (locs ++ L) e1.symm (by rw [← e2]; exact X'.warmed.alike) hp hb k1 k2 k3 T' rfl X'
    exact ⟨t2, st t2 a1, b1⟩
  · obtain ⟨k1, k2, k3⟩ := vx_keep h0 e1 hS hAX hf hL hF
    obtain ⟨t2, a1, b1⟩ := kx E ce q u t T'.heap (locs ++ L) e1.symm (by rw [← e2]; exact X'.warmed.alike) hp hb k1 k2 k3 (by rw [e1]; exact hce) hcv hcl T' rfl X'
    exact ⟨t2, st.trans a1, b1⟩
theorem vx_calll {S SX : Type} {post : Int64 → S → Prop} {px : SX → Prop} {B : S → State → Prop} {BX : String → SX → State → Prop} {AX : Nat → Prop} (hr : vx_Run p l e R s m args below meth c H locs cells slots mc ms (F0 m pc ls st0) rest (va_Ql post B A1 a) (vx_X px BX AX) free) (hS : va_S A0 H0 H locs) (hA : ∀ q, q < H.size → A1 q → A0 q) (hf : ∀ q, free q → A0 q) (hAX : ∀ q, q < H.size → AX q → A0 q)
    (kx : ∀ (E : String) (ce : Cell) (q9 : Addr) (u : SX) (t : State) (H1 : Heap) (locs1 : List Loc), t.heap = H1 → s.vm.Alike t.vm → px u → BX E u t → H.size ≤ H1.size → (∀ q : Nat, q < H.size → ¬ AX q → H1[q]? = H[q]?) → va_S A0 H0 H1 locs1 → H1[q9]? = some ce → ce.vm = .none → s.vm.findClass E = some ce.cls → vx_W p l e R s m args below meth c H1 locs1 (cells + mc) (slots + ms) Q (F0 m pc ls rest) q9)
    (kk : ∀ (r : Int64) (u : S) (t : State) (H1 : Heap) (locs1 : List Loc), t.heap = H1 → s.vm.Alike t.vm → post r u → B u t → H.size ≤ H1.size → (∀ q : Nat, q < H.size → ¬ A1 q → H1[q]? = H[q]?) → va_S A0 H0 H1 locs1 → W p l e R s m args below meth c H1 locs1 (cells + mc) (slots + ms) Q (F0 m (pc + 3) ls (.long r :: rest))) : W p l e R s m args below meth c H locs cells slots Q (F0 m pc ls st0) := by
  intro T hT X
  rcases hr T hT X with ⟨v, st₀, t, T', L, h0, X', hL, e1, e2, ⟨⟨r, u, hv, hp, hb⟩, hF⟩, st⟩ | ⟨q, st₀, t, T', L, E, ce, h0, X', hL, e1, e2, ⟨u, hp, hb, hF⟩, hce, hcv, hcl, st⟩
  · cases hv
    obtain ⟨k1, k2, k3⟩ := vx_keep h0 e1 hS hA hf hL hF
    obtain ⟨t2, a1, b1⟩ := kk r u t T'.heap (locs ++ L) e1.symm (by rw [← e2]; exact X'.warmed.alike) hp hb k1 k2 k3 T' rfl X'
    exact ⟨t2, st t2 a1, b1⟩
  · obtain ⟨k1, k2, k3⟩ := vx_keep h0 e1 hS hAX hf hL hF
    obtain ⟨t2, a1, b1⟩ := kx E ce q u t T'.heap (locs ++ L) e1.symm (by rw [← e2]; exact X'.warmed.alike) hp hb k1 k2 k3 (by rw [e1]; exact hce) hcv hcl T' rfl X'
    exact ⟨t2, st.trans a1, b1⟩
theorem vx_callf {S SX : Type} {post : UInt32 → S → Prop} {px : SX → Prop} {B : S → State → Prop} {BX : String → SX → State → Prop} {AX : Nat → Prop} (hr : vx_Run p l e R s m args below meth c H locs cells slots mc ms (F0 m pc ls st0) rest (va_Qf post B A1 a) (vx_X px BX AX) free) (hS : va_S A0 H0 H locs) (hA : ∀ q, q < H.size → A1 q → A0 q) (hf : ∀ q, free q → A0 q) (hAX : ∀ q, q < H.size → AX q → A0 q)
    (kx : ∀ (E : String) (ce : Cell) (q9 : Addr) (u : SX) (t : State) (H1 : Heap) (locs1 : List Loc), t.heap = H1 → s.vm.Alike t.vm → px u → BX E u t → H.size ≤ H1.size → (∀ q : Nat, q < H.size → ¬ AX q → H1[q]? = H[q]?) → va_S A0 H0 H1 locs1 → H1[q9]? = some ce → ce.vm = .none → s.vm.findClass E = some ce.cls → vx_W p l e R s m args below meth c H1 locs1 (cells + mc) (slots + ms) Q (F0 m pc ls rest) q9)
    (kk : ∀ (r : UInt32) (u : S) (t : State) (H1 : Heap) (locs1 : List Loc), t.heap = H1 → s.vm.Alike t.vm → post r u → B u t → H.size ≤ H1.size → (∀ q : Nat, q < H.size → ¬ A1 q → H1[q]? = H[q]?) → va_S A0 H0 H1 locs1 → W p l e R s m args below meth c H1 locs1 (cells + mc) (slots + ms) Q (F0 m (pc + 3) ls (.float r :: rest))) : W p l e R s m args below meth c H locs cells slots Q (F0 m pc ls st0) := by
  intro T hT X
  rcases hr T hT X with ⟨v, st₀, t, T', L, h0, X', hL, e1, e2, ⟨⟨r, u, hv, hp, hb⟩, hF⟩, st⟩ | ⟨q, st₀, t, T', L, E, ce, h0, X', hL, e1, e2, ⟨u, hp, hb, hF⟩, hce, hcv, hcl, st⟩
  · cases hv
    obtain ⟨k1, k2, k3⟩ := vx_keep h0 e1 hS hA hf hL hF
    obtain ⟨t2, a1, b1⟩ := kk r u t T'.heap (locs ++ L) e1.symm (by rw [← e2]; exact X'.warmed.alike) hp hb k1 k2 k3 T' rfl X'
    exact ⟨t2, st t2 a1, b1⟩
  · obtain ⟨k1, k2, k3⟩ := vx_keep h0 e1 hS hAX hf hL hF
    obtain ⟨t2, a1, b1⟩ := kx E ce q u t T'.heap (locs ++ L) e1.symm (by rw [← e2]; exact X'.warmed.alike) hp hb k1 k2 k3 (by rw [e1]; exact hce) hcv hcl T' rfl X'
    exact ⟨t2, st.trans a1, b1⟩
theorem vx_calld {S SX : Type} {post : UInt64 → S → Prop} {px : SX → Prop} {B : S → State → Prop} {BX : String → SX → State → Prop} {AX : Nat → Prop} (hr : vx_Run p l e R s m args below meth c H locs cells slots mc ms (F0 m pc ls st0) rest (va_Qd post B A1 a) (vx_X px BX AX) free) (hS : va_S A0 H0 H locs) (hA : ∀ q, q < H.size → A1 q → A0 q) (hf : ∀ q, free q → A0 q) (hAX : ∀ q, q < H.size → AX q → A0 q)
    (kx : ∀ (E : String) (ce : Cell) (q9 : Addr) (u : SX) (t : State) (H1 : Heap) (locs1 : List Loc), t.heap = H1 → s.vm.Alike t.vm → px u → BX E u t → H.size ≤ H1.size → (∀ q : Nat, q < H.size → ¬ AX q → H1[q]? = H[q]?) → va_S A0 H0 H1 locs1 → H1[q9]? = some ce → ce.vm = .none → s.vm.findClass E = some ce.cls → vx_W p l e R s m args below meth c H1 locs1 (cells + mc) (slots + ms) Q (F0 m pc ls rest) q9)
    (kk : ∀ (r : UInt64) (u : S) (t : State) (H1 : Heap) (locs1 : List Loc), t.heap = H1 → s.vm.Alike t.vm → post r u → B u t → H.size ≤ H1.size → (∀ q : Nat, q < H.size → ¬ A1 q → H1[q]? = H[q]?) → va_S A0 H0 H1 locs1 → W p l e R s m args below meth c H1 locs1 (cells + mc) (slots + ms) Q (F0 m (pc + 3) ls (.double r :: rest))) : W p l e R s m args below meth c H locs cells slots Q (F0 m pc ls st0) := by
  intro T hT X
  rcases hr T hT X with ⟨v, st₀, t, T', L, h0, X', hL, e1, e2, ⟨⟨r, u, hv, hp, hb⟩, hF⟩, st⟩ | ⟨q, st₀, t, T', L, E, ce, h0, X', hL, e1, e2, ⟨u, hp, hb, hF⟩, hce, hcv, hcl, st⟩
  · cases hv
    obtain ⟨k1, k2, k3⟩ := vx_keep h0 e1 hS hA hf hL hF
    obtain ⟨t2, a1, b1⟩ := kk r u t T'.heap (locs ++ L) e1.symm (by rw [← e2]; exact X'.warmed.alike) hp hb k1 k2 k3 T' rfl X'
    exact ⟨t2, st t2 a1, b1⟩
  · obtain ⟨k1, k2, k3⟩ := vx_keep h0 e1 hS hAX hf hL hF
    obtain ⟨t2, a1, b1⟩ := kx E ce q u t T'.heap (locs ++ L) e1.symm (by rw [← e2]; exact X'.warmed.alike) hp hb k1 k2 k3 (by rw [e1]; exact hce) hcv hcl T' rfl X'
    exact ⟨t2, st.trans a1, b1⟩
theorem vx_callv {S SX : Type} {post : S → Prop} {px : SX → Prop} {B : S → State → Prop} {BX : String → SX → State → Prop} {AX : Nat → Prop} (hr : vx_Run p l e R s m args below meth c H locs cells slots mc ms (F0 m pc ls st0) rest (va_Qv post B A1 a) (vx_X px BX AX) free) (hS : va_S A0 H0 H locs) (hA : ∀ q, q < H.size → A1 q → A0 q) (hf : ∀ q, free q → A0 q) (hAX : ∀ q, q < H.size → AX q → A0 q)
    (kx : ∀ (E : String) (ce : Cell) (q9 : Addr) (u : SX) (t : State) (H1 : Heap) (locs1 : List Loc), t.heap = H1 → s.vm.Alike t.vm → px u → BX E u t → H.size ≤ H1.size → (∀ q : Nat, q < H.size → ¬ AX q → H1[q]? = H[q]?) → va_S A0 H0 H1 locs1 → H1[q9]? = some ce → ce.vm = .none → s.vm.findClass E = some ce.cls → vx_W p l e R s m args below meth c H1 locs1 (cells + mc) (slots + ms) Q (F0 m pc ls rest) q9)
    (kk : ∀ (u : S) (t : State) (H1 : Heap) (locs1 : List Loc), t.heap = H1 → s.vm.Alike t.vm → post u → B u t → H.size ≤ H1.size → (∀ q : Nat, q < H.size → ¬ A1 q → H1[q]? = H[q]?) → va_S A0 H0 H1 locs1 → W p l e R s m args below meth c H1 locs1 (cells + mc) (slots + ms) Q (F0 m (pc + 3) ls (rest))) : W p l e R s m args below meth c H locs cells slots Q (F0 m pc ls st0) := by
  intro T hT X
  rcases hr T hT X with ⟨v, st₀, t, T', L, h0, X', hL, e1, e2, ⟨⟨u, hv, hp, hb⟩, hF⟩, st⟩ | ⟨q, st₀, t, T', L, E, ce, h0, X', hL, e1, e2, ⟨u, hp, hb, hF⟩, hce, hcv, hcl, st⟩
  · cases hv
    obtain ⟨k1, k2, k3⟩ := vx_keep h0 e1 hS hA hf hL hF
    obtain ⟨t2, a1, b1⟩ := kk u t T'.heap (locs ++ L) e1.symm (by rw [← e2]; exact X'.warmed.alike) hp hb k1 k2 k3 T' rfl X'
    exact ⟨t2, st t2 a1, b1⟩
  · obtain ⟨k1, k2, k3⟩ := vx_keep h0 e1 hS hAX hf hL hF
    obtain ⟨t2, a1, b1⟩ := kx E ce q u t T'.heap (locs ++ L) e1.symm (by rw [← e2]; exact X'.warmed.alike) hp hb k1 k2 k3 (by rw [e1]; exact hce) hcv hcl T' rfl X'
    exact ⟨t2, st.trans a1, b1⟩
/-- caught by the row x of this method's table; the rows ahead don't take it -/
theorem vx_catch {own name : String} {E : String} {ce : Cell} {q : Addr} (hown : s.vm.findClass own = some m.cls) (pre : List ExceptionTableEntry) (x : ExceptionTableEntry) (suf : List ExceptionTableEntry) (hsplit : c.exceptionTable.toList = pre ++ x :: suf)
    (hpass : ∀ z ∈ pre, covers z pc = false ∨ (z.catchType ≠ 0 ∧ ∃ nm : String, (Cond.classLink own z.catchType nm).before args s = true ∧ va_Nc E nm s)) (hx : covers x pc = true) (h0 : x.catchType ≠ 0)
    (hlink : (Cond.classLink own x.catchType name).before args s = true) (hcast : (Cond.castable E name).before args s = true) (hcell : H[q]? = some ce) (hv : ce.vm = .none) (hcl : s.vm.findClass E = some ce.cls)
    (kk : W p l e R s m args below meth c H locs cells slots Q (F0 m x.handlerPc ls [.ref q])) : vx_W p l e R s m args below meth c H locs cells slots Q (F0 m pc ls rest) q := by
  intro T hT X
  have hpl : e.platform.magicAccessors = ({} : Platform).magicAccessors := by rw [X.admits.platform]
  obtain ⟨c3, c4, hc3, hc4, hasg⟩ := Cond.castable_spec hcast
  cases Option.some.inj (hc3.symm.trans hcl)
  obtain ⟨c5, hc5, hcl5⟩ := Cond.classLink_spec hown hlink e.platform hpl
  cases Option.some.inj (hc4.symm.trans hc5)
  obtain ⟨vm', X', st⟩ := Stand.thenCaughtThrough X q (g := F0 m pc ls rest) rfl (Steps.refl _) (by rw [hT]; exact hcell) (by rw [hv]; rfl) (by obtain ⟨k9, h9, -⟩ := Vm.findClass_spec hcl; exact ⟨k9, h9⟩) pre x suf hsplit
    (fun z hz => by
      rcases hpass z hz with h | ⟨hz0, nm, hl1, hn1⟩
      · exact Or.inl h
      · obtain ⟨c6, hc6, hcl6⟩ := Cond.classLink_spec hown hl1 e.platform hpl
        obtain ⟨a8, b8, h1, h2, h3⟩ := hn1
        cases Option.some.inj (h1.symm.trans hcl)
        cases Option.some.inj (h2.symm.trans hc6)
        exact Or.inr ⟨hz0, _, hcl6, h3⟩) hx (Or.inr ⟨h0, c4, hcl5, hasg⟩)
  obtain ⟨t, a1, b1⟩ := kk (T.setVm vm') hT X'
  exact ⟨t, st.trans a1, b1⟩
end Rows
section Ends
variable {p : Program} {l : Launch} {e : Env} {R : Room} {s : State} {m : MethodId} {args : Array Value} {below : List Frame} {meth : Method} {c : Code} {H : Heap} {locs : List Loc} {cells slots : Nat} {Q : State → Prop}
variable {mc ms : Nat} {free : Addr → Prop} {A0 A1 : Nat → Prop} {H0 : Heap} {a : Array Value} {ls : Array Slot} {st0 rest : List Value}
variable {Qc : Array Value → State → Outcome → State → Prop} {XC : String → State → State → Prop}
/-- what a body that may throw owes at its end -/
def vx_MQ (below : List Frame) (Qc : Array Value → State → Outcome → State → Prop) (XC : String → State → State → Prop) (a : Array Value) (s : State) (mc ms : Nat) (free : Addr → Prop) : State → Prop := fun t =>
  ∃ o, t.status = .running ∧ Ended t below o ∧ vx_Q Qc XC mc ms free a s o t
theorem vx_ret {g : JFrame} {mc ms : Nat} (k : W p l e R s m args below meth c H locs cells slots (MQ below Qc args s mc ms free) g) : W p l e R s m args below meth c H locs cells slots (vx_MQ below Qc XC args s mc ms free) g := by
  intro T hT X
  obtain ⟨t, a1, o, b1, b2, b3, b4⟩ := k T hT X
  exact ⟨t, a1, o, b1, b2, Or.inl ⟨b3, b4⟩⟩
/-- not caught here: it goes on to the caller -/
theorem vx_widen {g : JFrame} {q : Addr} {k n : Nat} (h1 : cells ≤ k) (h2 : slots ≤ n) (kk : vx_W p l e R s m args below meth c H locs k n Q g q) : vx_W p l e R s m args below meth c H locs cells slots Q g q := fun T hT X => kk T hT (stand_widen X h1 h2)
theorem vx_out {pc : Nat} {E : String} {ce : Cell} {q : Addr} {mc ms : Nat} (hout : ∀ x ∈ c.exceptionTable.toList, covers x pc = false) (hlocks : meth.locks = false) (hcell : H[q]? = some ce) (hv : ce.vm = .none) (hcl : s.vm.findClass E = some ce.cls)
    (hx : ∀ t : State, t.heap = H → s.vm.Alike t.vm → XC E s t) (hf : ∀ z ∈ locs, free z.base) (hc : cells ≤ mc) (hs : slots ≤ ms) :
    vx_W p l e R s m args below meth c H locs cells slots (vx_MQ below Qc XC args s mc ms free) (F0 m pc ls rest) q := by
  intro T hT X
  obtain ⟨st1, hrun, hend, hW, hsm⟩ := X.leaveThrown q (g := F0 m pc ls rest) rfl rfl rfl hout hlocks
  have hcell9 : (T.setFrames (.throwing q :: below)).heap[q]? = some ce := by
    show T.heap[q]? = some ce
    rw [hT]; exact hcell
  exact ⟨_, st1, .threw q, hrun, hend, Or.inr ⟨q, rfl, E, ce, locs, hx _ hT hW.alike, hcell9, hv, hcl, hW, hsm.mono hc hs, hf⟩⟩
theorem vx_frame {U : State} {k n : Nat} (h : s.sameButNew ({ U with vm := s.vm } : State) locs k n) : s.heap.size ≤ U.heap.size ∧ ∀ q : Nat, q < s.heap.size → (∀ z ∈ locs, z.base ≠ q) → U.heap[q]? = s.heap[q]? := by
  obtain ⟨-, h2, -, -, -, h6⟩ := h
  refine ⟨h2, fun q hq hz => ?_⟩
  obtain ⟨c9, e1, e2, e3, e4⟩ := h6 q _ (Array.getElem?_eq_getElem hq)
  have hs : c9.slots = (s.heap[q]).slots := Array.ext_getElem? fun i => e4 i fun hm => hz _ hm rfl
  have h9 : c9 = s.heap[q] := by
    rw [hs] at e2
    exact e2
  have e5 : U.heap[q]? = some c9 := e1
  rw [e5, h9, Array.getElem?_eq_getElem hq]
/-- the words of a throw but the four that speak of the heap -/
def vx_no (w : Cond) : Bool := decide (w ≠ .isRef (.static Bundle.tN "UNASSIGNED_STACK" Bundle.steD)) && decide (w ≠ .isRef (.static Bundle.tN "SUPPRESSED_SENTINEL" Bundle.listD)) && decide (w ≠ .laysStatic Bundle.tN "UNASSIGNED_STACK" Bundle.steD) && decide (w ≠ .laysStatic Bundle.tN "SUPPRESSED_SENTINEL" Bundle.listD)
def vx_at0 (own : String) (ic : Nat) (X : String) (names : List String) : List Cond := (Bundle.ownAtoms0 own ic X names).filter vx_no
def vx_atS (own : String) (ic : Nat) (X : String) (names : List String) : List Cond := (Bundle.ownAtoms own ic X names).filter vx_no
/-- a word that the tables alone decide, or a good one -/
def vx_ot (w : Cond) : Bool := w.onTables || goodWord w
theorem vx_ot_at {args a' : Array Value} {s U : State} {w : Cond} (hW : s.WarmedH U.vm) (hvm : s.vm = U.vm) (hg : vx_ot w = true) (h : w.before args s = true) : w.before a' U = true := by
  simp only [vx_ot, Bool.or_eq_true] at hg
  rcases hg with hg | hg
  · exact va_tabs hg hvm h
  · exact word_at hW (good_of_word hg) h
/-- a list's words: the good ones out of the method's own list, the others by premises of their own -/
theorem vx_hat {args : Array Value} {s : State} {L B : List Cond} (h1 : ∀ w ∈ L.filter goodWord, w.before args s = true) (h2 : ∀ w ∈ L.filter (fun w => !goodWord w), w ∈ B) (h3 : ∀ w ∈ B, w.before args s = true) : ∀ w ∈ L, w.before args s = true := by
  intro w hw
  by_cases g : goodWord w = true
  · exact h1 w (List.mem_filter.mpr ⟨hw, g⟩)
  · refine h3 w (h2 w (List.mem_filter.mpr ⟨hw, ?_⟩))
    show (!goodWord w) = true
    cases hgw : goodWord w
    · rfl
    · exact absurd hgw g
theorem vx_c {args : Array Value} {s : State} {w : Cond} {B : List Cond} (h : w.before args s = true) (t : ∀ w ∈ B, w.before args s = true) : ∀ w' ∈ w :: B, w'.before args s = true := fun w' h' => (List.mem_cons.mp h').elim (fun e => by rw [e]; exact h) (t w')
theorem vx_n {args : Array Value} {s : State} : ∀ w ∈ ([] : List Cond), w.before args s = true := fun _ h => nomatch h
theorem vx_own {args : Array Value} {s : State} {L : List Cond} (h1 : ∀ w ∈ L.filter vx_no, w.before args s = true)
    (hU : (Cond.isRef (.static Bundle.tN "UNASSIGNED_STACK" Bundle.steD)).before args s = true) (hN : (Cond.isRef (.static Bundle.tN "SUPPRESSED_SENTINEL" Bundle.listD)).before args s = true)
    (lU : (Cond.laysStatic Bundle.tN "UNASSIGNED_STACK" Bundle.steD).before args s = true) (lN : (Cond.laysStatic Bundle.tN "SUPPRESSED_SENTINEL" Bundle.listD).before args s = true) : ∀ w ∈ L, w.before args s = true := by
  intro w hw
  by_cases e1 : w = .isRef (.static Bundle.tN "UNASSIGNED_STACK" Bundle.steD)
  · rw [e1]; exact hU
  · by_cases e2 : w = .isRef (.static Bundle.tN "SUPPRESSED_SENTINEL" Bundle.listD)
    · rw [e2]; exact hN
    · by_cases e3 : w = .laysStatic Bundle.tN "UNASSIGNED_STACK" Bundle.steD
      · rw [e3]; exact lU
      · by_cases e4 : w = .laysStatic Bundle.tN "SUPPRESSED_SENTINEL" Bundle.listD
        · rw [e4]; exact lN
        · exact h1 w (List.mem_filter.mpr ⟨hw, by unfold vx_no; rw [decide_eq_true e1, decide_eq_true e2, decide_eq_true e3, decide_eq_true e4]; rfl⟩)
/-- where a static field lies, its class's statics cell in H -/
def vx_L (C n d : String) (A : Nat → Prop) (U : State) (H : Heap) : Prop := ∃ (c : ClassId) (k : Class) (i : Nat) (f : Field) (a : Nat) (cell : Cell), U.vm.findClass C = some c ∧ U.fieldFound? C n d = some (c, k, i, f) ∧ f.isStatic = true ∧ k.statics = some a ∧ H[a]? = some cell ∧ cell.vm.isStatics = true ∧ cell.cls = c ∧ f.slot < cell.slots.size ∧ k.staticTypes[f.slot]? = some f.type ∧ ¬ A a
theorem vx_L.moved {C n d : String} {A : Nat → Prop} {u U : State} {H : Heap} (hvm : u.vm.Alike U.vm) (h : vx_L C n d A u H) : vx_L C n d A U H := by
  obtain ⟨c, k, i, f, a, cell, h1, h2, h3, h4, h5, h6, h7, h8, h9, h10⟩ := h
  obtain ⟨k', hi', he⟩ := State.fieldFound?_setVm hvm h2
  exact ⟨c, k', i, f, a, cell, by rw [hvm.findClass]; exact h1, hi', h3, by rw [he]; exact h4, h5, h6, h7, h8, by rw [he]; exact h9, h10⟩
theorem vx_L.kept {C n d : String} {A : Nat → Prop} {U : State} {H H1 : Heap} (h : vx_L C n d A U H) (hq : ∀ a : Nat, a < H.size → ¬ A a → H1[a]? = H[a]?) : vx_L C n d A U H1 := by
  obtain ⟨c, k, i, f, a, cell, h1, h2, h3, h4, h5, h6, h7, h8, h9, h10⟩ := h
  exact ⟨c, k, i, f, a, cell, h1, h2, h3, h4, by rw [hq a (Array.getElem?_eq_some_iff.mp h5).1 h10]; exact h5, h6, h7, h8, h9, h10⟩
theorem vx_L.narrow {C n d : String} {A B : Nat → Prop} {U : State} {H : Heap} (h : vx_L C n d A U H) (hAB : ∀ q, B q → A q) : vx_L C n d B U H := by
  obtain ⟨c, k, i, f, a, cell, h1, h2, h3, h4, h5, h6, h7, h8, h9, h10⟩ := h
  exact ⟨c, k, i, f, a, cell, h1, h2, h3, h4, h5, h6, h7, h8, h9, fun z => h10 (hAB _ z)⟩
theorem vx_L.word {C n d : String} {A : Nat → Prop} {s : State} {args : Array Value} (h : vx_L C n d A s s.heap) : (Cond.laysStatic C n d).before args s = true := by
  obtain ⟨c, k, i, f, a, cell, h1, h2, h3, h4, h5, h6, h7, h8, h9, -⟩ := h
  show (Cond.laysStatic C n d).holds args s none s [] = true
  exact Cond.laysStatic_of h1 h2 h3 h4 h5 h6 h7 h8 h9
/-- .. and what it holds: null or some reference -/
def vx_Zq (C n d : String) (A : Nat → Prop) (U : State) (H : Heap) : Prop := va_Zq C n d A U H ∧ vx_L C n d A U H
theorem vx_Zq.moved {C n d : String} {A : Nat → Prop} {u U : State} {H : Heap} (hvm : u.vm.Alike U.vm) (h : vx_Zq C n d A u H) : vx_Zq C n d A U H := ⟨va_Zq.moved hvm h.1, vx_L.moved hvm h.2⟩
theorem vx_Zq.kept {C n d : String} {A : Nat → Prop} {U : State} {H H1 : Heap} (h : vx_Zq C n d A U H) (hq : ∀ a : Nat, a < H.size → ¬ A a → H1[a]? = H[a]?) : vx_Zq C n d A U H1 := ⟨va_Zq.kept h.1 hq, vx_L.kept h.2 hq⟩
theorem vx_Zq.narrow {C n d : String} {A B : Nat → Prop} {U : State} {H : Heap} (h : vx_Zq C n d A U H) (hAB : ∀ q, B q → A q) : vx_Zq C n d B U H := ⟨va_Zq.narrow h.1 hAB, vx_L.narrow h.2 hAB⟩
theorem vx_Zqof {args : Array Value} {s : State} {C n d : String} {A : Nat → Prop} (hl : (Cond.laysStatic C n d).before args s = true) (hini : (Cond.initialized C).before args s = true) (h : (Cond.isRef (.static C n d)).before args s = true) (hA : ∀ a : Nat, a < s.heap.size → ¬ A a) : vx_Zq C n d A s s.heap := by
  refine ⟨va_Zqof hl hini h hA, ?_⟩
  obtain ⟨c, k, i, f, a, cell, h1, h2, h3, h4, h5, h6, h7, h8, h9⟩ := Cond.laysStatic_spec hl
  exact ⟨c, k, i, f, a, cell, h1, h2, h3, h4, h5, h6, h7, h8, h9, hA a (Array.getElem?_eq_some_iff.mp h5).1⟩
theorem vx_isRef {C n d : String} {v : Value} {A : Nat → Prop} {s : State} {args : Array Value} (h : va_Z C n d v A s s.heap) (hv : v.isRef = true) : (Cond.isRef (.static C n d)).before args s = true := by
  obtain ⟨cf, kf, fi, f, a, cell, h1, h2, h3, h4, h5, h6, h7, -⟩ := h
  have he : (Term.static C n d).eval args s none [] s = some v := by
    simp [Term.eval, State.fieldNamed?, h1, h2, h4, h5, h6, h7]
  simp only [Cond.before, Cond.holds, Cond.value, he]
  cases v <;> simp_all [Value.isRef]
theorem vx_isRefq {C n d : String} {A : Nat → Prop} {s : State} {args : Array Value} (h : va_Zq C n d A s s.heap) : (Cond.isRef (.static C n d)).before args s = true := by
  rcases h with h | ⟨t, h⟩
  · exact vx_isRef h rfl
  · exact vx_isRef h rfl
/-- the same frame, seen from here: as if the method were called anew in this heap -/
theorem vx_rebase {T : State} (X : Stand p l e R s m args below meth c T locs cells slots) {R' : Room} (hf : R'.frames ≤ R.frames) (hl : R'.locals ≤ R.locals) (hc : cells + R'.cells ≤ R.cells) (hs : slots + R'.slots ≤ R.slots) :
    Stand p l e R' ((T.setVm s.vm).setFrames (.invoking m args :: below)) m args below meth c T [] 0 0 := by
  have htop : (T.setVm s.vm).topJava?.isSome := X.here.top
  have hF : ((T.setVm s.vm).setFrames (.invoking m args :: below)).frames = .invoking m args :: below := State.frames_setFrames _ (State.cur_lt_of_top htop)
  obtain ⟨g₀, hg0⟩ := Option.isSome_iff_exists.mp htop
  obtain ⟨r, hr⟩ := State.topJava?_eq_some.mp hg0
  have hl9 : e.platform.stackLimits (T.setVm s.vm).me = e.platform.stackLimits s.me := X.limits
  have hb9 : (T.setVm s.vm).me.stackBytes = s.me.stackBytes := X.bytes
  refine ⟨X.admits, X.cas, X.clock, hF, ?_, X.hears, X.method, X.code, X.here, X.tail, X.warmed, ?_, ?_, ?_⟩
  · have h := X.room
    have hU : ((T.setVm s.vm).setFrames (.invoking m args :: below)).localsInUse = s.localsInUse := by
      rw [State.localsInUse_invoking hF (meth := meth) (c := c) X.method X.code, State.localsInUse_invoking X.frames X.method X.code]
    simp only [State.hasRoom, Bool.and_eq_true, decide_eq_true_eq] at h ⊢
    obtain ⟨⟨⟨⟨h1, h2, h3, h4, h5, h6⟩, h7⟩, h8⟩, h9⟩ := h
    rw [X.frames, List.length_cons] at h2 h3
    have q1 := X.heapSize
    have q2 := X.used
    simp only [hF, hU, List.length_cons, State.stackLimits_setFrames, State.stackBytes_setFrames, hl9, hb9]
    refine ⟨⟨⟨⟨by omega, by omega, by omega, by omega, by omega, h6⟩, ?_⟩, ?_⟩, X.book⟩
    · show T.heap.size + R'.cells ≤ e.platform.maxCells
      omega
    · show T.slotsUsed + R'.slots ≤ e.platform.maxSlots
      omega
  · rw [State.stackLimits_setFrames]; rfl
  · rw [State.stackBytes_setFrames]; rfl
  · refine ⟨?_, Nat.le_refl _, Nat.le_refl _, ?_, ?_, fun a c9 h9 => ⟨c9, h9, rfl, rfl, fun _ _ => rfl⟩⟩
    · obtain ⟨t, ht, -⟩ := State.frames_cons hr
      show T.setVm s.vm = { ((T.setVm s.vm).setFrames (.invoking m args :: below)).setFrames (T.setVm s.vm).frames with heap := T.heap, slotsUsed := T.slotsUsed }
      rw [State.setFrames_setFrames, State.setFrames_self ht]
      rfl
    · show T.slotsUsed = T.slotsUsed + ((T.heap.toList.drop T.heap.size).map (·.slots.size)).sum
      rw [List.drop_eq_nil_of_le (Nat.le_of_eq Array.length_toList)]
      rfl
    · show ((T.heap.toList.drop T.heap.size).map (·.slots.size)).sum ≤ 0
      rw [List.drop_eq_nil_of_le (Nat.le_of_eq Array.length_toList)]
      exact Nat.le_refl _
/-- 'throw new E()': new; dup; invokespecial; athrow -/
theorem vx_throw0 {cc : ByteArray} {pc : Nat} (hexec : p.tables.exec = Jvm.exec) (hb : c.code = cc) (hl : l.stackTraces = false) {own cls : String} {names : List String} {ik ic mc ms : Nat} {A : Nat → Prop}
    (hown : s.vm.findClass own = some m.cls) (hcls : Bundle.fit cls = true) (hnames : ∀ n ∈ names, Bundle.fit n = true)
    (hk : (Cond.classLink own ik cls).before args s = true) (hini : (Cond.initialized cls).before args s = true) (hat : ∀ w ∈ vx_at0 own ic cls names, w.before args s = true)
    (hgood : ∀ w ∈ Cond.classLink own ik cls :: Cond.initialized cls :: vx_at0 own ic cls names, vx_ot w = true)
    (hU : vx_Zq Bundle.tN "UNASSIGNED_STACK" Bundle.steD A s s.heap) (hN : vx_Zq Bundle.tN "SUPPRESSED_SENTINEL" Bundle.listD A s s.heap) (hS : va_S A s.heap H locs) (hsize : ls.size = c.maxLocals)
    (d0 : decode cc pc = .ok (.new ik, 3)) (d3 : decode cc (pc + 3) = .ok (.dup, 1)) (d4 : decode cc (pc + 4) = .ok (.invokespecial ic, 3)) (d7 : decode cc (pc + 7) = .ok (.athrow, 1))
    (hout : ∀ x ∈ c.exceptionTable.toList, covers x (pc + 7) = false)
    (hRframes : names.length + 3 < R.frames) (hRlocals : (rest.map fun v => v.category).sum + (13 * (names.length + 1) + 42) ≤ R.locals) (hRcells : cells + 1 ≤ R.cells) (hRslots : slots + 6 ≤ R.slots) (hlocks : meth.locks = false)
    (hx : ∀ t : State, s.vm.Alike t.vm → H.size ≤ t.heap.size → (∀ q : Nat, q < H.size → t.heap[q]? = H[q]?) → XC cls s t)
    (hf : ∀ z ∈ locs, free z.base) (hc : cells + 1 ≤ mc) (hs : slots + 6 ≤ ms) :
    W p l e R s m args below meth c H locs cells slots (vx_MQ below Qc XC args s mc ms free) (F0 m pc ls rest) := by
  intro T hT X
  have htr : e.platform.stackTraces = false := (show e.platform.stackTraces = l.stackTraces by rw [X.admits.platform]).trans hl
  have Y := vx_rebase X (R' := { frames := R.frames, locals := R.locals, cells := 1, slots := 6 }) (Nat.le_refl _) (Nat.le_refl _) hRcells hRslots
  obtain ⟨s', hA⟩ : ∃ z, z = (T.setVm s.vm).setFrames (.invoking m args :: below) := ⟨_, rfl⟩
  rw [← hA] at Y
  have hvm : s'.vm = s.vm := by rw [hA]; rfl
  have hhp : s'.heap = H := by rw [hA]; exact hT
  have hW0 : s.WarmedH s'.vm := by rw [hvm]; exact State.WarmedH.refl s
  have hat' : ∀ w ∈ vx_at0 own ic cls names, w.before args s' = true := fun w hw => vx_ot_at hW0 hvm.symm (hgood w (List.mem_cons_of_mem _ (List.mem_cons_of_mem _ hw))) (hat w hw)
  have hk' : (Cond.classLink own ik cls).before args s' = true := vx_ot_at hW0 hvm.symm (hgood _ List.mem_cons_self) hk
  have hini' : (Cond.initialized cls).before args s' = true := vx_ot_at hW0 hvm.symm (hgood _ (List.mem_cons_of_mem _ List.mem_cons_self)) hini
  have hU' : vx_Zq Bundle.tN "UNASSIGNED_STACK" Bundle.steD A s' s'.heap := by rw [hhp]; exact vx_Zq.moved hW0.alike (hU.kept hS.2.1)
  have hN' : vx_Zq Bundle.tN "SUPPRESSED_SENTINEL" Bundle.listD A s' s'.heap := by rw [hhp]; exact vx_Zq.moved hW0.alike (hN.kept hS.2.1)
  have h : ∀ w ∈ Bundle.ownAtoms0 own ic cls names, w.before args s' = true := vx_own hat' (vx_isRefq hU'.1) (vx_isRefq hN'.1) hU'.2.word hN'.2.word
  have hown' : s'.vm.findClass own = some m.cls := by rw [hvm]; exact hown
  have hins : (Cond.instantiable cls 6).before args s' = true := h _ (by simp [Bundle.ownAtoms0])
  obtain ⟨vm₁, cX, kX, hfX, hkX, -, -, X₁, st1⟩ := Y.newCold hexec (own := own) (C := cls) (index := ik) (n := 6) hown' hk' hins hini'
    (g := F0 m pc ls rest) rfl (by rw [hb]; exact d0) (Nat.le_refl _) (Nat.le_refl _)
  generalize hT1 : (T.setVm vm₁).pushCell { cls := cX, slots := kX.instanceTypes.map defaultValue, vm := .none } = T1 at X₁ st1
  have hcat : (Value.ref T.heap.size).category = 1 := rfl
  have hcellA : T1.heap[T.heap.size]? = some (freshCell cX kX) := by rw [← hT1]; exact State.heap_pushCell_size _ _
  have d3' : decode c.code (pc + 3) = .ok (.dup, 1) := by rw [hb]; exact d3
  obtain ⟨U, hsteps, hrun, hend, hW, hsame, ce, hce, hO⟩ := X₁.ctorThrow0 hexec htr (own := own) (cls := cls) (names := names) (ic := ic) hown' hcls hnames h (fun x hx => nomatch hx) hfX hkX hcellA (by rw [hhp, hT]; exact Nat.le_refl _)
    (g := { method := m, pc := pc + 4, locals := ls, stack := .ref T.heap.size :: .ref T.heap.size :: rest, locked := none }) rfl hsize rfl rfl (rest := rest) rfl
    (by rw [hb]; exact d4) (by rw [hb]; exact d7) hout hRframes (by simp only [List.map_cons, List.sum_cons, hcat]; omega) hlocks
  obtain ⟨f1, f2⟩ := vx_frame hsame
  rw [hhp] at f1 f2
  have hWs : s.WarmedH U.vm := State.WarmedH.trans hW0 hW
  have hcl : s.vm.findClass cls = some ce.cls := by
    have h9 := hO.cls
    rw [hvm] at h9
    exact h9
  have hall : s.sameButNew ({ U with vm := s.vm } : State) locs mc ms := by
    subst hA
    obtain ⟨e1, e2⟩ := hsame
    rw [State.setFrames_setFrames] at e1
    have h2 : (T.setVm s.vm).sameButNew ({ U with vm := s.vm } : State) [] (0 + 1) (0 + 6) := ⟨e1, e2⟩
    have h3 := X.same.trans h2
    rw [List.append_nil] at h3
    exact h3.mono hc hs
  refine ⟨U, ?_, .threw T.heap.size, hrun, hend, Or.inr ⟨T.heap.size, rfl, cls, ce, locs, hx U hWs.alike f1 (fun q hq => f2 q hq (fun z hz => nomatch hz)), hce, hO.vm, hcl, hWs, hall, hf⟩⟩
  refine st1 _ ?_
  show Steps p.tables e below (T1.setTop { method := m, pc := pc + 3, locals := ls, stack := .ref T.heap.size :: rest, locked := none }) _
  jvm_step X₁.here [X₁.here.top, hexec, d3', Value.category]
  exact hsteps
/-- 'throw new E("text")': new; dup; ldc; invokespecial; athrow -/
theorem vx_throwS {cc : ByteArray} {pc : Nat} (hexec : p.tables.exec = Jvm.exec) (hb : c.code = cc) (hl : l.stackTraces = false) {own cls text : String} {names : List String} {ik is ic mc ms sa : Nat} {A : Nat → Prop}
    (hown : s.vm.findClass own = some m.cls) (hcls : Bundle.fit cls = true) (hnames : ∀ n ∈ names, Bundle.fit n = true)
    (hk : (Cond.classLink own ik cls).before args s = true) (hini : (Cond.initialized cls).before args s = true) (hstr : vk_R own is text sa s) (hat : ∀ w ∈ vx_atS own ic cls names, w.before args s = true)
    (hgood : ∀ w ∈ Cond.classLink own ik cls :: Cond.initialized cls :: vx_atS own ic cls names, vx_ot w = true)
    (hU : vx_Zq Bundle.tN "UNASSIGNED_STACK" Bundle.steD A s s.heap) (hN : vx_Zq Bundle.tN "SUPPRESSED_SENTINEL" Bundle.listD A s s.heap) (hS : va_S A s.heap H locs) (hsize : ls.size = c.maxLocals)
    (d0 : decode cc pc = .ok (.new ik, 3)) (d3 : decode cc (pc + 3) = .ok (.dup, 1)) (d4 : decode cc (pc + 4) = .ok (.ldc is, 2)) (d6 : decode cc (pc + 6) = .ok (.invokespecial ic, 3)) (d9 : decode cc (pc + 9) = .ok (.athrow, 1))
    (hout : ∀ x ∈ c.exceptionTable.toList, covers x (pc + 9) = false)
    (hRframes : names.length + 3 < R.frames) (hRlocals : (rest.map fun v => v.category).sum + (13 * (names.length + 1) + 43) ≤ R.locals) (hRcells : cells + 1 ≤ R.cells) (hRslots : slots + 6 ≤ R.slots) (hlocks : meth.locks = false)
    (hx : ∀ t : State, s.vm.Alike t.vm → H.size ≤ t.heap.size → (∀ q : Nat, q < H.size → t.heap[q]? = H[q]?) → XC cls s t)
    (hf : ∀ z ∈ locs, free z.base) (hc : cells + 1 ≤ mc) (hs : slots + 6 ≤ ms) :
    W p l e R s m args below meth c H locs cells slots (vx_MQ below Qc XC args s mc ms free) (F0 m pc ls rest) := by
  intro T hT X
  have htr : e.platform.stackTraces = false := (show e.platform.stackTraces = l.stackTraces by rw [X.admits.platform]).trans hl
  have Y := vx_rebase X (R' := { frames := R.frames, locals := R.locals, cells := 1, slots := 6 }) (Nat.le_refl _) (Nat.le_refl _) hRcells hRslots
  obtain ⟨s', hA⟩ : ∃ z, z = (T.setVm s.vm).setFrames (.invoking m args :: below) := ⟨_, rfl⟩
  rw [← hA] at Y
  have hvm : s'.vm = s.vm := by rw [hA]; rfl
  have hhp : s'.heap = H := by rw [hA]; exact hT
  have hW0 : s.WarmedH s'.vm := by rw [hvm]; exact State.WarmedH.refl s
  have hat' : ∀ w ∈ vx_atS own ic cls names, w.before args s' = true := fun w hw => vx_ot_at hW0 hvm.symm (hgood w (List.mem_cons_of_mem _ (List.mem_cons_of_mem _ hw))) (hat w hw)
  have hk' : (Cond.classLink own ik cls).before args s' = true := vx_ot_at hW0 hvm.symm (hgood _ List.mem_cons_self) hk
  have hini' : (Cond.initialized cls).before args s' = true := vx_ot_at hW0 hvm.symm (hgood _ (List.mem_cons_of_mem _ List.mem_cons_self)) hini
  have hU' : vx_Zq Bundle.tN "UNASSIGNED_STACK" Bundle.steD A s' s'.heap := by rw [hhp]; exact vx_Zq.moved hW0.alike (hU.kept hS.2.1)
  have hN' : vx_Zq Bundle.tN "SUPPRESSED_SENTINEL" Bundle.listD A s' s'.heap := by rw [hhp]; exact vx_Zq.moved hW0.alike (hN.kept hS.2.1)
  have h : ∀ w ∈ Bundle.ownAtoms own ic cls names, w.before args s' = true := vx_own hat' (vx_isRefq hU'.1) (vx_isRefq hN'.1) hU'.2.word hN'.2.word
  have hown' : s'.vm.findClass own = some m.cls := by rw [hvm]; exact hown
  have hins : (Cond.instantiable cls 6).before args s' = true := h _ (by simp [Bundle.ownAtoms])
  obtain ⟨vm₁, cX, kX, hfX, hkX, -, -, X₁, st1⟩ := Y.newCold hexec (own := own) (C := cls) (index := ik) (n := 6) hown' hk' hins hini'
    (g := F0 m pc ls rest) rfl (by rw [hb]; exact d0) (Nat.le_refl _) (Nat.le_refl _)
  generalize hT1 : (T.setVm vm₁).pushCell { cls := cX, slots := kX.instanceTypes.map defaultValue, vm := .none } = T1 at X₁ st1
  have hcat : (Value.ref T.heap.size).category = 1 := rfl
  have hcellA : T1.heap[T.heap.size]? = some (freshCell cX kX) := by rw [← hT1]; exact State.heap_pushCell_size _ _
  have d3' : decode c.code (pc + 3) = .ok (.dup, 1) := by rw [hb]; exact d3
  have d4' : decode c.code (pc + 4) = .ok (.ldc is, 2) := by rw [hb]; exact d4
  have hstr' : vk_R own is text sa s' := vk_R.warm hW0 hstr
  obtain ⟨U, hsteps, hrun, hend, hW, hsame, ce, hce, hO⟩ := X₁.ctorThrowS hexec htr (own := own) (cls := cls) (names := names) (ic := ic) hown' hcls hnames h (fun x hx => nomatch hx) hfX hkX hcellA (by rw [hhp, hT]; exact Nat.le_refl _) (msg := .ref sa) rfl
    (g := { method := m, pc := pc + 6, locals := ls, stack := .ref sa :: .ref T.heap.size :: .ref T.heap.size :: rest, locked := none }) rfl hsize rfl rfl (rest := rest) rfl
    (by rw [hb]; exact d6) (by rw [hb]; exact d9) hout hRframes (by simp only [List.map_cons, List.sum_cons, hcat]; omega) hlocks
  obtain ⟨f1, f2⟩ := vx_frame hsame
  rw [hhp] at f1 f2
  have hWs : s.WarmedH U.vm := State.WarmedH.trans hW0 hW
  have hcl : s.vm.findClass cls = some ce.cls := by
    have h9 := hO.cls
    rw [hvm] at h9
    exact h9
  have hall : s.sameButNew ({ U with vm := s.vm } : State) locs mc ms := by
    subst hA
    obtain ⟨e1, e2⟩ := hsame
    rw [State.setFrames_setFrames] at e1
    have h2 : (T.setVm s.vm).sameButNew ({ U with vm := s.vm } : State) [] (0 + 1) (0 + 6) := ⟨e1, e2⟩
    have h3 := X.same.trans h2
    rw [List.append_nil] at h3
    exact h3.mono hc hs
  refine ⟨U, ?_, .threw T.heap.size, hrun, hend, Or.inr ⟨T.heap.size, rfl, cls, ce, locs, hx U hWs.alike f1 (fun q hq => f2 q hq (fun z hz => nomatch hz)), hce, hO.vm, hcl, hWs, hall, hf⟩⟩
  refine st1 _ ?_
  show Steps p.tables e below (T1.setTop { method := m, pc := pc + 3, locals := ls, stack := .ref T.heap.size :: rest, locked := none }) _
  jvm_step X₁.here [X₁.here.top, hexec, d3', Value.category]
  exact X₁.ldcString hexec (own := own) (text := text) (index := is) (a := sa) hown' hstr'.1 hstr'.2
    (g := { method := m, pc := pc + 4, locals := ls, stack := .ref T.heap.size :: .ref T.heap.size :: rest, locked := none }) rfl d4' _ hsteps
theorem vx_throwSE {cc : ByteArray} {pc : Nat} (hexec : p.tables.exec = Jvm.exec) (hb : c.code = cc) (hl : l.stackTraces = false) {own cls text : String} {names : List String} {ik is ic mc ms sa : Nat} {A : Nat → Prop}
    (hown : s.vm.findClass own = some m.cls) (hcls : Bundle.fit cls = true) (hnames : ∀ n ∈ names, Bundle.fit n = true)
    (hk : (Cond.classLink own ik cls).before args s = true) (hini : (Cond.initialized cls).before args s = true) (hstr : vk_R own is text sa s) (hat : ∀ w ∈ vx_atS own ic cls names, w.before args s = true)
    (hgood : ∀ w ∈ Cond.classLink own ik cls :: Cond.initialized cls :: vx_atS own ic cls names, vx_ot w = true)
    (hU : vx_Zq Bundle.tN "UNASSIGNED_STACK" Bundle.steD A s s.heap) (hN : vx_Zq Bundle.tN "SUPPRESSED_SENTINEL" Bundle.listD A s s.heap) (hS : va_S A s.heap H locs) (hsize : ls.size = c.maxLocals)
    (d0 : decode cc pc = .ok (.new ik, 3)) (d3 : decode cc (pc + 3) = .ok (.dup, 1)) (d4 : decode cc (pc + 4) = .ok (.ldc is, 2)) (d6 : decode cc (pc + 6) = .ok (.invokespecial ic, 3)) (d9 : decode cc (pc + 9) = .ok (.athrow, 1))
    (hout : ∀ x ∈ c.exceptionTable.toList, covers x (pc + 9) = false)
    (hRframes : names.length + 3 < R.frames) (hRlocals : (rest.map fun v => v.category).sum + (13 * (names.length + 1) + 43) ≤ R.locals) (hRcells : cells + 1 ≤ R.cells) (hRslots : slots + 6 ≤ R.slots) (hlocks : meth.locks = false)
    (hx : ∀ t : State, s.vm.Alike t.vm → t.heap.size = H.size + 1 → (∀ q : Nat, q < H.size → t.heap[q]? = H[q]?) → XC cls s t)
    (hf : ∀ z ∈ locs, free z.base) (hc : cells + 1 ≤ mc) (hs : slots + 6 ≤ ms) :
    W p l e R s m args below meth c H locs cells slots (vx_MQ below Qc XC args s mc ms free) (F0 m pc ls rest) := by
  intro T hT X
  have htr : e.platform.stackTraces = false := (show e.platform.stackTraces = l.stackTraces by rw [X.admits.platform]).trans hl
  have Y := vx_rebase X (R' := { frames := R.frames, locals := R.locals, cells := 1, slots := 6 }) (Nat.le_refl _) (Nat.le_refl _) hRcells hRslots
  obtain ⟨s', hA⟩ : ∃ z, z = (T.setVm s.vm).setFrames (.invoking m args :: below) := ⟨_, rfl⟩
  rw [← hA] at Y
  have hvm : s'.vm = s.vm := by rw [hA]; rfl
  have hhp : s'.heap = H := by rw [hA]; exact hT
  have hW0 : s.WarmedH s'.vm := by rw [hvm]; exact State.WarmedH.refl s
  have hat' : ∀ w ∈ vx_atS own ic cls names, w.before args s' = true := fun w hw => vx_ot_at hW0 hvm.symm (hgood w (List.mem_cons_of_mem _ (List.mem_cons_of_mem _ hw))) (hat w hw)
  have hk' : (Cond.classLink own ik cls).before args s' = true := vx_ot_at hW0 hvm.symm (hgood _ List.mem_cons_self) hk
  have hini' : (Cond.initialized cls).before args s' = true := vx_ot_at hW0 hvm.symm (hgood _ (List.mem_cons_of_mem _ List.mem_cons_self)) hini
  have hU' : vx_Zq Bundle.tN "UNASSIGNED_STACK" Bundle.steD A s' s'.heap := by rw [hhp]; exact vx_Zq.moved hW0.alike (hU.kept hS.2.1)
  have hN' : vx_Zq Bundle.tN "SUPPRESSED_SENTINEL" Bundle.listD A s' s'.heap := by rw [hhp]; exact vx_Zq.moved hW0.alike (hN.kept hS.2.1)
  have h : ∀ w ∈ Bundle.ownAtoms own ic cls names, w.before args s' = true := vx_own hat' (vx_isRefq hU'.1) (vx_isRefq hN'.1) hU'.2.word hN'.2.word
  have hown' : s'.vm.findClass own = some m.cls := by rw [hvm]; exact hown
  have hins : (Cond.instantiable cls 6).before args s' = true := h _ (by simp [Bundle.ownAtoms])
  obtain ⟨vm₁, cX, kX, hfX, hkX, -, -, X₁, st1⟩ := Y.newCold hexec (own := own) (C := cls) (index := ik) (n := 6) hown' hk' hins hini'
    (g := F0 m pc ls rest) rfl (by rw [hb]; exact d0) (Nat.le_refl _) (Nat.le_refl _)
  generalize hT1 : (T.setVm vm₁).pushCell { cls := cX, slots := kX.instanceTypes.map defaultValue, vm := .none } = T1 at X₁ st1
  have hcat : (Value.ref T.heap.size).category = 1 := rfl
  have hcellA : T1.heap[T.heap.size]? = some (freshCell cX kX) := by rw [← hT1]; exact State.heap_pushCell_size _ _
  have d3' : decode c.code (pc + 3) = .ok (.dup, 1) := by rw [hb]; exact d3
  have d4' : decode c.code (pc + 4) = .ok (.ldc is, 2) := by rw [hb]; exact d4
  have hstr' : vk_R own is text sa s' := vk_R.warm hW0 hstr
  obtain ⟨U, hsteps, hrun, hend, hW, hsame, ce, hce, hO⟩ := X₁.ctorThrowS hexec htr (own := own) (cls := cls) (names := names) (ic := ic) hown' hcls hnames h (fun x hx => nomatch hx) hfX hkX hcellA (by rw [hhp, hT]; exact Nat.le_refl _) (msg := .ref sa) rfl
    (g := { method := m, pc := pc + 6, locals := ls, stack := .ref sa :: .ref T.heap.size :: .ref T.heap.size :: rest, locked := none }) rfl hsize rfl rfl (rest := rest) rfl
    (by rw [hb]; exact d6) (by rw [hb]; exact d9) hout hRframes (by simp only [List.map_cons, List.sum_cons, hcat]; omega) hlocks
  obtain ⟨f1, f2⟩ := vx_frame hsame
  rw [hhp] at f1 f2
  have hsz9 : U.heap.size = H.size + 1 := by
    have q1 := hsame.2.2.1
    have q2 : T.heap.size < U.heap.size := (Array.getElem?_eq_some_iff.mp hce).1
    rw [hhp] at q1
    rw [hT] at q2
    have q3 : U.heap.size ≤ H.size + (0 + 1) := q1
    omega
  have hWs : s.WarmedH U.vm := State.WarmedH.trans hW0 hW
  have hcl : s.vm.findClass cls = some ce.cls := by
    have h9 := hO.cls
    rw [hvm] at h9
    exact h9
  have hall : s.sameButNew ({ U with vm := s.vm } : State) locs mc ms := by
    subst hA
    obtain ⟨e1, e2⟩ := hsame
    rw [State.setFrames_setFrames] at e1
    have h2 : (T.setVm s.vm).sameButNew ({ U with vm := s.vm } : State) [] (0 + 1) (0 + 6) := ⟨e1, e2⟩
    have h3 := X.same.trans h2
    rw [List.append_nil] at h3
    exact h3.mono hc hs
  refine ⟨U, ?_, .threw T.heap.size, hrun, hend, Or.inr ⟨T.heap.size, rfl, cls, ce, locs, hx U hWs.alike hsz9 (fun q hq => f2 q hq (fun z hz => nomatch hz)), hce, hO.vm, hcl, hWs, hall, hf⟩⟩
  refine st1 _ ?_
  show Steps p.tables e below (T1.setTop { method := m, pc := pc + 3, locals := ls, stack := .ref T.heap.size :: rest, locked := none }) _
  jvm_step X₁.here [X₁.here.top, hexec, d3', Value.category]
  exact X₁.ldcString hexec (own := own) (text := text) (index := is) (a := sa) hown' hstr'.1 hstr'.2
    (g := { method := m, pc := pc + 4, locals := ls, stack := .ref T.heap.size :: .ref T.heap.size :: rest, locked := none }) rfl d4' _ hsteps
/-- 'throw new E("text")', the text by a wide index -/
theorem vx_throwSW {cc : ByteArray} {pc : Nat} (hexec : p.tables.exec = Jvm.exec) (hb : c.code = cc) (hl : l.stackTraces = false) {own cls text : String} {names : List String} {ik is ic mc ms sa : Nat} {A : Nat → Prop}
    (hown : s.vm.findClass own = some m.cls) (hcls : Bundle.fit cls = true) (hnames : ∀ n ∈ names, Bundle.fit n = true)
    (hk : (Cond.classLink own ik cls).before args s = true) (hini : (Cond.initialized cls).before args s = true) (hstr : vk_R own is text sa s) (hat : ∀ w ∈ vx_atS own ic cls names, w.before args s = true)
    (hgood : ∀ w ∈ Cond.classLink own ik cls :: Cond.initialized cls :: vx_atS own ic cls names, vx_ot w = true)
    (hU : vx_Zq Bundle.tN "UNASSIGNED_STACK" Bundle.steD A s s.heap) (hN : vx_Zq Bundle.tN "SUPPRESSED_SENTINEL" Bundle.listD A s s.heap) (hS : va_S A s.heap H locs) (hsize : ls.size = c.maxLocals)
    (d0 : decode cc pc = .ok (.new ik, 3)) (d3 : decode cc (pc + 3) = .ok (.dup, 1)) (d4 : decode cc (pc + 4) = .ok (.ldc_w is, 3)) (d7 : decode cc (pc + 7) = .ok (.invokespecial ic, 3)) (d10 : decode cc (pc + 10) = .ok (.athrow, 1))
    (hout : ∀ x ∈ c.exceptionTable.toList, covers x (pc + 10) = false)
    (hRframes : names.length + 3 < R.frames) (hRlocals : (rest.map fun v => v.category).sum + (13 * (names.length + 1) + 43) ≤ R.locals) (hRcells : cells + 1 ≤ R.cells) (hRslots : slots + 6 ≤ R.slots) (hlocks : meth.locks = false)
    (hx : ∀ t : State, s.vm.Alike t.vm → H.size ≤ t.heap.size → (∀ q : Nat, q < H.size → t.heap[q]? = H[q]?) → XC cls s t)
    (hf : ∀ z ∈ locs, free z.base) (hc : cells + 1 ≤ mc) (hs : slots + 6 ≤ ms) :
    W p l e R s m args below meth c H locs cells slots (vx_MQ below Qc XC args s mc ms free) (F0 m pc ls rest) := by
  intro T hT X
  have htr : e.platform.stackTraces = false := (show e.platform.stackTraces = l.stackTraces by rw [X.admits.platform]).trans hl
  have Y := vx_rebase X (R' := { frames := R.frames, locals := R.locals, cells := 1, slots := 6 }) (Nat.le_refl _) (Nat.le_refl _) hRcells hRslots
  obtain ⟨s', hA⟩ : ∃ z, z = (T.setVm s.vm).setFrames (.invoking m args :: below) := ⟨_, rfl⟩
  rw [← hA] at Y
  have hvm : s'.vm = s.vm := by rw [hA]; rfl
  have hhp : s'.heap = H := by rw [hA]; exact hT
  have hW0 : s.WarmedH s'.vm := by rw [hvm]; exact State.WarmedH.refl s
  have hat' : ∀ w ∈ vx_atS own ic cls names, w.before args s' = true := fun w hw => vx_ot_at hW0 hvm.symm (hgood w (List.mem_cons_of_mem _ (List.mem_cons_of_mem _ hw))) (hat w hw)
  have hk' : (Cond.classLink own ik cls).before args s' = true := vx_ot_at hW0 hvm.symm (hgood _ List.mem_cons_self) hk
  have hini' : (Cond.initialized cls).before args s' = true := vx_ot_at hW0 hvm.symm (hgood _ (List.mem_cons_of_mem _ List.mem_cons_self)) hini
  have hU' : vx_Zq Bundle.tN "UNASSIGNED_STACK" Bundle.steD A s' s'.heap := by rw [hhp]; exact vx_Zq.moved hW0.alike (hU.kept hS.2.1)
  have hN' : vx_Zq Bundle.tN "SUPPRESSED_SENTINEL" Bundle.listD A s' s'.heap := by rw [hhp]; exact vx_Zq.moved hW0.alike (hN.kept hS.2.1)
  have h : ∀ w ∈ Bundle.ownAtoms own ic cls names, w.before args s' = true := vx_own hat' (vx_isRefq hU'.1) (vx_isRefq hN'.1) hU'.2.word hN'.2.word
  have hown' : s'.vm.findClass own = some m.cls := by rw [hvm]; exact hown
  have hins : (Cond.instantiable cls 6).before args s' = true := h _ (by simp [Bundle.ownAtoms])
  obtain ⟨vm₁, cX, kX, hfX, hkX, -, -, X₁, st1⟩ := Y.newCold hexec (own := own) (C := cls) (index := ik) (n := 6) hown' hk' hins hini'
    (g := F0 m pc ls rest) rfl (by rw [hb]; exact d0) (Nat.le_refl _) (Nat.le_refl _)
  generalize hT1 : (T.setVm vm₁).pushCell { cls := cX, slots := kX.instanceTypes.map defaultValue, vm := .none } = T1 at X₁ st1
  have hcat : (Value.ref T.heap.size).category = 1 := rfl
  have hcellA : T1.heap[T.heap.size]? = some (freshCell cX kX) := by rw [← hT1]; exact State.heap_pushCell_size _ _
  have d3' : decode c.code (pc + 3) = .ok (.dup, 1) := by rw [hb]; exact d3
  have d4' : decode c.code (pc + 4) = .ok (.ldc_w is, 3) := by rw [hb]; exact d4
  have hstr' : vk_R own is text sa s' := vk_R.warm hW0 hstr
  obtain ⟨U, hsteps, hrun, hend, hW, hsame, ce, hce, hO⟩ := X₁.ctorThrowS hexec htr (own := own) (cls := cls) (names := names) (ic := ic) hown' hcls hnames h (fun x hx => nomatch hx) hfX hkX hcellA (by rw [hhp, hT]; exact Nat.le_refl _) (msg := .ref sa) rfl
    (g := { method := m, pc := pc + 7, locals := ls, stack := .ref sa :: .ref T.heap.size :: .ref T.heap.size :: rest, locked := none }) rfl hsize rfl rfl (rest := rest) rfl
    (by rw [hb]; exact d7) (by rw [hb]; exact d10) hout hRframes (by simp only [List.map_cons, List.sum_cons, hcat]; omega) hlocks
  obtain ⟨f1, f2⟩ := vx_frame hsame
  rw [hhp] at f1 f2
  have hWs : s.WarmedH U.vm := State.WarmedH.trans hW0 hW
  have hcl : s.vm.findClass cls = some ce.cls := by
    have h9 := hO.cls
    rw [hvm] at h9
    exact h9
  have hall : s.sameButNew ({ U with vm := s.vm } : State) locs mc ms := by
    subst hA
    obtain ⟨e1, e2⟩ := hsame
    rw [State.setFrames_setFrames] at e1
    have h2 : (T.setVm s.vm).sameButNew ({ U with vm := s.vm } : State) [] (0 + 1) (0 + 6) := ⟨e1, e2⟩
    have h3 := X.same.trans h2
    rw [List.append_nil] at h3
    exact h3.mono hc hs
  refine ⟨U, ?_, .threw T.heap.size, hrun, hend, Or.inr ⟨T.heap.size, rfl, cls, ce, locs, hx U hWs.alike f1 (fun q hq => f2 q hq (fun z hz => nomatch hz)), hce, hO.vm, hcl, hWs, hall, hf⟩⟩
  refine st1 _ ?_
  show Steps p.tables e below (T1.setTop { method := m, pc := pc + 3, locals := ls, stack := .ref T.heap.size :: rest, locked := none }) _
  jvm_step X₁.here [X₁.here.top, hexec, d3', Value.category]
  exact X₁.ldcStringW hexec (own := own) (text := text) (index := is) (a := sa) hown' hstr'.1 hstr'.2
    (g := { method := m, pc := pc + 4, locals := ls, stack := .ref T.heap.size :: .ref T.heap.size :: rest, locked := none }) rfl d4' _ hsteps
end Ends
section Bodies
variable {l : Launch}
theorem vx_ofW {y : MethodName} {ws ws' : List Cond} {rm : Room} {Pc : Array Value → State → Prop} {Qc : Array Value → State → Outcome → State → Prop} {XC : String → State → State → Prop} {mc ms : Nat} {free : Addr → Prop} {cc : ByteArray} {maxL : Nat} {ret : Option FieldType}
    (hy : plainName y.cls = true) (hw : ws = Cond.code y cc maxL ret :: ws')
    (body : ∀ p e s m args below meth c s₁, BodyLoose p l y (headSpec ws rm) cc maxL ret e s m args below meth c s₁ → c.maxLocals = maxL → (∀ x ∈ c.exceptionTable.toList, False) → Pc args s →
      W p l e (headSpec ws rm).room s m args below meth c s.heap [] 0 0 (vx_MQ below Qc XC args s mc ms free) (entryFrame m args maxL)) : vx_Met l y ws rm Pc Qc XC mc ms free := by
  refine MetFree.of_bodyS (code := cc) (maxLocals := maxL) (ret := ret) hy ?_ ?_
  · intro args s m h hn
    obtain ⟨meth, c, h1, h2, h3, h4, h5, h6, -, -⟩ := Cond.code_spec hn (atoms_spec (ws := ws) h _ (by rw [hw]; exact List.mem_cons_self))
    exact ⟨meth, c, h1, h2, h3, h4, h5, h6⟩
  · intro p e s m args below meth c s₁ B hml hP _
    have hh0 : s₁.heap = s.heap := by rw [B.state]; rfl
    have ht : ∀ x ∈ c.exceptionTable.toList, False := by
      obtain ⟨meth9, c9, h1, h2, -, -, -, -, h7, -⟩ := Cond.code_spec B.named (atoms_spec (ws := ws) B.pre _ (by rw [hw]; exact List.mem_cons_self))
      cases Option.some.inj (h1.symm.trans B.method)
      cases Option.some.inj (h2.symm.trans (Stand.of_body B).code)
      intro x hx
      rw [Array.isEmpty_iff.mp h7] at hx
      cases hx
    obtain ⟨t, a1, o, b1, b2, b3⟩ := body p e s m args below meth c s₁ B hml ht hP s₁ hh0 (Stand.of_body B)
    exact ⟨t, o, a1, b1, b2, b3⟩
/-- the table of a body with handlers -/
theorem vx_table {p : Program} {x y : MethodName} {S : Spec} {cc bytes : ByteArray} {maxL maxL' : Nat} {ret ret' : Option FieldType} {e : Env} {s s₁ : State} {m : MethodId} {args : Array Value} {below : List Frame} {meth : Method} {c : Code} {hh : List (Nat × Nat × Nat × Nat)}
    (B : BodyLoose p l y S cc maxL ret e s m args below meth c s₁) (h : (Cond.codeWith y bytes maxL' ret' hh).before args s = true) : c.exceptionTable.toList = tableOf hh := by
  obtain ⟨m9, meth9, c9, hn9, h1, h2, -, -, h6, -⟩ := Cond.codeWith_spec h
  cases Option.some.inj (hn9.symm.trans B.named)
  cases Option.some.inj (h1.symm.trans B.method)
  cases Option.some.inj (h2.symm.trans (Stand.of_body B).code)
  rw [← h6, table_eq]
end Bodies
end VXA
/-! ===== END ===== -/
/-! ===== BEGIN a static call of a method with an exception table ===== -/
section VXS
variable {p : Program} {l : Launch} {e : Env} {R : Room} {s : State} {m : MethodId} {args : Array Value} {below : List Frame} {meth : Method} {c : Code} {T : State} {H : Heap} {locs : List Loc} {cells slots : Nat}
abbrev vx_CSW (R : Room) (s : State) (args : Array Value) (own : String) (index : Nat) (y : MethodName) (bytes : ByteArray) (maxL : Nat) (ret : Option FieldType) (hh : List (Nat × Nat × Nat × Nat)) (ws : List Cond) (rm : Room) (mc ms n : Nat) : Prop :=
  (rm.cells = mc ∧ rm.slots = ms ∧ rm.frames + 1 ≤ R.frames ∧ 8 + (maxL + 11) + rm.locals ≤ R.locals ∧ (∀ w ∈ ws, ∀ (a' : Array Value) (U : State), s.WarmedH U.vm → w.before a' U = true) ∧ Cond.codeWith y bytes maxL ret hh ∈ ws) ∧
  (Cond.codeWith y bytes maxL ret hh).before args s = true ∧ (Cond.initialized y.cls).before args s = true ∧ (y.cls ≠ "java/lang/invoke/MethodHandle" ∧ y.cls ≠ "java/lang/invoke/VarHandle") ∧
  (∀ sig, parseMethodDescriptor y.desc = some sig → n = sig.parameters.length) ∧ (Cond.methodLink own index y).before args s = true ∧ (Cond.static y).before args s = true
theorem vx_cwSW {own : String} {index maxL mc ms : Nat} {y : MethodName} {bytes : ByteArray} {ret : Option FieldType} {hh : List (Nat × Nat × Nat × Nat)} {Ts ws ws' : List Cond} {rm : Room} (n : Nat) (ht : ∀ w ∈ Ts, w.before args s = true) (hT : GoodIn Ts (va_wsS own index y ws)) (hw : ws = Cond.codeWith y bytes maxL ret hh :: ws') (hrc : rm.cells = mc) (hrs : rm.slots = ms)
    (hd : y.cls ≠ "java/lang/invoke/MethodHandle" ∧ y.cls ≠ "java/lang/invoke/VarHandle" ∧ (parseMethodDescriptor y.desc).map (fun d => d.parameters.length) = some n) (hR : rm.frames + 1 ≤ R.frames ∧ 8 + (maxL + 11) + rm.locals ≤ R.locals) :
    vx_CSW R s args own index y bytes maxL ret hh ws rm mc ms n := by
  have ok : ∀ w ∈ va_wsS own index y ws, w.before args s = true := fun w h => ht w (hT w h).1
  have hG : GoodIn Ts ws := fun w h => hT w (by unfold va_wsS; exact List.mem_append_right _ h)
  have hc : Cond.codeWith y bytes maxL ret hh ∈ ws := by rw [hw]; exact List.mem_cons_self
  refine ⟨⟨hrc, hrs, hR.1, hR.2, pay_in ht hG, hc⟩, ht _ (hG _ hc).1, ok _ (by simp [va_wsS]), ⟨hd.1, hd.2.1⟩, fun sig h => ?_, ok _ (by simp [va_wsS]), ok _ (by simp [va_wsS])⟩
  have h2 := hd.2.2
  rw [h] at h2
  exact (Option.some.inj h2).symm
theorem vx_callSW (X : Stand p l e R s m args below meth c T locs cells slots) (hexec : p.tables.exec = Jvm.exec) {own : String} {index : Nat} {y : MethodName} {bytes : ByteArray} {maxL : Nat} {ret : Option FieldType} {hh : List (Nat × Nat × Nat × Nat)}
    (hown : s.vm.findClass own = some m.cls) (hlink : (Cond.methodLink own index y).before args s = true) (hstat : (Cond.static y).before args s = true) (hinit : (Cond.initialized y.cls).before args s = true)
    (hcode : (Cond.codeWith y bytes maxL ret hh).before args s = true) (hy : y.cls ≠ "java/lang/invoke/MethodHandle" ∧ y.cls ≠ "java/lang/invoke/VarHandle")
    {W9 : Nat} {Pre : Pt → Array Value → Prop} {Post : Pt → Array Value → Option Value → Pt → Prop} (hK : Back l R p e below s args y 3 W9 Pre Post)
    {g : JFrame} (hg : g.method = m) (hsize : g.locals.size = c.maxLocals) {argsL rest : List Value} (hlen : ∀ sig, parseMethodDescriptor y.desc = some sig → argsL.length = sig.parameters.length)
    (hstack : g.stack = argsL.reverse ++ rest) (hW : 2 * g.monitorRoom + (rest.map fun v => v.category).sum ≤ W9) (hdg : decode c.code g.pc = .ok (.invokestatic index, 3))
    (hpre : ∀ vm₁, s.WarmedH vm₁ → Pre ⟨T.setVm vm₁, locs, cells, slots⟩ argsL.toArray) :
    ∃ (v : Option Value) (vm₁ : Vm) (B : Pt), s.WarmedH vm₁ ∧ Stand p l e R s m args below meth c B.U B.locs B.cells B.slots ∧ Post ⟨T.setVm vm₁, locs, cells, slots⟩ argsL.toArray v B ∧
      ∀ target, Steps p.tables e below (B.U.setTop { g with pc := g.pc + 3, stack := v.toList ++ rest }) target → Steps p.tables e below (T.setTop g) target := by
  obtain ⟨mk, methM, cM, hnamed, hmethM, -, -, -, -, -, -, hsigM⟩ := Cond.codeWith_spec hcode
  have hstatic : methM.isStatic = true := Cond.static_spec hnamed hmethM hstat
  obtain ⟨kP, hkP, -⟩ := className_of_methodNamed hnamed
  have hinitP : kP.init = .initialized := Cond.initialized_spec (findClass_of_methodNamed hnamed) hkP hinit
  obtain ⟨vm₁, X₁, hstep₁⟩ := X.invokestatic hexec hown hlink hnamed hmethM hstatic hkP hinitP hy (g := g) hg (argsL := argsL) (rest := rest) (hlen _ hsigM) hstack hdg
  obtain ⟨v, B, X', hpost, hsteps⟩ := hK m meth c ⟨T.setVm vm₁, locs, cells, slots⟩ { g with stack := rest } (.invokestatic index) mk argsL.toArray X₁ hg hsize hdg hW (X₁.named hnamed) (hpre vm₁ X₁.warmed)
  exact ⟨v, vm₁, B, X₁.warmed, X', hpost, fun target h => hstep₁ _ fun acts => by rw [doInvoke_state]; exact hsteps.trans h⟩
theorem vx_runSW {y : MethodName} {bytes cc : ByteArray} {maxL nL mc ms n index : Nat} {ret : Option FieldType} {hh : List (Nat × Nat × Nat × Nat)} {ws : List Cond} {rm : Room} {Pc : Array Value → State → Prop} {Qc : Array Value → State → Outcome → State → Prop} {free : Addr → Prop} {Ts : List Cond} {own : String} {As rest : List Value} {g : JFrame}
    (S : CallFix p m c cc nL s args Ts own) (hM : Met l y ws rm Pc Qc mc ms free) (cw : vx_CSW R s args own index y bytes maxL ret hh ws rm mc ms n) (hp : PreS s H Pc As)
    (hg : g.method = m) (hn : As.length = n) (hsize : g.locals.size = nL) (hstack : g.stack = As.reverse ++ rest) (hW : 2 * g.monitorRoom + (rest.map fun v => v.category).sum ≤ 8) (hdg : decode cc g.pc = .ok (.invokestatic index, 3)) (hf : cells + mc ≤ R.cells ∧ slots + ms ≤ R.slots) :
    va_Run p l e R s m args below meth c H locs cells slots mc ms g rest (Qc As.toArray) (free) := by
  obtain ⟨⟨hrc, hrs, hfr, hlo, hws, hcw⟩, hcode, hini, hy, hlen, hl, hstt⟩ := cw
  have hK : Back l R p e below s args y 3 8 (PreOf R mc ms Pc) (PostOf Qc mc ms free) := va_backW (hh := hh) (bytes := bytes) (maxL := maxL) (ret := ret) hM hp.1 hrc hrs hfr hlo hws hcw (fun a' U hW => word_at hW (Or.inl (by first | rfl | simp [Cond.onTables, Cond.keeps, Cond.steady])) hini)
  obtain ⟨hx, hb, hml, ho, -⟩ := S
  intro T hT X
  obtain ⟨v, vm₁, ⟨U', l2, c2, s2⟩, hW₁, X', ⟨g', mk, t, L, e1, e2, hq, h1, hL, h2, h3⟩, st⟩ := vx_callSW X hx (hh := hh) (bytes := bytes) (maxL := maxL) (ret := ret) ho hl hstt hini hcode hy hK hg (hsize.trans hml.symm) (argsL := As) (rest := rest) (fun sig h => hn.trans (hlen sig h)) hstack hW (by rw [hb]; exact hdg)
    (fun vm₁ hW₁ => ⟨hf.1, hf.2, hp.2 (T.setVm vm₁) hT hW₁⟩)
  dsimp only [Pt.U, Pt.locs, Pt.cells, Pt.slots] at X' e1 e2 h1 h2 h3 st
  subst h1; subst h2; subst h3
  exact ⟨v, (T.setVm vm₁).calling g' mk As.toArray, t, U', L, hT, X', hL, e1, e2, hq, st⟩
/-- not caught here, past rows that name other classes: it goes on to the caller -/
theorem vx_outP {p : Program} {l : Launch} {e : Env} {R : Room} {s : State} {m : MethodId} {args : Array Value} {below : List Frame} {meth : Method} {c : Code} {H : Heap} {locs : List Loc} {cells slots : Nat} {free : Addr → Prop} {ls : Array Slot} {rest : List Value} {Qc : Array Value → State → Outcome → State → Prop} {XC : String → State → State → Prop}
    {pc : Nat} {own E : String} {ce : Cell} {q : Addr} {mc ms : Nat} (hown : s.vm.findClass own = some m.cls) (hlocks : meth.locks = false)
    (hpass : ∀ z ∈ c.exceptionTable.toList, covers z pc = false ∨ (z.catchType ≠ 0 ∧ ∃ nm : String, (Cond.classLink own z.catchType nm).before args s = true ∧ va_Nc E nm s)) (hcell : H[q]? = some ce) (hv : ce.vm = .none) (hcl : s.vm.findClass E = some ce.cls)
    (hx : ∀ t : State, t.heap = H → s.vm.Alike t.vm → XC E s t) (hf : ∀ z ∈ locs, free z.base) (hc : cells ≤ mc) (hs : slots ≤ ms) :
    vx_W p l e R s m args below meth c H locs cells slots (vx_MQ below Qc XC args s mc ms free) (F0 m pc ls rest) q := by
  intro T hT X
  have hpl : e.platform.magicAccessors = ({} : Platform).magicAccessors := by rw [X.admits.platform]
  obtain ⟨vm', hW', X', st⟩ := Stand.outThrough X hlocks q (g := F0 m pc ls rest) rfl rfl rfl (cell := ce) (by rw [hT]; exact hcell) (by rw [hv]; rfl)
    (by obtain ⟨k9, h9, -⟩ := Vm.findClass_spec hcl; exact ⟨k9, h9⟩) (fun z hz => by
      rcases hpass z hz with h | ⟨hz0, nm, hl1, hn1⟩
      · exact Or.inl h
      · obtain ⟨c6, hc6, hcl6⟩ := Cond.classLink_spec hown hl1 e.platform hpl
        obtain ⟨a8, b8, h1, h2, h3⟩ := hn1
        cases Option.some.inj (h1.symm.trans hcl)
        cases Option.some.inj (h2.symm.trans hc6)
        exact Or.inr ⟨hz0, _, hcl6, h3⟩)
  obtain ⟨g₀, hfr⟩ := X'.frames_eq
  have hcell9 : ((T.setVm vm').setFrames (.throwing q :: below)).heap[q]? = some ce := by
    show T.heap[q]? = some ce
    rw [hT]; exact hcell
  have hend : Ended ((T.setVm vm').setFrames (.throwing q :: below)) below (.threw q) := State.frames_setFrames _ (State.cur_lt_of_frames hfr)
  refine ⟨(T.setVm vm').setFrames (.throwing q :: below), ?_, .threw q, X'.here.running, hend, Or.inr ⟨q, rfl, E, ce, locs, hx _ hT (X'.ends _).1.alike, hcell9, hv, hcl, (X'.ends _).1, (X'.ends _).2.mono hc hs, hf⟩⟩
  rw [X.pushThrowing_eq]
  exact st
/-- a thing of a world lies in the heap -/
theorem vx_lt {D : va_G} {cl : List vw_C} {ws : va_W} {H1 : Heap} (h : va_P D cl ws H1) {k : Nat} {q : Nat × va_E} (hk : ws[k]? = some q) : q.1 < H1.size := (h k q hk).lt
end VXS
/-! ===== END ===== -/
/-! ===== BEGIN methods with a table of their own: called by a name, returning or throwing ===== -/
section VXH
/-! vx_backW, vx_callVX, vx_callSX, vx_callVW, vx_runVW, vx_runVX, vx_runSX, vx_ofWH follow the same proofs as their sisters above (Free/Laws.lean, Shelf42/LK1.lean); vx_outP calls Shelf42/NT130.lean (outThrough). -/
section
variable {l : Launch} {R : Room} {p : Program} {e : Env} {below : List Frame} {s : State} {sargs : Array Value} {y : MethodName} {len W9 : Nat}
theorem vx_backW {ws : List Cond} {rm : Room} {Pc : Array Value → State → Prop} {Qc : Array Value → State → Outcome → State → Prop} {XC : String → State → State → Prop} {mc ms : Nat} {free : Addr → Prop} {bytes : ByteArray} {maxL : Nat} {ret : Option FieldType} {hh : List (Nat × Nat × Nat × Nat)}
    (hM : vx_Met l y ws rm Pc Qc XC mc ms free) (hblind : FrameBlind Pc) (hrc : rm.cells = mc) (hrs : rm.slots = ms)
    (hframes : rm.frames + 1 ≤ R.frames) (hlocals : W9 + (maxL + 11) + rm.locals ≤ R.locals)
    (hws : ∀ w ∈ ws, ∀ a' U, s.WarmedH U.vm → w.before a' U = true) (hcode : Cond.codeWith y bytes maxL ret hh ∈ ws) (hinit : ∀ a' U, s.WarmedH U.vm → (Cond.initialized y.cls).before a' U = true) :
    vx_Back l R p e below s sargs y len W9 (PreOf R mc ms Pc) (PostOf Qc mc ms free) (vx_Post XC mc ms free) := by
  intro m meth c A g ig mk a X hg hsize hdg hW hn hp
  have h1 : (headSpec ws rm).pre.before a A.U = true := atoms_intro fun w hw => hws w hw _ _ X.warmed
  have h2 : (Cond.codeWith y bytes maxL ret hh).before a A.U = true := hws _ hcode _ _ X.warmed
  have h3 : (Cond.initialized y.cls).before a A.U = true := hinit _ _ X.warmed
  have h4 : A.cells + (headSpec ws rm).room.cells ≤ R.cells := by rw [show (headSpec ws rm).room.cells = mc from hrc]; exact hp.1
  have h5 : A.slots + (headSpec ws rm).room.slots ≤ R.slots := by rw [show (headSpec ws rm).room.slots = ms from hrs]; exact hp.2.1
  have hPc : Pc a (A.U.calling g mk a) := hblind _ _ _ _ hp.2.2
  obtain ⟨U, Ls, c0, s0⟩ := A
  dsimp only [Pt.U, Pt.locs, Pt.cells, Pt.slots] at h1 h2 h3 h4 h5 X hn hPc ⊢
  obtain ⟨m9, methY, cY, hn9, hmY, hcY, -, hlY, -⟩ := Cond.codeWith_spec h2
  cases Option.some.inj (hn9.symm.trans hn)
  obtain ⟨kY, hkY, -⟩ := className_of_methodNamed hn
  have hinitY : kY.init = .initialized := Cond.initialized_spec (findClass_of_methodNamed hn) hkY h3
  have h : At U g.method c below := by rw [hg]; exact X.here
  have hlocals9 : W9 + (maxL + 11) + (headSpec ws rm).room.locals ≤ R.locals := hlocals
  have happ : (headSpec ws rm).appliesLoose y e.platform (U.calling g mk a) = true :=
    Spec.appliesLoose_calling (g := g) h hdg hn hkY hinitY
      (X.room_calling (g := g) (R' := (headSpec ws rm).room) hsize hmY hcY hframes (by rw [hlY]; omega) h4 h5) h1
  obtain ⟨mid, hmid⟩ := h.above
  have hfr : (U.setTop g).frames = (.java g :: mid) ++ below := by rw [State.frames_setTop' g h.top, hmid]; rfl
  obtain ⟨o, s₂, hsteps, -, hend, hq⟩ := Steps.callFree hM p X.admits X.cas X.clock (acts := []) hfr happ hPc trivial
  have hq' : vx_Q Qc XC mc ms free a (U.calling g mk a) o s₂ := hq
  rw [State.frames_setTop' g h.top] at hend
  obtain ⟨g₀, hg0⟩ := Option.isSome_iff_exists.mp h.top
  obtain ⟨r, hr⟩ := State.topJava?_eq_some.mp hg0
  have hr' : (({ U with heap := s₂.heap, slotsUsed := s₂.slotsUsed } : State).setVm s₂.vm).frames = .java g₀ :: r := hr
  rcases hq' with ⟨hqc, L, hfe, hL⟩ | ⟨q, rfl, E, ce, L, hx, hce, hcv, hcl, hW₂, hsm, hL⟩
  · obtain ⟨⟨v, rfl⟩, hW₂, e2, q2, q3, q4, q5, q6⟩ := id hfe
    have e3 : s₂ = ({ (U.calling g mk a).setFrames s₂.frames with heap := s₂.heap, slotsUsed := s₂.slotsUsed } : State).setVm s₂.vm := by
      have : s₂ = ({ s₂ with vm := (U.calling g mk a).vm } : State).setVm s₂.vm := rfl
      rw [e2] at this
      exact this
    obtain ⟨c₂, i₂, len₂, hc₂, hd₂, hf₂⟩ := hend
    have hW' : U.WarmedH s₂.vm := hW₂
    have hcc : c₂ = c := by
      have h1 : s₂.code? g.method = U.code? g.method := by
        rw [State.code?_eq, State.code?_eq, hW'.alike.method?]
      exact Option.some.inj (hc₂.symm.trans (h1.trans h.code))
    subst hcc
    have hlen : len₂ = len := by rw [hdg] at hd₂; cases hd₂; rfl
    subst hlen
    have hs₂ : s₂ = (({ U with heap := s₂.heap, slotsUsed := s₂.slotsUsed } : State).setVm s₂.vm).setTop { g with pc := g.pc + len₂, stack := v.toList ++ g.stack } := by
      refine e3.trans ?_
      rw [hf₂, State.calling_eq h.top, State.setFrames_setFrames, State.setTop_of_frames _ hr', hr]
      rfl
    have hsame : U.sameButNew ({ U with heap := s₂.heap, slotsUsed := s₂.slotsUsed } : State) L mc ms := by
      refine ⟨?_, q2, q3, q4, q5, q6⟩
      obtain ⟨t, ht, -⟩ := State.frames_cons hr
      show ({ U with heap := s₂.heap, slotsUsed := s₂.slotsUsed } : State) = { U.setFrames U.frames with heap := s₂.heap, slotsUsed := s₂.slotsUsed }
      rw [State.setFrames_self ht]
    subst hg
    refine Or.inl ⟨v, ⟨(({ U with heap := s₂.heap, slotsUsed := s₂.slotsUsed } : State).setVm s₂.vm), Ls ++ L, c0 + mc, s0 + ms⟩,
      ⟨X.admits, X.cas, X.clock, X.frames, X.room, X.hears, X.method, X.code, (X.here.setHeapUsed s₂.heap s₂.slotsUsed).setVm hW'.alike, X.tail, State.WarmedH.trans X.warmed hW', X.limits, X.bytes, X.same.trans (hsame.setVm s.vm)⟩,
      ⟨g, mk, s₂, L, rfl, rfl, hqc, rfl, hL, rfl, rfl⟩, ?_⟩
    show Steps p.tables e below _ ((({ U with heap := s₂.heap, slotsUsed := s₂.slotsUsed } : State).setVm s₂.vm).setTop { g with pc := g.pc + len₂, stack := v.toList ++ g.stack })
    rw [← hs₂]
    exact hsteps
  · obtain ⟨e2, q2, q3, q4, q5, q6⟩ := id hsm
    have e3 : s₂ = ({ (U.calling g mk a).setFrames s₂.frames with heap := s₂.heap, slotsUsed := s₂.slotsUsed } : State).setVm s₂.vm := by
      have : s₂ = ({ s₂ with vm := (U.calling g mk a).vm } : State).setVm s₂.vm := rfl
      rw [e2] at this
      exact this
    have hf₂ : s₂.frames = .throwing q :: .java g :: U.frames.tail := hend
    have hW' : U.WarmedH s₂.vm := hW₂
    have hs₂ : s₂ = ((({ U with heap := s₂.heap, slotsUsed := s₂.slotsUsed } : State).setVm s₂.vm).setTop g).pushFrame (.throwing q) := by
      refine e3.trans ?_
      rw [hf₂, State.calling_eq h.top, State.setFrames_setFrames, State.pushFrame, State.frames_setTop _ hr', State.setTop_of_frames _ hr', State.setFrames_setFrames, hr]
      rfl
    have hsame : U.sameButNew ({ U with heap := s₂.heap, slotsUsed := s₂.slotsUsed } : State) L mc ms := by
      refine ⟨?_, q2, q3, q4, q5, q6⟩
      obtain ⟨t, ht, -⟩ := State.frames_cons hr
      show ({ U with heap := s₂.heap, slotsUsed := s₂.slotsUsed } : State) = { U.setFrames U.frames with heap := s₂.heap, slotsUsed := s₂.slotsUsed }
      rw [State.setFrames_self ht]
    subst hg
    refine Or.inr ⟨q, ⟨(({ U with heap := s₂.heap, slotsUsed := s₂.slotsUsed } : State).setVm s₂.vm), Ls ++ L, c0 + mc, s0 + ms⟩,
      ⟨X.admits, X.cas, X.clock, X.frames, X.room, X.hears, X.method, X.code, (X.here.setHeapUsed s₂.heap s₂.slotsUsed).setVm hW'.alike, X.tail, State.WarmedH.trans X.warmed hW', X.limits, X.bytes, X.same.trans (hsame.setVm s.vm)⟩,
      ⟨g, mk, s₂, L, E, ce, rfl, rfl, hx, hce, hcv, hcl, rfl, hL, rfl, rfl⟩, ?_⟩
    show Steps p.tables e below _ (((({ U with heap := s₂.heap, slotsUsed := s₂.slotsUsed } : State).setVm s₂.vm).setTop g).pushFrame (.throwing q))
    rw [← hs₂]
    exact hsteps
end
variable {p : Program} {l : Launch} {e : Env} {R : Room} {s : State} {m : MethodId} {args : Array Value} {below : List Frame} {meth : Method} {c : Code} {T : State} {H : Heap} {locs : List Loc} {cells slots : Nat}
theorem vx_callVX (X : Stand p l e R s m args below meth c T locs cells slots) (hexec : p.tables.exec = Jvm.exec) {own C : String} {index : Nat} {y : MethodName} {bytes : ByteArray} {maxL : Nat} {ret : Option FieldType} {hh : List (Nat × Nat × Nat × Nat)}
    (hown : s.vm.findClass own = some m.cls) (hlink : (Cond.methodLink own index y).before args s = true) (hinst : (Cond.instanceMethod y).before args s = true) (hsel : (Cond.selects C y y).before args s = true)
    (hcode : (Cond.codeWith y bytes maxL ret hh).before args s = true) (hy : y.cls ≠ "java/lang/invoke/MethodHandle" ∧ y.cls ≠ "java/lang/invoke/VarHandle")
    {W9 : Nat} {Pre : Pt → Array Value → Prop} {Post : Pt → Array Value → Option Value → Pt → Prop} {PostX : Pt → Array Value → Addr → Pt → Prop} (hK : vx_Back l R p e below s args y 3 W9 Pre Post PostX)
    {b : Addr} {cellB : Cell} (hcell : T.heap[b]? = some cellB) (hobj : cellB.vm.isStatics = false) (hcls : s.vm.findClass C = some cellB.cls)
    {g : JFrame} (hg : g.method = m) (hsize : g.locals.size = c.maxLocals) {argsL rest : List Value} (hlen : ∀ sig, parseMethodDescriptor y.desc = some sig → argsL.length = sig.parameters.length)
    (hstack : g.stack = argsL.reverse ++ .ref b :: rest) (hW : 2 * g.monitorRoom + (rest.map fun v => v.category).sum ≤ W9) (hdg : decode c.code g.pc = .ok (.invokevirtual index, 3))
    (hpre : ∀ vm₁, s.WarmedH vm₁ → Pre ⟨T.setVm vm₁, locs, cells, slots⟩ (Value.ref b :: argsL).toArray) :
    (∃ (v : Option Value) (vm₁ : Vm) (B : Pt), s.WarmedH vm₁ ∧ Stand p l e R s m args below meth c B.U B.locs B.cells B.slots ∧ Post ⟨T.setVm vm₁, locs, cells, slots⟩ (Value.ref b :: argsL).toArray v B ∧
      ∀ target, Steps p.tables e below (B.U.setTop { g with pc := g.pc + 3, stack := v.toList ++ rest }) target → Steps p.tables e below (T.setTop g) target) ∨
    (∃ (q : Addr) (vm₁ : Vm) (B : Pt), s.WarmedH vm₁ ∧ Stand p l e R s m args below meth c B.U B.locs B.cells B.slots ∧ PostX ⟨T.setVm vm₁, locs, cells, slots⟩ (Value.ref b :: argsL).toArray q B ∧
      Steps p.tables e below (T.setTop g) ((B.U.setTop { g with stack := rest }).pushFrame (.throwing q))) := by
  obtain ⟨mk, methM, hnamed, hmethM, hstM, habM⟩ := Cond.instanceMethod_spec hinst
  obtain ⟨m8, methM', cM, hn8, hmethM', -, -, -, -, -, -, hsigM⟩ := Cond.codeWith_spec hcode
  cases Option.some.inj (hn8.symm.trans hnamed)
  cases hmethM.symm.trans hmethM'
  obtain ⟨c2, r2, m2, q1, q2, q3, q4, kP, hkP, hkPi⟩ := Cond.selects_spec hsel
  cases hcls.symm.trans q1
  cases (State.methodFound?_of_named hnamed hy).symm.trans q2
  cases hnamed.symm.trans q3
  have hselP : selectMethod e.platform s.vm cellB.cls mk = .method mk := by rw [Launch.admits_selectMethod X.admits]; exact q4
  obtain ⟨vm₁, X₁, hstep₁⟩ := X.invokevirtual hexec hown hlink hnamed hmethM hstM hkP hkPi hy (a := b) (cell := cellB) hcell
    (fun z h => by rw [h] at hobj; cases hobj) hselP hmethM habM hkP hkPi (g := g) hg (argsL := argsL) (rest := rest) (hlen _ hsigM) hstack hdg
  rcases hK m meth c ⟨T.setVm vm₁, locs, cells, slots⟩ { g with stack := rest } (.invokevirtual index) mk (Value.ref b :: argsL).toArray X₁ hg hsize hdg hW (X₁.named hnamed) (hpre vm₁ X₁.warmed) with ⟨v, B, X', hpost, hsteps⟩ | ⟨q, B, X', hpost, hsteps⟩
  · exact Or.inl ⟨v, vm₁, B, X₁.warmed, X', hpost, fun target h => hstep₁ _ fun acts => by rw [doInvoke_state]; exact hsteps.trans h⟩
  · exact Or.inr ⟨q, vm₁, B, X₁.warmed, X', hpost, hstep₁ _ fun acts => by rw [doInvoke_state]; exact hsteps⟩
theorem vx_callSX (X : Stand p l e R s m args below meth c T locs cells slots) (hexec : p.tables.exec = Jvm.exec) {own : String} {index : Nat} {y : MethodName} {bytes : ByteArray} {maxL : Nat} {ret : Option FieldType} {hh : List (Nat × Nat × Nat × Nat)}
    (hown : s.vm.findClass own = some m.cls) (hlink : (Cond.methodLink own index y).before args s = true) (hstat : (Cond.static y).before args s = true) (hinit : (Cond.initialized y.cls).before args s = true)
    (hcode : (Cond.codeWith y bytes maxL ret hh).before args s = true) (hy : y.cls ≠ "java/lang/invoke/MethodHandle" ∧ y.cls ≠ "java/lang/invoke/VarHandle")
    {W9 : Nat} {Pre : Pt → Array Value → Prop} {Post : Pt → Array Value → Option Value → Pt → Prop} {PostX : Pt → Array Value → Addr → Pt → Prop} (hK : vx_Back l R p e below s args y 3 W9 Pre Post PostX)
    {g : JFrame} (hg : g.method = m) (hsize : g.locals.size = c.maxLocals) {argsL rest : List Value} (hlen : ∀ sig, parseMethodDescriptor y.desc = some sig → argsL.length = sig.parameters.length)
    (hstack : g.stack = argsL.reverse ++ rest) (hW : 2 * g.monitorRoom + (rest.map fun v => v.category).sum ≤ W9) (hdg : decode c.code g.pc = .ok (.invokestatic index, 3))
    (hpre : ∀ vm₁, s.WarmedH vm₁ → Pre ⟨T.setVm vm₁, locs, cells, slots⟩ argsL.toArray) :
    (∃ (v : Option Value) (vm₁ : Vm) (B : Pt), s.WarmedH vm₁ ∧ Stand p l e R s m args below meth c B.U B.locs B.cells B.slots ∧ Post ⟨T.setVm vm₁, locs, cells, slots⟩ argsL.toArray v B ∧
      ∀ target, Steps p.tables e below (B.U.setTop { g with pc := g.pc + 3, stack := v.toList ++ rest }) target → Steps p.tables e below (T.setTop g) target) ∨
    (∃ (q : Addr) (vm₁ : Vm) (B : Pt), s.WarmedH vm₁ ∧ Stand p l e R s m args below meth c B.U B.locs B.cells B.slots ∧ PostX ⟨T.setVm vm₁, locs, cells, slots⟩ argsL.toArray q B ∧
      Steps p.tables e below (T.setTop g) ((B.U.setTop { g with stack := rest }).pushFrame (.throwing q))) := by
  obtain ⟨mk, methM, cM, hnamed, hmethM, -, -, -, -, -, -, hsigM⟩ := Cond.codeWith_spec hcode
  have hstatic : methM.isStatic = true := Cond.static_spec hnamed hmethM hstat
  obtain ⟨kP, hkP, -⟩ := className_of_methodNamed hnamed
  have hinitP : kP.init = .initialized := Cond.initialized_spec (findClass_of_methodNamed hnamed) hkP hinit
  obtain ⟨vm₁, X₁, hstep₁⟩ := X.invokestatic hexec hown hlink hnamed hmethM hstatic hkP hinitP hy (g := g) hg (argsL := argsL) (rest := rest) (hlen _ hsigM) hstack hdg
  rcases hK m meth c ⟨T.setVm vm₁, locs, cells, slots⟩ { g with stack := rest } (.invokestatic index) mk argsL.toArray X₁ hg hsize hdg hW (X₁.named hnamed) (hpre vm₁ X₁.warmed) with ⟨v, B, X', hpost, hsteps⟩ | ⟨q, B, X', hpost, hsteps⟩
  · exact Or.inl ⟨v, vm₁, B, X₁.warmed, X', hpost, fun target h => hstep₁ _ fun acts => by rw [doInvoke_state]; exact hsteps.trans h⟩
  · exact Or.inr ⟨q, vm₁, B, X₁.warmed, X', hpost, hstep₁ _ fun acts => by rw [doInvoke_state]; exact hsteps⟩
theorem vx_callVW (X : Stand p l e R s m args below meth c T locs cells slots) (hexec : p.tables.exec = Jvm.exec) {own C : String} {index : Nat} {y : MethodName} {bytes : ByteArray} {maxL : Nat} {ret : Option FieldType} {hh : List (Nat × Nat × Nat × Nat)}
    (hown : s.vm.findClass own = some m.cls) (hlink : (Cond.methodLink own index y).before args s = true) (hinst : (Cond.instanceMethod y).before args s = true) (hsel : (Cond.selects C y y).before args s = true)
    (hcode : (Cond.codeWith y bytes maxL ret hh).before args s = true) (hy : y.cls ≠ "java/lang/invoke/MethodHandle" ∧ y.cls ≠ "java/lang/invoke/VarHandle")
    {W9 : Nat} {Pre : Pt → Array Value → Prop} {Post : Pt → Array Value → Option Value → Pt → Prop} (hK : Back l R p e below s args y 3 W9 Pre Post)
    {b : Addr} {cellB : Cell} (hcell : T.heap[b]? = some cellB) (hobj : cellB.vm.isStatics = false) (hcls : s.vm.findClass C = some cellB.cls)
    {g : JFrame} (hg : g.method = m) (hsize : g.locals.size = c.maxLocals) {argsL rest : List Value} (hlen : ∀ sig, parseMethodDescriptor y.desc = some sig → argsL.length = sig.parameters.length)
    (hstack : g.stack = argsL.reverse ++ .ref b :: rest) (hW : 2 * g.monitorRoom + (rest.map fun v => v.category).sum ≤ W9) (hdg : decode c.code g.pc = .ok (.invokevirtual index, 3))
    (hpre : ∀ vm₁, s.WarmedH vm₁ → Pre ⟨T.setVm vm₁, locs, cells, slots⟩ (Value.ref b :: argsL).toArray) :
    ∃ (v : Option Value) (vm₁ : Vm) (B : Pt), s.WarmedH vm₁ ∧ Stand p l e R s m args below meth c B.U B.locs B.cells B.slots ∧ Post ⟨T.setVm vm₁, locs, cells, slots⟩ (Value.ref b :: argsL).toArray v B ∧
      ∀ target, Steps p.tables e below (B.U.setTop { g with pc := g.pc + 3, stack := v.toList ++ rest }) target → Steps p.tables e below (T.setTop g) target := by
  obtain ⟨mk, methM, hnamed, hmethM, hstM, habM⟩ := Cond.instanceMethod_spec hinst
  obtain ⟨m8, methM', cM, hn8, hmethM', -, -, -, -, -, -, hsigM⟩ := Cond.codeWith_spec hcode
  cases Option.some.inj (hn8.symm.trans hnamed)
  cases hmethM.symm.trans hmethM'
  obtain ⟨c2, r2, m2, q1, q2, q3, q4, kP, hkP, hkPi⟩ := Cond.selects_spec hsel
  cases hcls.symm.trans q1
  cases (State.methodFound?_of_named hnamed hy).symm.trans q2
  cases hnamed.symm.trans q3
  have hselP : selectMethod e.platform s.vm cellB.cls mk = .method mk := by rw [Launch.admits_selectMethod X.admits]; exact q4
  obtain ⟨vm₁, X₁, hstep₁⟩ := X.invokevirtual hexec hown hlink hnamed hmethM hstM hkP hkPi hy (a := b) (cell := cellB) hcell
    (fun z h => by rw [h] at hobj; cases hobj) hselP hmethM habM hkP hkPi (g := g) hg (argsL := argsL) (rest := rest) (hlen _ hsigM) hstack hdg
  obtain ⟨v, B, X', hpost, hsteps⟩ := hK m meth c ⟨T.setVm vm₁, locs, cells, slots⟩ { g with stack := rest } (.invokevirtual index) mk (Value.ref b :: argsL).toArray X₁ hg hsize hdg hW (X₁.named hnamed) (hpre vm₁ X₁.warmed)
  exact ⟨v, vm₁, B, X₁.warmed, X', hpost, fun target h => hstep₁ _ fun acts => by rw [doInvoke_state]; exact hsteps.trans h⟩
abbrev vx_CVW (R : Room) (s : State) (args : Array Value) (own C : String) (index : Nat) (y : MethodName) (bytes : ByteArray) (maxL : Nat) (ret : Option FieldType) (hh : List (Nat × Nat × Nat × Nat)) (ws : List Cond) (rm : Room) (mc ms n : Nat) : Prop :=
  (rm.cells = mc ∧ rm.slots = ms ∧ rm.frames + 1 ≤ R.frames ∧ 8 + (maxL + 11) + rm.locals ≤ R.locals ∧ (∀ w ∈ ws, ∀ (a' : Array Value) (U : State), s.WarmedH U.vm → w.before a' U = true) ∧ Cond.codeWith y bytes maxL ret hh ∈ ws) ∧
  (Cond.codeWith y bytes maxL ret hh).before args s = true ∧ (Cond.initialized y.cls).before args s = true ∧ (y.cls ≠ "java/lang/invoke/MethodHandle" ∧ y.cls ≠ "java/lang/invoke/VarHandle") ∧
  (∀ sig, parseMethodDescriptor y.desc = some sig → n = sig.parameters.length) ∧ (Cond.methodLink own index y).before args s = true ∧ (Cond.instanceMethod y).before args s = true ∧ (Cond.selects C y y).before args s = true
theorem vx_cwVW {own C : String} {index maxL mc ms : Nat} {y : MethodName} {bytes : ByteArray} {ret : Option FieldType} {hh : List (Nat × Nat × Nat × Nat)} {Ts ws ws' : List Cond} {rm : Room} (n : Nat) (ht : ∀ w ∈ Ts, w.before args s = true) (hT : GoodIn Ts (wsV own index C y ws)) (hw : ws = Cond.codeWith y bytes maxL ret hh :: ws') (hrc : rm.cells = mc) (hrs : rm.slots = ms)
    (hd : y.cls = C ∧ y.cls ≠ "java/lang/invoke/MethodHandle" ∧ y.cls ≠ "java/lang/invoke/VarHandle" ∧ (parseMethodDescriptor y.desc).map (fun d => d.parameters.length) = some n) (hR : rm.frames + 1 ≤ R.frames ∧ 8 + (maxL + 11) + rm.locals ≤ R.locals) :
    vx_CVW R s args own C index y bytes maxL ret hh ws rm mc ms n := by
  obtain ⟨hC, hd⟩ := hd
  subst hC
  have ok : ∀ w ∈ wsV own index y.cls y ws, w.before args s = true := fun w h => ht w (hT w h).1
  have hG : GoodIn Ts ws := fun w h => hT w (by unfold wsV; exact List.mem_append_right _ h)
  have hc : Cond.codeWith y bytes maxL ret hh ∈ ws := by rw [hw]; exact List.mem_cons_self
  refine ⟨⟨hrc, hrs, hR.1, hR.2, pay_in ht hG, hc⟩, ht _ (hG _ hc).1, ok _ (by simp [wsV]), ⟨hd.1, hd.2.1⟩, fun sig h => ?_, ok _ (by simp [wsV]), ok _ (by simp [wsV]), ok _ (by simp [wsV])⟩
  have h2 := hd.2.2
  rw [h] at h2
  exact (Option.some.inj h2).symm
theorem vx_runVW {y : MethodName} {bytes cc : ByteArray} {maxL nL mc ms n index : Nat} {ret : Option FieldType} {hh : List (Nat × Nat × Nat × Nat)} {ws : List Cond} {rm : Room} {Pc : Array Value → State → Prop} {Qc : Array Value → State → Outcome → State → Prop} {free : Addr → Prop} {Ts : List Cond} {own C : String} {b : Addr} {As rest : List Value} {g : JFrame}
    (S : CallFix p m c cc nL s args Ts own) (hM : Met l y ws rm Pc Qc mc ms free) (cw : vx_CVW R s args own C index y bytes maxL ret hh ws rm mc ms n) (hp : PreV s H C b Pc As)
    (hg : g.method = m) (hn : As.length = n) (hsize : g.locals.size = nL) (hstack : g.stack = As.reverse ++ .ref b :: rest) (hW : 2 * g.monitorRoom + (rest.map fun v => v.category).sum ≤ 8) (hdg : decode cc g.pc = .ok (.invokevirtual index, 3)) (hf : cells + mc ≤ R.cells ∧ slots + ms ≤ R.slots) :
    va_Run p l e R s m args below meth c H locs cells slots mc ms g rest (Qc (Value.ref b :: As).toArray) free := by
  obtain ⟨⟨hrc, hrs, hfr, hlo, hws, hcw⟩, hcode, hini, hy, hlen, hl, hin, hse⟩ := cw
  have hK : Back l R p e below s args y 3 8 (PreOf R mc ms Pc) (PostOf Qc mc ms free) := va_backW (hh := hh) (bytes := bytes) (maxL := maxL) (ret := ret) hM hp.1 hrc hrs hfr hlo hws hcw (fun a' U hW => word_at hW (Or.inl (by first | rfl | simp [Cond.onTables, Cond.keeps, Cond.steady])) hini)
  obtain ⟨hx, hb, hml, ho, -⟩ := S
  obtain ⟨-, ⟨cellB, hcB, hoB, hclB⟩, hPc⟩ := hp
  intro T hT X
  obtain ⟨v, vm₁, ⟨U', l2, c2, s2⟩, hW₁, X', ⟨g', mk, t, L, e1, e2, hq, h1, hL, h2, h3⟩, st⟩ := vx_callVW X hx (C := C) (hh := hh) (bytes := bytes) (maxL := maxL) (ret := ret) ho hl hin hse hcode hy hK (by rw [hT]; exact hcB) hoB hclB hg (hsize.trans hml.symm) (argsL := As) (rest := rest) (fun sig h => hn.trans (hlen sig h)) hstack hW (by rw [hb]; exact hdg)
    (fun vm₁ hW₁ => ⟨hf.1, hf.2, hPc (T.setVm vm₁) hT hW₁⟩)
  dsimp only [Pt.U, Pt.locs, Pt.cells, Pt.slots] at X' e1 e2 h1 h2 h3 st
  subst h1; subst h2; subst h3
  exact ⟨v, (T.setVm vm₁).calling g' mk (Value.ref b :: As).toArray, t, U', L, hT, X', hL, e1, e2, hq, st⟩
section
variable {y : MethodName} {bytes cc : ByteArray} {maxL nL mc ms n index : Nat} {ret : Option FieldType} {ws : List Cond} {rm : Room} {Pc : Array Value → State → Prop} {Qc : Array Value → State → Outcome → State → Prop} {XC : String → State → State → Prop} {free : Addr → Prop} {Ts : List Cond} {own C : String} {b : Addr} {As rest : List Value} {g : JFrame}
theorem vx_runVX {hh : List (Nat × Nat × Nat × Nat)} (S : CallFix p m c cc nL s args Ts own) (hM : vx_Met l y ws rm Pc Qc XC mc ms free) (cw : vx_CVW R s args own C index y bytes maxL ret hh ws rm mc ms n) (hp : PreV s H C b Pc As)
    (hg : g.method = m) (hn : As.length = n) (hsize : g.locals.size = nL) (hstack : g.stack = As.reverse ++ .ref b :: rest) (hW : 2 * g.monitorRoom + (rest.map fun v => v.category).sum ≤ 8) (hdg : decode cc g.pc = .ok (.invokevirtual index, 3)) (hf : cells + mc ≤ R.cells ∧ slots + ms ≤ R.slots) :
    vx_Run p l e R s m args below meth c H locs cells slots mc ms g rest (Qc (Value.ref b :: As).toArray) XC free := by
  obtain ⟨⟨hrc, hrs, hfr, hlo, hws, hcw⟩, hcode, hini, hy, hlen, hl, hin, hse⟩ := cw
  have hK : vx_Back l R p e below s args y 3 8 (PreOf R mc ms Pc) (PostOf Qc mc ms free) (vx_Post XC mc ms free) := vx_backW (hh := hh) (bytes := bytes) (maxL := maxL) (ret := ret) hM hp.1 hrc hrs hfr hlo hws hcw (fun a' U hW => word_at hW (Or.inl (by first | rfl | simp [Cond.onTables, Cond.keeps, Cond.steady])) hini)
  obtain ⟨hx, hb, hml, ho, -⟩ := S
  obtain ⟨-, ⟨cellB, hcB, hoB, hclB⟩, hPc⟩ := hp
  intro T hT X
  rcases vx_callVX X hx (C := C) (hh := hh) (bytes := bytes) (maxL := maxL) (ret := ret) ho hl hin hse hcode hy hK (by rw [hT]; exact hcB) hoB hclB hg (hsize.trans hml.symm) (argsL := As) (rest := rest) (fun sig h => hn.trans (hlen sig h)) hstack hW (by rw [hb]; exact hdg)
    (fun vm₁ hW₁ => ⟨hf.1, hf.2, hPc (T.setVm vm₁) hT hW₁⟩) with ⟨v, vm₁, ⟨U', l2, c2, s2⟩, hW₁, X', ⟨g', mk, t, L, e1, e2, hq, h1, hL, h2, h3⟩, st⟩ | ⟨q, vm₁, ⟨U', l2, c2, s2⟩, hW₁, X', ⟨g', mk, t, L, E, ce, e1, e2, hq, hce, hcv, hcl, h1, hL, h2, h3⟩, st⟩
  · dsimp only [Pt.U, Pt.locs, Pt.cells, Pt.slots] at X' e1 e2 h1 h2 h3 st
    subst h1; subst h2; subst h3
    exact Or.inl ⟨v, (T.setVm vm₁).calling g' mk (Value.ref b :: As).toArray, t, U', L, hT, X', hL, e1, e2, hq, st⟩
  · dsimp only [Pt.U, Pt.locs, Pt.cells, Pt.slots] at X' e1 e2 h1 h2 h3 st hcl
    subst h1; subst h2; subst h3
    exact Or.inr ⟨q, (T.setVm vm₁).calling g' mk (Value.ref b :: As).toArray, t, U', L, E, ce, hT, X', hL, e1, e2, hq, hce, hcv, vx_cls hW₁ hcl, st⟩
theorem vx_runSX {hh : List (Nat × Nat × Nat × Nat)} (S : CallFix p m c cc nL s args Ts own) (hM : vx_Met l y ws rm Pc Qc XC mc ms free) (cw : vx_CSW R s args own index y bytes maxL ret hh ws rm mc ms n) (hp : PreS s H Pc As)
    (hg : g.method = m) (hn : As.length = n) (hsize : g.locals.size = nL) (hstack : g.stack = As.reverse ++ rest) (hW : 2 * g.monitorRoom + (rest.map fun v => v.category).sum ≤ 8) (hdg : decode cc g.pc = .ok (.invokestatic index, 3)) (hf : cells + mc ≤ R.cells ∧ slots + ms ≤ R.slots) :
    vx_Run p l e R s m args below meth c H locs cells slots mc ms g rest (Qc As.toArray) XC free := by
  obtain ⟨⟨hrc, hrs, hfr, hlo, hws, hcw⟩, hcode, hini, hy, hlen, hl, hstt⟩ := cw
  have hK : vx_Back l R p e below s args y 3 8 (PreOf R mc ms Pc) (PostOf Qc mc ms free) (vx_Post XC mc ms free) := vx_backW (hh := hh) (bytes := bytes) (maxL := maxL) (ret := ret) hM hp.1 hrc hrs hfr hlo hws hcw (fun a' U hW => word_at hW (Or.inl (by first | rfl | simp [Cond.onTables, Cond.keeps, Cond.steady])) hini)
  obtain ⟨hx, hb, hml, ho, -⟩ := S
  intro T hT X
  rcases vx_callSX X hx (hh := hh) (bytes := bytes) (maxL := maxL) (ret := ret) ho hl hstt hini hcode hy hK hg (hsize.trans hml.symm) (argsL := As) (rest := rest) (fun sig h => hn.trans (hlen sig h)) hstack hW (by rw [hb]; exact hdg)
    (fun vm₁ hW₁ => ⟨hf.1, hf.2, hp.2 (T.setVm vm₁) hT hW₁⟩) with ⟨v, vm₁, ⟨U', l2, c2, s2⟩, hW₁, X', ⟨g', mk, t, L, e1, e2, hq, h1, hL, h2, h3⟩, st⟩ | ⟨q, vm₁, ⟨U', l2, c2, s2⟩, hW₁, X', ⟨g', mk, t, L, E, ce, e1, e2, hq, hce, hcv, hcl, h1, hL, h2, h3⟩, st⟩
  · dsimp only [Pt.U, Pt.locs, Pt.cells, Pt.slots] at X' e1 e2 h1 h2 h3 st
    subst h1; subst h2; subst h3
    exact Or.inl ⟨v, (T.setVm vm₁).calling g' mk As.toArray, t, U', L, hT, X', hL, e1, e2, hq, st⟩
  · dsimp only [Pt.U, Pt.locs, Pt.cells, Pt.slots] at X' e1 e2 h1 h2 h3 st hcl
    subst h1; subst h2; subst h3
    exact Or.inr ⟨q, (T.setVm vm₁).calling g' mk As.toArray, t, U', L, E, ce, hT, X', hL, e1, e2, hq, hce, hcv, vx_cls hW₁ hcl, st⟩
end
end VXH
theorem vx_ofWH {l : Launch} {y : MethodName} {ws ws' : List Cond} {rm : Room} {Pc : Array Value → State → Prop} {Qc : Array Value → State → Outcome → State → Prop} {XC : String → State → State → Prop} {mc ms : Nat} {free : Addr → Prop} {cc : ByteArray} {maxL : Nat} {ret : Option FieldType} {hh : List (Nat × Nat × Nat × Nat)}
    (hy : plainName y.cls = true) (hw : ws = Cond.codeWith y cc maxL ret hh :: ws')
    (body : ∀ p e s m args below meth c s₁, BodyLoose p l y (headSpec ws rm) cc maxL ret e s m args below meth c s₁ → c.maxLocals = maxL → Pc args s →
      W p l e (headSpec ws rm).room s m args below meth c s.heap [] 0 0 (vx_MQ below Qc XC args s mc ms free) (entryFrame m args maxL)) : vx_Met l y ws rm Pc Qc XC mc ms free := by
  refine MetFree.of_bodyS (code := cc) (maxLocals := maxL) (ret := ret) hy ?_ ?_
  · intro args s m h hn
    obtain ⟨m9, meth, c, hn9, h1, h2, h3, h4, -, h5, h6, -⟩ := Cond.codeWith_spec (atoms_spec (ws := ws) h _ (by rw [hw]; exact List.mem_cons_self))
    cases hn.symm.trans hn9
    exact ⟨meth, c, h1, h2, h3, h4, h5, h6⟩
  · intro p e s m args below meth c s₁ B hml hP _
    have hh0 : s₁.heap = s.heap := by rw [B.state]; rfl
    obtain ⟨t, a1, o, b1, b2, b3⟩ := body p e s m args below meth c s₁ B hml hP s₁ hh0 (Stand.of_body B)
    exact ⟨t, o, a1, b1, b2, b3⟩
/-! ===== END ===== -/
end
section
abbrev NSE : String := "java/util/NoSuchElementException"
abbrev NSN : List String := ["java/lang/RuntimeException", "java/lang/Exception"]
/-- a method that returns, or throws NoSuchElementException -/
def QX {α : Type} (Γ : Gam) (rv : α → Option Value) (x : Option α) (μ' : Mem) : Array Value → State → Outcome → State → Prop := fun a st o t => ∃ v, x = some v ∧ Qo Γ (rv v) μ' a st o t
def XX {α : Type} (Γ : Gam) (x : Option α) (μ' : Mem) : String → State → State → Prop := fun E st t => x = none ∧ E = NSE ∧ Wd Γ μ' t.heap ∧ va_F (fun q => gB Γ ≤ q) st t
def qx {α : Type} (Γ : Gam) (rv : α → Option Value) : Rv (Option α) := fun x μ' below args s mc ms => vx_MQ below (QX Γ rv x μ') (XX Γ x μ') args s mc ms (fun q => gB Γ ≤ q)
def XE (Γ : Gam) (U : State) : Prop := vx_Zq Bundle.tN "UNASSIGNED_STACK" Bundle.steD (fun q => gB Γ ≤ q) U U.heap ∧ vx_Zq Bundle.tN "SUPPRESSED_SENTINEL" Bundle.listD (fun q => gB Γ ≤ q) U U.heap ∧
  (∃ a, vk_R "GrainPit" 76 "no such name or day" a U) ∧ (∃ a, vk_R "GrainPit" 102 "no such member or payment" a U) ∧ (∃ a, vk_R "GrainPit" 219 "no such member or look" a U) ∧ (∃ a, vk_R "GrainPit" 238 "no such member or month" a U) ∧ (∃ a, vk_R "GrainPit" 346 "no such member or day" a U)
/-- what the throws ask of the launch and of the outside -/
def GX (Γ : Gam) : Prop := (gL Γ).stackTraces = false ∧ ∀ U, gE Γ U → XE Γ U
def nE (μ : Mem) : Mem := (mI μ, mL μ, mP μ, aI μ, aL μ, aP μ, mK μ, mN μ, mX μ + 1, mS μ + 6, mT μ)
def thr {α : Type} : M (Option α) := fun μ => some (none, nE μ)
theorem nn_use {w : Cond} {args : Array Value} {s : State} (hw : nnw w = true) (h : va_Nw w s) : w.before args s = true := by
  cases w <;> first
    | (simp [nnw] at hw; done)
    | exact va_Nw.use rfl h
    | exact h
theorem wd_nE {Γ : Gam} {μ : Mem} {H H' : Heap} (hD : Wd Γ μ H) (e2 : H'.size = H.size + 1) (e3 : ∀ q, q < H.size → H'[q]? = H[q]?) : Wd Γ (nE μ) H' := by
  refine ⟨by rw [e2, hD.1]; rfl, hD.2.1, fun a ha => ?_⟩
  obtain ⟨⟨hlt, hat⟩, hb⟩ := hD.2.2 a ha
  refine ⟨⟨by omega, fun c q hc hq => (hat.1 c q hc hq).kept (e3 a hlt), fun h => ?_⟩, hb⟩
  rw [e3 a hlt]
  exact hat.2 h
theorem ok_thr {α : Type} {Γ : Gam} {y : Mth} {d : Nat} {rvx : α → Option Value} {pc : Nat} {lv : List (Nat × Value)} {st : List Value} (hG : GX Γ) {ik is ic : Nat} {text : String} (hy : y.1.cls = "GrainPit") (hcode : Cond.code y.1 y.2.1 y.2.2.1 y.2.2.2 ∈ lw_g)
    (w1 : Cond.classLink "GrainPit" ik NSE ∈ lw_g) (w2 : Cond.initialized NSE ∈ lw_g) (hstr : ∀ U, XE Γ U → ∃ a, vk_R "GrainPit" is text a U) (h1 : ∀ w ∈ (vx_atS "GrainPit" ic NSE NSN).filter goodWord, w ∈ lw_g) (h2 : ∀ w ∈ (vx_atS "GrainPit" ic NSE NSN).filter (fun w => !goodWord w), w ∈ lw_nn)
    (hgood : ∀ w ∈ Cond.classLink "GrainPit" ik NSE :: Cond.initialized NSE :: vx_atS "GrainPit" ic NSE NSN, vx_ot w = true) (hdep : 6 ≤ d) (hst : st.length ≤ 10)
    (d0 : decode y.2.1 pc = .ok (.new ik, 3)) (d3 : decode y.2.1 (pc + 3) = .ok (.dup, 1)) (d4 : decode y.2.1 (pc + 4) = .ok (.ldc is, 2)) (d6 : decode y.2.1 (pc + 6) = .ok (.invokespecial ic, 3)) (d9 : decode y.2.1 (pc + 9) = .ok (.athrow, 1)) : Ok Γ y d (qx Γ rvx) pc lv st thr := by
  intro μ x μ' h
  cases h
  refine ⟨⟨Nat.le_succ _, Nat.le_add_right _ _⟩, ?_⟩
  intro p e s m args below meth c x0 s0 H locs ls hc g1 g2 hS hD hl
  have hts := hc.2.2.2.2.2.1
  have hXE := hG.2 s hc.2.2.2.2.2.2.2.2.1.2.2.2.2.2.2.2
  obtain ⟨sa, hsa⟩ := hstr s hXE
  have htab := hc.2.2.2.2.2.2.2.2.2.2.2.1 hcode
  have hz := cat_sum st
  have m1 : mX (nE μ) = mX μ + 1 := rfl
  have m2 : mS (nE μ) = mS μ + 6 := rfl
  have hat : ∀ w ∈ vx_atS "GrainPit" ic NSE NSN, w.before args s = true := fun w hw => by
    by_cases hg : goodWord w = true
    · exact hts _ (h1 w (List.mem_filter.mpr ⟨hw, hg⟩))
    · have hn := h2 w (List.mem_filter.mpr ⟨hw, by simp [hg]⟩)
      exact nn_use (List.mem_filter.mp hn).2 (hc.2.2.2.2.2.2.2.2.1.2.1 w hn)
  refine vx_throwSE (A := fun q => gB Γ ≤ q) (own := "GrainPit") (names := NSN) hc.1 hc.2.1 hG.1 (by rw [← hy]; exact hc.2.2.2.2.1) (by decide) (by decide) (hts _ w1) (hts _ w2) hsa hat hgood hXE.1 hXE.2.1 hS (by rw [hl.1, hc.2.2.2.1]) d0 d3 d4 d6 d9 (by rw [htab]; exact fun x hx => nomatch hx) (by show 2 + 3 < d; omega) (by show _ + (13 * (2 + 1) + 43) ≤ 64 * d; omega) (by show _ ≤ mX (nE μ) - x0; rw [m1]; omega) (by show _ ≤ mS (nE μ) - s0; rw [m2]; omega) hc.2.2.2.2.2.2.1 ?_ (fun q hq => hS.2.2 q hq) (by rw [m1]; omega) (by rw [m2]; omega)
  intro t hal hsz hold
  refine ⟨rfl, rfl, wd_nE hD hsz hold, ?_⟩
  exact ⟨Nat.le_trans hS.1 (by omega), fun q hq1 hq2 => (hold q (Nat.lt_of_lt_of_le hq1 hS.1)).trans (hS.2.1 q hq1 hq2)⟩
theorem ok_ireturnX {Γ : Gam} {y : Mth} {d pc : Nat} {lv : List (Nat × Value)} {x : Int32} (hd : decode y.2.1 pc = .ok (.ireturn, 1)) (hr : y.2.2.2 = some .int) : Ok Γ y d (qx Γ vI) pc lv [.int x] (rt (some x)) := by
  intro μ w μ' h
  cases h
  refine ⟨⟨Nat.le_refl _, Nat.le_refl _⟩, ?_⟩
  intro p e s m args below meth c x0 s0 H locs ls hc h1 h2 hS hD hl
  exact vx_ret (W.iret hc.1 hc.2.1 (hc.2.2.1.trans hr) (fun t ht _ => ⟨x, rfl, qo_end hS hD ht⟩) (fun q hq => hS.2.2 q hq) hd hc.2.2.2.2.2.2.1)
theorem ok_lreturnX {Γ : Gam} {y : Mth} {d pc : Nat} {lv : List (Nat × Value)} {x : Int64} (hd : decode y.2.1 pc = .ok (.lreturn, 1)) (hr : y.2.2.2 = some .long) : Ok Γ y d (qx Γ vL) pc lv [.long x] (rt (some x)) := by
  intro μ w μ' h
  cases h
  refine ⟨⟨Nat.le_refl _, Nat.le_refl _⟩, ?_⟩
  intro p e s m args below meth c x0 s0 H locs ls hc h1 h2 hS hD hl
  exact vx_ret (W.lret hc.1 hc.2.1 (hc.2.2.1.trans hr) (fun t ht _ => ⟨x, rfl, qo_end hS hD ht⟩) (fun q hq => hS.2.2 q hq) hd hc.2.2.2.2.2.2.1)
def CtX {α : Type} (Γ : Gam) (y : Mth) (d : Nat) (rv : α → Option Value) (av : List Value) (G : M (Option α)) : Prop :=
  ∀ (μ : Mem) (x : Option α) (μ' : Mem), G μ = some (x, μ') → (mX μ ≤ mX μ' ∧ mS μ ≤ mS μ') ∧
    (Stab Γ → vx_Met (gL Γ) y.1 (wsy y) (rmo d (mX μ' - mX μ) (mS μ' - mS μ)) (va_Pc av (fun U => Wd Γ μ U.heap ∧ KK Γ U ∧ gB Γ ≤ U.heap.size)) (QX Γ rv x μ') (XX Γ x μ') (mX μ' - mX μ) (mS μ' - mS μ) (fun q => gB Γ ≤ q))
theorem ct_inX {α : Type} {Γ : Gam} {y : Mth} {d : Nat} {rv : α → Option Value} {av : List Value} {F : M (Option α)} {lv : List (Nat × Value)} (hp : plainName y.1.cls = true) (hl' : lv_args 0 av = lv) (hlen : (lg_sl av).length ≤ y.2.2.1) (k : Ok Γ y d (qx Γ rv) 0 lv [] F) : CtX Γ y d rv av F := by
  subst hl'
  intro μ x μ' h
  refine ⟨(k μ x μ' h).1, fun hst => ?_⟩
  refine vx_ofW (cc := y.2.1) (maxL := y.2.2.1) (ret := y.2.2.2) hp rfl ?_
  intro p e s m args below meth c s₁ B hml _ hv
  obtain ⟨rfl, hD, hKK, hb⟩ := hv
  have hts := atoms_spec (ws := wsy y) B.pre
  have hc : Ctx Γ y p s m av.toArray meth c := ⟨B.exec, B.bytes, B.returns, hml, findClass_of_methodNamed B.named, fun w hw => hts w (List.mem_cons_of_mem _ hw), B.notSynchronized, (name_of_methodNamed B.named B.method).1, hKK, hst, hb, ctx_tab B hts⟩
  have hl := lv_entry av (n := y.2.2.1) hlen
  rw [lg_entry_eq]
  have hW := (k μ x μ' h).2 p e s m av.toArray below meth c (mX μ) (mS μ) s.heap [] _ hc (Nat.le_refl _) (Nat.le_refl _) va_S.rf hD hl
  rw [Nat.sub_self, Nat.sub_self] at hW
  exact hW
theorem xs_S {Γ : Gam} {s st₀ t T' : State} {H : Heap} {locs L : List Loc} (hS : va_S (fun q => gB Γ ≤ q) s.heap H locs) (e0 : st₀.heap = H) (e1 : T'.heap = t.heap) (hF : va_F (fun q => gB Γ ≤ q) st₀ t) (hL : ∀ q ∈ L, gB Γ ≤ q.base) : va_S (fun q => gB Γ ≤ q) s.heap T'.heap (locs ++ L) := by
  refine ⟨?_, fun q h1 h2 => ?_, fun q hq => ?_⟩
  · rw [e1]; exact Nat.le_trans hS.1 (by rw [← e0]; exact hF.1)
  · rw [e1, hF.2 q (by rw [e0]; exact Nat.lt_of_lt_of_le h1 hS.1) h2, e0]
    exact hS.2.1 q h1 h2
  · rcases List.mem_append.mp hq with h | h
    · exact hS.2.2 q h
    · exact hL q h
/-- a call that may throw, with a handler around it -/
theorem ok_callX {α : Type} {Γ : Gam} {y : Mth} {d : Nat} {rv : Rv α} {pc : Nat} {lv : List (Nat × Value)} {st : List Value} {β : Type} {F : β → M α} {E : M α} {G : Nat → M (Option β)} {yc : Mth} {dc : Nat} {rvc : β → Option Value} {r : Option Nat} {idx cn hpc s0' e0' ct : Nat} {C : String} {T : u_T} {N : Nat} (As rest : List Value) (hC : ∀ b : Nat, CtX Γ yc dc rvc (va_rf (some b) :: As) (G b)) (hcl : vcl[cn]? = some (C, T, N)) (hy : CY yc As.length)
    (w1 : Cond.methodLink y.1.cls idx yc.1 ∈ lw_g) (w2 : Cond.instanceMethod yc.1 ∈ lw_g) (w3 : Cond.selects C yc.1 yc.1 ∈ lw_g) (hdep : dc + 1 ≤ d) (hrest : rest.length ≤ 4) (hst : st = As.reverse ++ va_rf r :: rest) (hd : decode y.2.1 pc = .ok (.invokevirtual idx, 3))
    (w4 : Cond.codeWith y.1 y.2.1 y.2.2.1 y.2.2.2 [(s0', e0', hpc, ct)] ∈ lw_g) (hcov : s0' ≤ pc ∧ pc < e0') (hct : ct ≠ 0) (w5 : Cond.classLink y.1.cls ct NSE ∈ lw_g) (w6 : Cond.castable NSE NSE ∈ lw_nn)
    (kk : ∀ x : β, Ok Γ y d rv (pc + 3) lv ((rvc x).toList ++ rest) (F x)) (kh : ∀ q : Option Nat, Ok Γ y d rv hpc lv [va_rf q] E) : Ok Γ y d rv pc lv st (bn (pRc cn r) fun b => bn (G b) fun o => match o with
      | some x => F x
      | none => E) := by
  subst hst
  intro μ w μ' h
  obtain ⟨b, μ0, h1, h2⟩ := bn_some h
  obtain ⟨b', rfl, hK, e⟩ := pRc_some h1
  cases e
  obtain ⟨x, μ1, h3, h4⟩ := bn_some h2
  have hg := hC b μ x μ1 h3
  have hmono : mX μ1 ≤ mX μ' ∧ mS μ1 ≤ mS μ' := by
    cases x with
    | none => exact (kh none μ1 w μ' h4).1
    | some x => exact (kk x μ1 w μ' h4).1
  refine ⟨⟨Nat.le_trans hg.1.1 hmono.1, Nat.le_trans hg.1.2 hmono.2⟩, ?_⟩
  intro p e s m args below meth c x0 s0 H locs ls hc g1 g2 hS hD hl
  have hM := hg.2 hc.2.2.2.2.2.2.2.2.2.1
  obtain ⟨cell, q1, q2, q3, -⟩ := (hD.2.2 b (by omega)).1.2.1 cn _ hK hcl
  have hCA := (hc.2.2.2.2.2.2.2.2.1.1.1 cn _ hcl).2
  have hsum := cat_sum rest
  have hr := vx_runV (e := e) (below := below) (meth := meth) (locs := locs) (cells := mX μ - x0) (slots := mS μ - s0) (g := F0 m pc ls (As.reverse ++ Value.ref b :: rest)) (As := As) (rest := rest) (b := b) ⟨hc.1, hc.2.1, hc.2.2.2.1, hc.2.2.2.2.1, hc.2.2.2.2.2.1⟩ hM ⟨cy_callB (c2 := mX μ' - x0) (s2 := mS μ' - s0) hc hy w1 hdep, hc.2.2.2.2.2.1 _ w2, hc.2.2.2.2.2.1 _ w3⟩ ⟨pc_blind hc.2.2.2.2.2.2.2.2.2.1 _ _, ⟨cell, q1, by rw [q3]; rfl, by rw [q2]; exact hCA.1⟩, fun U hU hW => pc_at hc hS hD hU hW⟩ rfl rfl hl.1 rfl (by show 2 * 0 + _ ≤ 8; omega) hd ⟨by show _ ≤ mX μ' - x0; omega, by show _ ≤ mS μ' - s0; omega⟩
  intro T hT X
  rcases hr T hT X with ⟨v, st₀, t, T', L, e0, X', hL, e1, e2, ⟨v', hv', hv, hWd, hF⟩, stp⟩ | ⟨q, st₀, t, T', L, E', ce, e0, X', hL, e1, e2, ⟨hv', hE', hWd, hF⟩, hce, hcv, hccl, stp⟩
  · cases hv
    subst hv'
    rw [show mX μ - x0 + (mX μ1 - mX μ) = mX μ1 - x0 by omega, show mS μ - s0 + (mS μ1 - mS μ) = mS μ1 - s0 by omega] at X'
    rw [← e1] at hWd
    have hS' : va_S (fun q => gB Γ ≤ q) s.heap T'.heap (locs ++ L) := xs_S hS e0 e1 hF hL
    obtain ⟨t2, a1, b1⟩ := (kk v' μ1 w μ' h4).2 p e s m args below meth c x0 s0 T'.heap (locs ++ L) ls hc (by omega) (by omega) hS' hWd hl T' rfl X'
    exact ⟨t2, stp t2 a1, b1⟩
  · subst hv'
    subst hE'
    rw [show mX μ - x0 + (mX μ1 - mX μ) = mX μ1 - x0 by omega, show mS μ - s0 + (mS μ1 - mS μ) = mS μ1 - s0 by omega] at X'
    rw [← e1] at hWd hce
    have hS' : va_S (fun q => gB Γ ≤ q) s.heap T'.heap (locs ++ L) := xs_S hS e0 e1 hF hL
    have htab := hc.2.2.2.2.2.2.2.2.2.2.2.2 _ w4
    have hk := vx_catch (e := e) (ls := ls) (rest := rest) (pc := pc) (own := y.1.cls) (name := NSE) (E := NSE) (q := q) hc.2.2.2.2.1 [] ⟨s0', e0', hpc, ct⟩ [] htab (fun z hz => nomatch hz) (by simp [covers]; exact hcov) hct (hc.2.2.2.2.2.1 _ w5) (nn_use (List.mem_filter.mp w6).2 (hc.2.2.2.2.2.2.2.2.1.2.1 _ w6)) hce hcv hccl ((kh (some q) μ1 w μ' h4).2 p e s m args below meth c x0 s0 T'.heap (locs ++ L) ls hc (by omega) (by omega) hS' hWd hl)
    obtain ⟨t2, a1, b1⟩ := hk T' rfl X'
    exact ⟨t2, stp.trans a1, b1⟩
end
section
theorem zz_end : True := trivial
end
