section
-- ===== PART A: goes FIRST, ahead of the names: the tables' words, and 'selects' of the private methods out of them =====
/-- a private method of a class that the tables say can be made, by its rows of tables_1 -/
def lw_okq (q : MethodName × Nat) : Prop := (q.1.cls ≠ "java/lang/invoke/MethodHandle" ∧ q.1.cls ≠ "java/lang/invoke/VarHandle") ∧ Cond.instantiable q.1.cls q.2 ∈ tables_1 ∧ Cond.privateMethod q.1 ∈ tables_1 ∧ Cond.instanceMethod q.1 ∈ tables_1
theorem lw_p0 : lw_okq (⟨"GrainPit$Reader", "advance", "()V"⟩, 11) := ⟨⟨by decide +kernel, by decide +kernel⟩, List.mem_of_getElem? (i := 40) (by decide +kernel), List.mem_of_getElem? (i := 220) (by decide +kernel), List.mem_of_getElem? (i := 221) (by decide +kernel)⟩
theorem lw_p1 : lw_okq (⟨"GrainPit$Reader", "wordFrom", "(II)I"⟩, 11) := ⟨⟨by decide +kernel, by decide +kernel⟩, List.mem_of_getElem? (i := 40) (by decide +kernel), List.mem_of_getElem? (i := 227) (by decide +kernel), List.mem_of_getElem? (i := 228) (by decide +kernel)⟩
theorem lw_p2 : lw_okq (⟨"GrainPit$Reader", "refuseIf", "(ZI)V"⟩, 11) := ⟨⟨by decide +kernel, by decide +kernel⟩, List.mem_of_getElem? (i := 40) (by decide +kernel), List.mem_of_getElem? (i := 280) (by decide +kernel), List.mem_of_getElem? (i := 281) (by decide +kernel)⟩
theorem lw_p3 : lw_okq (⟨"GrainPit$Reader", "readNumber", "()V"⟩, 11) := ⟨⟨by decide +kernel, by decide +kernel⟩, List.mem_of_getElem? (i := 40) (by decide +kernel), List.mem_of_getElem? (i := 287) (by decide +kernel), List.mem_of_getElem? (i := 288) (by decide +kernel)⟩
theorem lw_p4 : lw_okq (⟨"GrainPit$Reader", "readRule", "(Ljava/util/ArrayList;)V"⟩, 11) := ⟨⟨by decide +kernel, by decide +kernel⟩, List.mem_of_getElem? (i := 40) (by decide +kernel), List.mem_of_getElem? (i := 354) (by decide +kernel), List.mem_of_getElem? (i := 355) (by decide +kernel)⟩
theorem lw_p5 : lw_okq (⟨"GrainPit$Reader", "readOnly", "(I)V"⟩, 11) := ⟨⟨by decide +kernel, by decide +kernel⟩, List.mem_of_getElem? (i := 40) (by decide +kernel), List.mem_of_getElem? (i := 358) (by decide +kernel), List.mem_of_getElem? (i := 359) (by decide +kernel)⟩
theorem lw_p6 : lw_okq (⟨"GrainPit$Reader", "readExpr", "(I)V"⟩, 11) := ⟨⟨by decide +kernel, by decide +kernel⟩, List.mem_of_getElem? (i := 40) (by decide +kernel), List.mem_of_getElem? (i := 362) (by decide +kernel), List.mem_of_getElem? (i := 363) (by decide +kernel)⟩
theorem lw_p7 : lw_okq (⟨"GrainPit$Reader", "readCond", "(I)V"⟩, 11) := ⟨⟨by decide +kernel, by decide +kernel⟩, List.mem_of_getElem? (i := 40) (by decide +kernel), List.mem_of_getElem? (i := 366) (by decide +kernel), List.mem_of_getElem? (i := 367) (by decide +kernel)⟩
theorem lw_p8 : lw_okq (⟨"GrainPit$Reader", "readSum", "(I)V"⟩, 11) := ⟨⟨by decide +kernel, by decide +kernel⟩, List.mem_of_getElem? (i := 40) (by decide +kernel), List.mem_of_getElem? (i := 370) (by decide +kernel), List.mem_of_getElem? (i := 371) (by decide +kernel)⟩
theorem lw_p9 : lw_okq (⟨"GrainPit$Reader", "readPart", "(I)V"⟩, 11) := ⟨⟨by decide +kernel, by decide +kernel⟩, List.mem_of_getElem? (i := 40) (by decide +kernel), List.mem_of_getElem? (i := 374) (by decide +kernel), List.mem_of_getElem? (i := 375) (by decide +kernel)⟩
theorem lw_p10 : lw_okq (⟨"GrainPit$Reader", "readFactor", "(I)V"⟩, 11) := ⟨⟨by decide +kernel, by decide +kernel⟩, List.mem_of_getElem? (i := 40) (by decide +kernel), List.mem_of_getElem? (i := 378) (by decide +kernel), List.mem_of_getElem? (i := 379) (by decide +kernel)⟩
theorem lw_p11 : lw_okq (⟨"GrainPit$Reader", "emit", "(I)V"⟩, 11) := ⟨⟨by decide +kernel, by decide +kernel⟩, List.mem_of_getElem? (i := 40) (by decide +kernel), List.mem_of_getElem? (i := 382) (by decide +kernel), List.mem_of_getElem? (i := 383) (by decide +kernel)⟩
theorem lw_p12 : lw_okq (⟨"GrainPit$Reader", "take", "()V"⟩, 11) := ⟨⟨by decide +kernel, by decide +kernel⟩, List.mem_of_getElem? (i := 40) (by decide +kernel), List.mem_of_getElem? (i := 386) (by decide +kernel), List.mem_of_getElem? (i := 387) (by decide +kernel)⟩
theorem lw_p13 : lw_okq (⟨"GrainPit$Reader", "readBracket", "(IZ)V"⟩, 11) := ⟨⟨by decide +kernel, by decide +kernel⟩, List.mem_of_getElem? (i := 40) (by decide +kernel), List.mem_of_getElem? (i := 390) (by decide +kernel), List.mem_of_getElem? (i := 391) (by decide +kernel)⟩
theorem lw_p14 : lw_okq (⟨"java/util/ArrayList", "add", "(Ljava/lang/Object;[Ljava/lang/Object;I)V"⟩, 3) := ⟨⟨by decide +kernel, by decide +kernel⟩, List.mem_of_getElem? (i := 91) (by decide +kernel), List.mem_of_getElem? (i := 432) (by decide +kernel), List.mem_of_getElem? (i := 433) (by decide +kernel)⟩
theorem lw_p15 : lw_okq (⟨"java/util/ArrayList", "grow", "()[Ljava/lang/Object;"⟩, 3) := ⟨⟨by decide +kernel, by decide +kernel⟩, List.mem_of_getElem? (i := 91) (by decide +kernel), List.mem_of_getElem? (i := 436) (by decide +kernel), List.mem_of_getElem? (i := 437) (by decide +kernel)⟩
def lw_privs_1 : List (MethodName × Nat) := [(⟨"GrainPit$Reader", "advance", "()V"⟩, 11), (⟨"GrainPit$Reader", "wordFrom", "(II)I"⟩, 11), (⟨"GrainPit$Reader", "refuseIf", "(ZI)V"⟩, 11), (⟨"GrainPit$Reader", "readNumber", "()V"⟩, 11), (⟨"GrainPit$Reader", "readRule", "(Ljava/util/ArrayList;)V"⟩, 11), (⟨"GrainPit$Reader", "readOnly", "(I)V"⟩, 11), (⟨"GrainPit$Reader", "readExpr", "(I)V"⟩, 11), (⟨"GrainPit$Reader", "readCond", "(I)V"⟩, 11), (⟨"GrainPit$Reader", "readSum", "(I)V"⟩, 11), (⟨"GrainPit$Reader", "readPart", "(I)V"⟩, 11), (⟨"GrainPit$Reader", "readFactor", "(I)V"⟩, 11), (⟨"GrainPit$Reader", "emit", "(I)V"⟩, 11), (⟨"GrainPit$Reader", "take", "()V"⟩, 11), (⟨"GrainPit$Reader", "readBracket", "(IZ)V"⟩, 11), (⟨"java/util/ArrayList", "add", "(Ljava/lang/Object;[Ljava/lang/Object;I)V"⟩, 3), (⟨"java/util/ArrayList", "grow", "()[Ljava/lang/Object;"⟩, 3)]
theorem lw_r1 : ∀ q ∈ lw_privs_1, lw_okq q := List.forall_mem_cons.mpr ⟨lw_p0, List.forall_mem_cons.mpr ⟨lw_p1, List.forall_mem_cons.mpr ⟨lw_p2, List.forall_mem_cons.mpr ⟨lw_p3, List.forall_mem_cons.mpr ⟨lw_p4, List.forall_mem_cons.mpr ⟨lw_p5, List.forall_mem_cons.mpr ⟨lw_p6, List.forall_mem_cons.mpr ⟨lw_p7, List.forall_mem_cons.mpr ⟨lw_p8, List.forall_mem_cons.mpr ⟨lw_p9, List.forall_mem_cons.mpr ⟨lw_p10, List.forall_mem_cons.mpr ⟨lw_p11, List.forall_mem_cons.mpr ⟨lw_p12, List.forall_mem_cons.mpr ⟨lw_p13, List.forall_mem_cons.mpr ⟨lw_p14, List.forall_mem_cons.mpr ⟨lw_p15, fun _ h => absurd h List.not_mem_nil⟩⟩⟩⟩⟩⟩⟩⟩⟩⟩⟩⟩⟩⟩⟩⟩
theorem lw_p16 : lw_okq (⟨"java/util/ArrayList", "grow", "(I)[Ljava/lang/Object;"⟩, 3) := ⟨⟨by decide +kernel, by decide +kernel⟩, List.mem_of_getElem? (i := 91) (by decide +kernel), List.mem_of_getElem? (i := 440) (by decide +kernel), List.mem_of_getElem? (i := 441) (by decide +kernel)⟩
theorem lw_p17 : lw_okq (⟨"java/util/ArrayList", "fastRemove", "([Ljava/lang/Object;I)V"⟩, 3) := ⟨⟨by decide +kernel, by decide +kernel⟩, List.mem_of_getElem? (i := 91) (by decide +kernel), List.mem_of_getElem? (i := 490) (by decide +kernel), List.mem_of_getElem? (i := 491) (by decide +kernel)⟩
theorem lw_p18 : lw_okq (⟨"GrainPit", "reasonAgainst", "(IZIII)I"⟩, 11) := ⟨⟨by decide +kernel, by decide +kernel⟩, List.mem_of_getElem? (i := 32) (by decide +kernel), List.mem_of_getElem? (i := 533) (by decide +kernel), List.mem_of_getElem? (i := 534) (by decide +kernel)⟩
theorem lw_p19 : lw_okq (⟨"GrainPit", "memberOf", "(I)LGrainPit$Member;"⟩, 11) := ⟨⟨by decide +kernel, by decide +kernel⟩, List.mem_of_getElem? (i := 32) (by decide +kernel), List.mem_of_getElem? (i := 537) (by decide +kernel), List.mem_of_getElem? (i := 538) (by decide +kernel)⟩
theorem lw_p20 : lw_okq (⟨"GrainPit", "isTooFar", "(II)Z"⟩, 11) := ⟨⟨by decide +kernel, by decide +kernel⟩, List.mem_of_getElem? (i := 32) (by decide +kernel), List.mem_of_getElem? (i := 555) (by decide +kernel), List.mem_of_getElem? (i := 556) (by decide +kernel)⟩
theorem lw_p21 : lw_okq (⟨"GrainPit", "latestPrice", "(I)I"⟩, 11) := ⟨⟨by decide +kernel, by decide +kernel⟩, List.mem_of_getElem? (i := 32) (by decide +kernel), List.mem_of_getElem? (i := 559) (by decide +kernel), List.mem_of_getElem? (i := 560) (by decide +kernel)⟩
theorem lw_p22 : lw_okq (⟨"GrainPit$Rulebook", "inForce", "(II)LGrainPit$Rule;"⟩, 4) := ⟨⟨by decide +kernel, by decide +kernel⟩, List.mem_of_getElem? (i := 85) (by decide +kernel), List.mem_of_getElem? (i := 575) (by decide +kernel), List.mem_of_getElem? (i := 576) (by decide +kernel)⟩
theorem lw_p23 : lw_okq (⟨"GrainPit$Rulebook", "work", "([I)I"⟩, 4) := ⟨⟨by decide +kernel, by decide +kernel⟩, List.mem_of_getElem? (i := 85) (by decide +kernel), List.mem_of_getElem? (i := 582) (by decide +kernel), List.mem_of_getElem? (i := 583) (by decide +kernel)⟩
theorem lw_p24 : lw_okq (⟨"GrainPit$Rulebook", "push", "(I)V"⟩, 4) := ⟨⟨by decide +kernel, by decide +kernel⟩, List.mem_of_getElem? (i := 85) (by decide +kernel), List.mem_of_getElem? (i := 586) (by decide +kernel), List.mem_of_getElem? (i := 587) (by decide +kernel)⟩
theorem lw_p25 : lw_okq (⟨"GrainPit$Rulebook", "apply", "(I)V"⟩, 4) := ⟨⟨by decide +kernel, by decide +kernel⟩, List.mem_of_getElem? (i := 85) (by decide +kernel), List.mem_of_getElem? (i := 590) (by decide +kernel), List.mem_of_getElem? (i := 591) (by decide +kernel)⟩
theorem lw_p26 : lw_okq (⟨"GrainPit$Rulebook", "pop", "()I"⟩, 4) := ⟨⟨by decide +kernel, by decide +kernel⟩, List.mem_of_getElem? (i := 85) (by decide +kernel), List.mem_of_getElem? (i := 594) (by decide +kernel), List.mem_of_getElem? (i := 595) (by decide +kernel)⟩
theorem lw_p27 : lw_okq (⟨"GrainPit", "allWaiting", "()I"⟩, 11) := ⟨⟨by decide +kernel, by decide +kernel⟩, List.mem_of_getElem? (i := 32) (by decide +kernel), List.mem_of_getElem? (i := 614) (by decide +kernel), List.mem_of_getElem? (i := 615) (by decide +kernel)⟩
theorem lw_p28 : lw_okq (⟨"GrainPit", "fill", "(IZIII)I"⟩, 11) := ⟨⟨by decide +kernel, by decide +kernel⟩, List.mem_of_getElem? (i := 32) (by decide +kernel), List.mem_of_getElem? (i := 618) (by decide +kernel), List.mem_of_getElem? (i := 619) (by decide +kernel)⟩
theorem lw_p29 : lw_okq (⟨"GrainPit", "exchange", "(IIIII)V"⟩, 11) := ⟨⟨by decide +kernel, by decide +kernel⟩, List.mem_of_getElem? (i := 32) (by decide +kernel), List.mem_of_getElem? (i := 659) (by decide +kernel), List.mem_of_getElem? (i := 660) (by decide +kernel)⟩
theorem lw_p30 : lw_okq (⟨"java/util/ArrayList", "rangeCheckForAdd", "(I)V"⟩, 3) := ⟨⟨by decide +kernel, by decide +kernel⟩, List.mem_of_getElem? (i := 91) (by decide +kernel), List.mem_of_getElem? (i := 711) (by decide +kernel), List.mem_of_getElem? (i := 712) (by decide +kernel)⟩
theorem lw_p31 : lw_okq (⟨"GrainPit", "tradeOf", "(I)LGrainPit$Trade;"⟩, 11) := ⟨⟨by decide +kernel, by decide +kernel⟩, List.mem_of_getElem? (i := 32) (by decide +kernel), List.mem_of_getElem? (i := 737) (by decide +kernel), List.mem_of_getElem? (i := 738) (by decide +kernel)⟩
def lw_privs_2 : List (MethodName × Nat) := [(⟨"java/util/ArrayList", "grow", "(I)[Ljava/lang/Object;"⟩, 3), (⟨"java/util/ArrayList", "fastRemove", "([Ljava/lang/Object;I)V"⟩, 3), (⟨"GrainPit", "reasonAgainst", "(IZIII)I"⟩, 11), (⟨"GrainPit", "memberOf", "(I)LGrainPit$Member;"⟩, 11), (⟨"GrainPit", "isTooFar", "(II)Z"⟩, 11), (⟨"GrainPit", "latestPrice", "(I)I"⟩, 11), (⟨"GrainPit$Rulebook", "inForce", "(II)LGrainPit$Rule;"⟩, 4), (⟨"GrainPit$Rulebook", "work", "([I)I"⟩, 4), (⟨"GrainPit$Rulebook", "push", "(I)V"⟩, 4), (⟨"GrainPit$Rulebook", "apply", "(I)V"⟩, 4), (⟨"GrainPit$Rulebook", "pop", "()I"⟩, 4), (⟨"GrainPit", "allWaiting", "()I"⟩, 11), (⟨"GrainPit", "fill", "(IZIII)I"⟩, 11), (⟨"GrainPit", "exchange", "(IIIII)V"⟩, 11), (⟨"java/util/ArrayList", "rangeCheckForAdd", "(I)V"⟩, 3), (⟨"GrainPit", "tradeOf", "(I)LGrainPit$Trade;"⟩, 11)]
theorem lw_r2 : ∀ q ∈ lw_privs_2, lw_okq q := List.forall_mem_cons.mpr ⟨lw_p16, List.forall_mem_cons.mpr ⟨lw_p17, List.forall_mem_cons.mpr ⟨lw_p18, List.forall_mem_cons.mpr ⟨lw_p19, List.forall_mem_cons.mpr ⟨lw_p20, List.forall_mem_cons.mpr ⟨lw_p21, List.forall_mem_cons.mpr ⟨lw_p22, List.forall_mem_cons.mpr ⟨lw_p23, List.forall_mem_cons.mpr ⟨lw_p24, List.forall_mem_cons.mpr ⟨lw_p25, List.forall_mem_cons.mpr ⟨lw_p26, List.forall_mem_cons.mpr ⟨lw_p27, List.forall_mem_cons.mpr ⟨lw_p28, List.forall_mem_cons.mpr ⟨lw_p29, List.forall_mem_cons.mpr ⟨lw_p30, List.forall_mem_cons.mpr ⟨lw_p31, fun _ h => absurd h List.not_mem_nil⟩⟩⟩⟩⟩⟩⟩⟩⟩⟩⟩⟩⟩⟩⟩⟩
theorem lw_p32 : lw_okq (⟨"GrainPit", "inDefault", "(I)Z"⟩, 11) := ⟨⟨by decide +kernel, by decide +kernel⟩, List.mem_of_getElem? (i := 32) (by decide +kernel), List.mem_of_getElem? (i := 745) (by decide +kernel), List.mem_of_getElem? (i := 746) (by decide +kernel)⟩
theorem lw_p33 : lw_okq (⟨"GrainPit", "endPrice", "(I)I"⟩, 11) := ⟨⟨by decide +kernel, by decide +kernel⟩, List.mem_of_getElem? (i := 32) (by decide +kernel), List.mem_of_getElem? (i := 782) (by decide +kernel), List.mem_of_getElem? (i := 783) (by decide +kernel)⟩
theorem lw_p34 : lw_okq (⟨"GrainPit", "fallsTonight", "(LGrainPit$Member;)Z"⟩, 11) := ⟨⟨by decide +kernel, by decide +kernel⟩, List.mem_of_getElem? (i := 32) (by decide +kernel), List.mem_of_getElem? (i := 805) (by decide +kernel), List.mem_of_getElem? (i := 806) (by decide +kernel)⟩
theorem lw_p35 : lw_okq (⟨"GrainPit", "worthOf", "(LGrainPit$Member;)J"⟩, 11) := ⟨⟨by decide +kernel, by decide +kernel⟩, List.mem_of_getElem? (i := 32) (by decide +kernel), List.mem_of_getElem? (i := 809) (by decide +kernel), List.mem_of_getElem? (i := 810) (by decide +kernel)⟩
theorem lw_p36 : lw_okq (⟨"GrainPit", "needOf", "(LGrainPit$Member;I)J"⟩, 11) := ⟨⟨by decide +kernel, by decide +kernel⟩, List.mem_of_getElem? (i := 32) (by decide +kernel), List.mem_of_getElem? (i := 813) (by decide +kernel), List.mem_of_getElem? (i := 814) (by decide +kernel)⟩
theorem lw_p37 : lw_okq (⟨"GrainPit", "closeOut", "(I)V"⟩, 11) := ⟨⟨by decide +kernel, by decide +kernel⟩, List.mem_of_getElem? (i := 32) (by decide +kernel), List.mem_of_getElem? (i := 817) (by decide +kernel), List.mem_of_getElem? (i := 818) (by decide +kernel)⟩
theorem lw_p38 : lw_okq (⟨"GrainPit", "nextOpposite", "(IIZ)I"⟩, 11) := ⟨⟨by decide +kernel, by decide +kernel⟩, List.mem_of_getElem? (i := 32) (by decide +kernel), List.mem_of_getElem? (i := 821) (by decide +kernel), List.mem_of_getElem? (i := 822) (by decide +kernel)⟩
theorem lw_p39 : lw_okq (⟨"GrainPit", "rememberMembers", "(LGrainPit$Day;)V"⟩, 11) := ⟨⟨by decide +kernel, by decide +kernel⟩, List.mem_of_getElem? (i := 32) (by decide +kernel), List.mem_of_getElem? (i := 825) (by decide +kernel), List.mem_of_getElem? (i := 826) (by decide +kernel)⟩
theorem lw_p40 : lw_okq (⟨"GrainPit", "allHeld", "()I"⟩, 11) := ⟨⟨by decide +kernel, by decide +kernel⟩, List.mem_of_getElem? (i := 32) (by decide +kernel), List.mem_of_getElem? (i := 838) (by decide +kernel), List.mem_of_getElem? (i := 839) (by decide +kernel)⟩
theorem lw_p41 : lw_okq (⟨"GrainPit", "receiptOf", "(I)LGrainPit$Receipt;"⟩, 11) := ⟨⟨by decide +kernel, by decide +kernel⟩, List.mem_of_getElem? (i := 32) (by decide +kernel), List.mem_of_getElem? (i := 878) (by decide +kernel), List.mem_of_getElem? (i := 879) (by decide +kernel)⟩
theorem lw_p42 : lw_okq (⟨"GrainPit", "heldOf", "(II)I"⟩, 11) := ⟨⟨by decide +kernel, by decide +kernel⟩, List.mem_of_getElem? (i := 32) (by decide +kernel), List.mem_of_getElem? (i := 882) (by decide +kernel), List.mem_of_getElem? (i := 883) (by decide +kernel)⟩
theorem lw_p43 : lw_okq (⟨"GrainPit", "heldNotice", "(I)LGrainPit$Notice;"⟩, 11) := ⟨⟨by decide +kernel, by decide +kernel⟩, List.mem_of_getElem? (i := 32) (by decide +kernel), List.mem_of_getElem? (i := 923) (by decide +kernel), List.mem_of_getElem? (i := 924) (by decide +kernel)⟩
theorem lw_p44 : lw_okq (⟨"GrainPit", "noticeOf", "(I)LGrainPit$Notice;"⟩, 11) := ⟨⟨by decide +kernel, by decide +kernel⟩, List.mem_of_getElem? (i := 32) (by decide +kernel), List.mem_of_getElem? (i := 927) (by decide +kernel), List.mem_of_getElem? (i := 928) (by decide +kernel)⟩
theorem lw_p45 : lw_okq (⟨"GrainPit", "nextHolder", "(LGrainPit$Notice;)I"⟩, 11) := ⟨⟨by decide +kernel, by decide +kernel⟩, List.mem_of_getElem? (i := 32) (by decide +kernel), List.mem_of_getElem? (i := 931) (by decide +kernel), List.mem_of_getElem? (i := 932) (by decide +kernel)⟩
theorem lw_p46 : lw_okq (⟨"GrainPit", "dueIn", "(I)I"⟩, 11) := ⟨⟨by decide +kernel, by decide +kernel⟩, List.mem_of_getElem? (i := 32) (by decide +kernel), List.mem_of_getElem? (i := 963) (by decide +kernel), List.mem_of_getElem? (i := 964) (by decide +kernel)⟩
theorem lw_p47 : lw_okq (⟨"GrainPit", "cornerOf", "(I)I"⟩, 11) := ⟨⟨by decide +kernel, by decide +kernel⟩, List.mem_of_getElem? (i := 32) (by decide +kernel), List.mem_of_getElem? (i := 967) (by decide +kernel), List.mem_of_getElem? (i := 968) (by decide +kernel)⟩
def lw_privs_3 : List (MethodName × Nat) := [(⟨"GrainPit", "inDefault", "(I)Z"⟩, 11), (⟨"GrainPit", "endPrice", "(I)I"⟩, 11), (⟨"GrainPit", "fallsTonight", "(LGrainPit$Member;)Z"⟩, 11), (⟨"GrainPit", "worthOf", "(LGrainPit$Member;)J"⟩, 11), (⟨"GrainPit", "needOf", "(LGrainPit$Member;I)J"⟩, 11), (⟨"GrainPit", "closeOut", "(I)V"⟩, 11), (⟨"GrainPit", "nextOpposite", "(IIZ)I"⟩, 11), (⟨"GrainPit", "rememberMembers", "(LGrainPit$Day;)V"⟩, 11), (⟨"GrainPit", "allHeld", "()I"⟩, 11), (⟨"GrainPit", "receiptOf", "(I)LGrainPit$Receipt;"⟩, 11), (⟨"GrainPit", "heldOf", "(II)I"⟩, 11), (⟨"GrainPit", "heldNotice", "(I)LGrainPit$Notice;"⟩, 11), (⟨"GrainPit", "noticeOf", "(I)LGrainPit$Notice;"⟩, 11), (⟨"GrainPit", "nextHolder", "(LGrainPit$Notice;)I"⟩, 11), (⟨"GrainPit", "dueIn", "(I)I"⟩, 11), (⟨"GrainPit", "cornerOf", "(I)I"⟩, 11)]
theorem lw_r3 : ∀ q ∈ lw_privs_3, lw_okq q := List.forall_mem_cons.mpr ⟨lw_p32, List.forall_mem_cons.mpr ⟨lw_p33, List.forall_mem_cons.mpr ⟨lw_p34, List.forall_mem_cons.mpr ⟨lw_p35, List.forall_mem_cons.mpr ⟨lw_p36, List.forall_mem_cons.mpr ⟨lw_p37, List.forall_mem_cons.mpr ⟨lw_p38, List.forall_mem_cons.mpr ⟨lw_p39, List.forall_mem_cons.mpr ⟨lw_p40, List.forall_mem_cons.mpr ⟨lw_p41, List.forall_mem_cons.mpr ⟨lw_p42, List.forall_mem_cons.mpr ⟨lw_p43, List.forall_mem_cons.mpr ⟨lw_p44, List.forall_mem_cons.mpr ⟨lw_p45, List.forall_mem_cons.mpr ⟨lw_p46, List.forall_mem_cons.mpr ⟨lw_p47, fun _ h => absurd h List.not_mem_nil⟩⟩⟩⟩⟩⟩⟩⟩⟩⟩⟩⟩⟩⟩⟩⟩
theorem lw_p48 : lw_okq (⟨"GrainPit", "receiptsBut", "(I)I"⟩, 11) := ⟨⟨by decide +kernel, by decide +kernel⟩, List.mem_of_getElem? (i := 32) (by decide +kernel), List.mem_of_getElem? (i := 971) (by decide +kernel), List.mem_of_getElem? (i := 972) (by decide +kernel)⟩
theorem lw_p49 : lw_okq (⟨"GrainPit", "isSqueezed", "(I)Z"⟩, 11) := ⟨⟨by decide +kernel, by decide +kernel⟩, List.mem_of_getElem? (i := 32) (by decide +kernel), List.mem_of_getElem? (i := 975) (by decide +kernel), List.mem_of_getElem? (i := 976) (by decide +kernel)⟩
theorem lw_p50 : lw_okq (⟨"GrainPit", "isOver", "(I)Z"⟩, 11) := ⟨⟨by decide +kernel, by decide +kernel⟩, List.mem_of_getElem? (i := 32) (by decide +kernel), List.mem_of_getElem? (i := 983) (by decide +kernel), List.mem_of_getElem? (i := 984) (by decide +kernel)⟩
theorem lw_p51 : lw_okq (⟨"GrainPit", "isKnown", "(II)Z"⟩, 11) := ⟨⟨by decide +kernel, by decide +kernel⟩, List.mem_of_getElem? (i := 32) (by decide +kernel), List.mem_of_getElem? (i := 991) (by decide +kernel), List.mem_of_getElem? (i := 992) (by decide +kernel)⟩
theorem lw_p52 : lw_okq (⟨"GrainPit", "priceOn", "(III)I"⟩, 11) := ⟨⟨by decide +kernel, by decide +kernel⟩, List.mem_of_getElem? (i := 32) (by decide +kernel), List.mem_of_getElem? (i := 995) (by decide +kernel), List.mem_of_getElem? (i := 996) (by decide +kernel)⟩
theorem lw_p53 : lw_okq (⟨"java/lang/Throwable", "fillInStackTrace", "(I)Ljava/lang/Throwable;"⟩, 6) := ⟨⟨by decide +kernel, by decide +kernel⟩, List.mem_of_getElem? (i := 1043) (by decide +kernel), List.mem_of_getElem? (i := 1041) (by decide +kernel), List.mem_of_getElem? (i := 1042) (by decide +kernel)⟩
theorem lw_p54 : lw_okq (⟨"GrainPit", "freeReceiptsOf", "(I)I"⟩, 11) := ⟨⟨by decide +kernel, by decide +kernel⟩, List.mem_of_getElem? (i := 32) (by decide +kernel), List.mem_of_getElem? (i := 1090) (by decide +kernel), List.mem_of_getElem? (i := 1091) (by decide +kernel)⟩
theorem lw_p55 : lw_okq (⟨"GrainPitModel", "lay", "(I)V"⟩, 48) := ⟨⟨by decide +kernel, by decide +kernel⟩, List.mem_of_getElem? (i := 1110) (by decide +kernel), List.mem_of_getElem? (i := 1270) (by decide +kernel), List.mem_of_getElem? (i := 1271) (by decide +kernel)⟩
theorem lw_p56 : lw_okq (⟨"GrainPitModel", "next", "()V"⟩, 48) := ⟨⟨by decide +kernel, by decide +kernel⟩, List.mem_of_getElem? (i := 1110) (by decide +kernel), List.mem_of_getElem? (i := 1282) (by decide +kernel), List.mem_of_getElem? (i := 1283) (by decide +kernel)⟩
theorem lw_p57 : lw_okq (⟨"GrainPitModel", "wordAt", "(II)I"⟩, 48) := ⟨⟨by decide +kernel, by decide +kernel⟩, List.mem_of_getElem? (i := 1110) (by decide +kernel), List.mem_of_getElem? (i := 1289) (by decide +kernel), List.mem_of_getElem? (i := 1290) (by decide +kernel)⟩
theorem lw_p58 : lw_okq (⟨"GrainPitModel", "readRule", "()Z"⟩, 48) := ⟨⟨by decide +kernel, by decide +kernel⟩, List.mem_of_getElem? (i := 1110) (by decide +kernel), List.mem_of_getElem? (i := 1303) (by decide +kernel), List.mem_of_getElem? (i := 1304) (by decide +kernel)⟩
theorem lw_p59 : lw_okq (⟨"GrainPitModel", "fails", "(I)Z"⟩, 48) := ⟨⟨by decide +kernel, by decide +kernel⟩, List.mem_of_getElem? (i := 1110) (by decide +kernel), List.mem_of_getElem? (i := 1307) (by decide +kernel), List.mem_of_getElem? (i := 1308) (by decide +kernel)⟩
theorem lw_p60 : lw_okq (⟨"GrainPitModel", "readExpr", "()Z"⟩, 48) := ⟨⟨by decide +kernel, by decide +kernel⟩, List.mem_of_getElem? (i := 1110) (by decide +kernel), List.mem_of_getElem? (i := 1311) (by decide +kernel), List.mem_of_getElem? (i := 1312) (by decide +kernel)⟩
theorem lw_p61 : lw_okq (⟨"GrainPitModel", "readSum", "()Z"⟩, 48) := ⟨⟨by decide +kernel, by decide +kernel⟩, List.mem_of_getElem? (i := 1110) (by decide +kernel), List.mem_of_getElem? (i := 1315) (by decide +kernel), List.mem_of_getElem? (i := 1316) (by decide +kernel)⟩
theorem lw_p62 : lw_okq (⟨"GrainPitModel", "readPart", "()Z"⟩, 48) := ⟨⟨by decide +kernel, by decide +kernel⟩, List.mem_of_getElem? (i := 1110) (by decide +kernel), List.mem_of_getElem? (i := 1319) (by decide +kernel), List.mem_of_getElem? (i := 1320) (by decide +kernel)⟩
theorem lw_p63 : lw_okq (⟨"GrainPitModel", "readFactor", "()Z"⟩, 48) := ⟨⟨by decide +kernel, by decide +kernel⟩, List.mem_of_getElem? (i := 1110) (by decide +kernel), List.mem_of_getElem? (i := 1323) (by decide +kernel), List.mem_of_getElem? (i := 1324) (by decide +kernel)⟩
def lw_privs_4 : List (MethodName × Nat) := [(⟨"GrainPit", "receiptsBut", "(I)I"⟩, 11), (⟨"GrainPit", "isSqueezed", "(I)Z"⟩, 11), (⟨"GrainPit", "isOver", "(I)Z"⟩, 11), (⟨"GrainPit", "isKnown", "(II)Z"⟩, 11), (⟨"GrainPit", "priceOn", "(III)I"⟩, 11), (⟨"java/lang/Throwable", "fillInStackTrace", "(I)Ljava/lang/Throwable;"⟩, 6), (⟨"GrainPit", "freeReceiptsOf", "(I)I"⟩, 11), (⟨"GrainPitModel", "lay", "(I)V"⟩, 48), (⟨"GrainPitModel", "next", "()V"⟩, 48), (⟨"GrainPitModel", "wordAt", "(II)I"⟩, 48), (⟨"GrainPitModel", "readRule", "()Z"⟩, 48), (⟨"GrainPitModel", "fails", "(I)Z"⟩, 48), (⟨"GrainPitModel", "readExpr", "()Z"⟩, 48), (⟨"GrainPitModel", "readSum", "()Z"⟩, 48), (⟨"GrainPitModel", "readPart", "()Z"⟩, 48), (⟨"GrainPitModel", "readFactor", "()Z"⟩, 48)]
theorem lw_r4 : ∀ q ∈ lw_privs_4, lw_okq q := List.forall_mem_cons.mpr ⟨lw_p48, List.forall_mem_cons.mpr ⟨lw_p49, List.forall_mem_cons.mpr ⟨lw_p50, List.forall_mem_cons.mpr ⟨lw_p51, List.forall_mem_cons.mpr ⟨lw_p52, List.forall_mem_cons.mpr ⟨lw_p53, List.forall_mem_cons.mpr ⟨lw_p54, List.forall_mem_cons.mpr ⟨lw_p55, List.forall_mem_cons.mpr ⟨lw_p56, List.forall_mem_cons.mpr ⟨lw_p57, List.forall_mem_cons.mpr ⟨lw_p58, List.forall_mem_cons.mpr ⟨lw_p59, List.forall_mem_cons.mpr ⟨lw_p60, List.forall_mem_cons.mpr ⟨lw_p61, List.forall_mem_cons.mpr ⟨lw_p62, List.forall_mem_cons.mpr ⟨lw_p63, fun _ h => absurd h List.not_mem_nil⟩⟩⟩⟩⟩⟩⟩⟩⟩⟩⟩⟩⟩⟩⟩⟩
theorem lw_p64 : lw_okq (⟨"GrainPitModel", "take", "()Z"⟩, 48) := ⟨⟨by decide +kernel, by decide +kernel⟩, List.mem_of_getElem? (i := 1110) (by decide +kernel), List.mem_of_getElem? (i := 1327) (by decide +kernel), List.mem_of_getElem? (i := 1328) (by decide +kernel)⟩
theorem lw_p65 : lw_okq (⟨"GrainPitModel", "isSign", "(I)Z"⟩, 48) := ⟨⟨by decide +kernel, by decide +kernel⟩, List.mem_of_getElem? (i := 1110) (by decide +kernel), List.mem_of_getElem? (i := 1331) (by decide +kernel), List.mem_of_getElem? (i := 1332) (by decide +kernel)⟩
theorem lw_p66 : lw_okq (⟨"GrainPitModel", "opens", "()Z"⟩, 48) := ⟨⟨by decide +kernel, by decide +kernel⟩, List.mem_of_getElem? (i := 1110) (by decide +kernel), List.mem_of_getElem? (i := 1335) (by decide +kernel), List.mem_of_getElem? (i := 1336) (by decide +kernel)⟩
theorem lw_p67 : lw_okq (⟨"GrainPitModel", "takeSign", "(I)Z"⟩, 48) := ⟨⟨by decide +kernel, by decide +kernel⟩, List.mem_of_getElem? (i := 1110) (by decide +kernel), List.mem_of_getElem? (i := 1339) (by decide +kernel), List.mem_of_getElem? (i := 1340) (by decide +kernel)⟩
theorem lw_p68 : lw_okq (⟨"GrainPitModel", "ruleOf", "(IIIIIII)I"⟩, 48) := ⟨⟨by decide +kernel, by decide +kernel⟩, List.mem_of_getElem? (i := 1110) (by decide +kernel), List.mem_of_getElem? (i := 1356) (by decide +kernel), List.mem_of_getElem? (i := 1357) (by decide +kernel)⟩
theorem lw_p69 : lw_okq (⟨"GrainPitModel", "expr", "()I"⟩, 48) := ⟨⟨by decide +kernel, by decide +kernel⟩, List.mem_of_getElem? (i := 1110) (by decide +kernel), List.mem_of_getElem? (i := 1360) (by decide +kernel), List.mem_of_getElem? (i := 1361) (by decide +kernel)⟩
theorem lw_p70 : lw_okq (⟨"GrainPitModel", "sum", "()I"⟩, 48) := ⟨⟨by decide +kernel, by decide +kernel⟩, List.mem_of_getElem? (i := 1110) (by decide +kernel), List.mem_of_getElem? (i := 1364) (by decide +kernel), List.mem_of_getElem? (i := 1365) (by decide +kernel)⟩
theorem lw_p71 : lw_okq (⟨"GrainPitModel", "part", "()I"⟩, 48) := ⟨⟨by decide +kernel, by decide +kernel⟩, List.mem_of_getElem? (i := 1110) (by decide +kernel), List.mem_of_getElem? (i := 1368) (by decide +kernel), List.mem_of_getElem? (i := 1369) (by decide +kernel)⟩
theorem lw_p72 : lw_okq (⟨"GrainPitModel", "factor", "()I"⟩, 48) := ⟨⟨by decide +kernel, by decide +kernel⟩, List.mem_of_getElem? (i := 1110) (by decide +kernel), List.mem_of_getElem? (i := 1372) (by decide +kernel), List.mem_of_getElem? (i := 1373) (by decide +kernel)⟩
theorem lw_p73 : lw_okq (⟨"GrainPitModel", "isNext", "(I)Z"⟩, 48) := ⟨⟨by decide +kernel, by decide +kernel⟩, List.mem_of_getElem? (i := 1110) (by decide +kernel), List.mem_of_getElem? (i := 1376) (by decide +kernel), List.mem_of_getElem? (i := 1377) (by decide +kernel)⟩
theorem lw_p74 : lw_okq (⟨"GrainPitModel", "reason", "(IZIII)I"⟩, 48) := ⟨⟨by decide +kernel, by decide +kernel⟩, List.mem_of_getElem? (i := 1110) (by decide +kernel), List.mem_of_getElem? (i := 1384) (by decide +kernel), List.mem_of_getElem? (i := 1385) (by decide +kernel)⟩
theorem lw_p75 : lw_okq (⟨"GrainPitModel", "isMember", "(I)Z"⟩, 48) := ⟨⟨by decide +kernel, by decide +kernel⟩, List.mem_of_getElem? (i := 1110) (by decide +kernel), List.mem_of_getElem? (i := 1388) (by decide +kernel), List.mem_of_getElem? (i := 1389) (by decide +kernel)⟩
theorem lw_p76 : lw_okq (⟨"GrainPitModel", "latest", "(I)I"⟩, 48) := ⟨⟨by decide +kernel, by decide +kernel⟩, List.mem_of_getElem? (i := 1110) (by decide +kernel), List.mem_of_getElem? (i := 1397) (by decide +kernel), List.mem_of_getElem? (i := 1398) (by decide +kernel)⟩
theorem lw_p77 : lw_okq (⟨"GrainPitModel", "settleOf", "(III)I"⟩, 48) := ⟨⟨by decide +kernel, by decide +kernel⟩, List.mem_of_getElem? (i := 1110) (by decide +kernel), List.mem_of_getElem? (i := 1401) (by decide +kernel), List.mem_of_getElem? (i := 1402) (by decide +kernel)⟩
theorem lw_p78 : lw_okq (⟨"GrainPitModel", "ranked", "(ZII)I"⟩, 48) := ⟨⟨by decide +kernel, by decide +kernel⟩, List.mem_of_getElem? (i := 1110) (by decide +kernel), List.mem_of_getElem? (i := 1406) (by decide +kernel), List.mem_of_getElem? (i := 1407) (by decide +kernel)⟩
theorem lw_p79 : lw_okq (⟨"GrainPitModel", "isBehind", "(IIZ)Z"⟩, 48) := ⟨⟨by decide +kernel, by decide +kernel⟩, List.mem_of_getElem? (i := 1110) (by decide +kernel), List.mem_of_getElem? (i := 1410) (by decide +kernel), List.mem_of_getElem? (i := 1411) (by decide +kernel)⟩
def lw_privs_5 : List (MethodName × Nat) := [(⟨"GrainPitModel", "take", "()Z"⟩, 48), (⟨"GrainPitModel", "isSign", "(I)Z"⟩, 48), (⟨"GrainPitModel", "opens", "()Z"⟩, 48), (⟨"GrainPitModel", "takeSign", "(I)Z"⟩, 48), (⟨"GrainPitModel", "ruleOf", "(IIIIIII)I"⟩, 48), (⟨"GrainPitModel", "expr", "()I"⟩, 48), (⟨"GrainPitModel", "sum", "()I"⟩, 48), (⟨"GrainPitModel", "part", "()I"⟩, 48), (⟨"GrainPitModel", "factor", "()I"⟩, 48), (⟨"GrainPitModel", "isNext", "(I)Z"⟩, 48), (⟨"GrainPitModel", "reason", "(IZIII)I"⟩, 48), (⟨"GrainPitModel", "isMember", "(I)Z"⟩, 48), (⟨"GrainPitModel", "latest", "(I)I"⟩, 48), (⟨"GrainPitModel", "settleOf", "(III)I"⟩, 48), (⟨"GrainPitModel", "ranked", "(ZII)I"⟩, 48), (⟨"GrainPitModel", "isBehind", "(IIZ)Z"⟩, 48)]
theorem lw_r5 : ∀ q ∈ lw_privs_5, lw_okq q := List.forall_mem_cons.mpr ⟨lw_p64, List.forall_mem_cons.mpr ⟨lw_p65, List.forall_mem_cons.mpr ⟨lw_p66, List.forall_mem_cons.mpr ⟨lw_p67, List.forall_mem_cons.mpr ⟨lw_p68, List.forall_mem_cons.mpr ⟨lw_p69, List.forall_mem_cons.mpr ⟨lw_p70, List.forall_mem_cons.mpr ⟨lw_p71, List.forall_mem_cons.mpr ⟨lw_p72, List.forall_mem_cons.mpr ⟨lw_p73, List.forall_mem_cons.mpr ⟨lw_p74, List.forall_mem_cons.mpr ⟨lw_p75, List.forall_mem_cons.mpr ⟨lw_p76, List.forall_mem_cons.mpr ⟨lw_p77, List.forall_mem_cons.mpr ⟨lw_p78, List.forall_mem_cons.mpr ⟨lw_p79, fun _ h => absurd h List.not_mem_nil⟩⟩⟩⟩⟩⟩⟩⟩⟩⟩⟩⟩⟩⟩⟩⟩
theorem lw_p80 : lw_okq (⟨"GrainPitModel", "move", "(IIIII)V"⟩, 48) := ⟨⟨by decide +kernel, by decide +kernel⟩, List.mem_of_getElem? (i := 1110) (by decide +kernel), List.mem_of_getElem? (i := 1414) (by decide +kernel), List.mem_of_getElem? (i := 1415) (by decide +kernel)⟩
theorem lw_p81 : lw_okq (⟨"GrainPitModel", "dropOrder", "(I)V"⟩, 48) := ⟨⟨by decide +kernel, by decide +kernel⟩, List.mem_of_getElem? (i := 1110) (by decide +kernel), List.mem_of_getElem? (i := 1418) (by decide +kernel), List.mem_of_getElem? (i := 1419) (by decide +kernel)⟩
theorem lw_p82 : lw_okq (⟨"GrainPitModel", "equityOf", "(I)J"⟩, 48) := ⟨⟨by decide +kernel, by decide +kernel⟩, List.mem_of_getElem? (i := 1110) (by decide +kernel), List.mem_of_getElem? (i := 1444) (by decide +kernel), List.mem_of_getElem? (i := 1445) (by decide +kernel)⟩
theorem lw_p83 : lw_okq (⟨"GrainPitModel", "need", "(II)J"⟩, 48) := ⟨⟨by decide +kernel, by decide +kernel⟩, List.mem_of_getElem? (i := 1110) (by decide +kernel), List.mem_of_getElem? (i := 1448) (by decide +kernel), List.mem_of_getElem? (i := 1449) (by decide +kernel)⟩
theorem lw_p84 : lw_okq (⟨"GrainPitModel", "fail", "(I)V"⟩, 48) := ⟨⟨by decide +kernel, by decide +kernel⟩, List.mem_of_getElem? (i := 1110) (by decide +kernel), List.mem_of_getElem? (i := 1452) (by decide +kernel), List.mem_of_getElem? (i := 1453) (by decide +kernel)⟩
theorem lw_p85 : lw_okq (⟨"GrainPitModel", "latestPrices", "()V"⟩, 48) := ⟨⟨by decide +kernel, by decide +kernel⟩, List.mem_of_getElem? (i := 1110) (by decide +kernel), List.mem_of_getElem? (i := 1470) (by decide +kernel), List.mem_of_getElem? (i := 1471) (by decide +kernel)⟩
theorem lw_p86 : lw_okq (⟨"GrainPitModel", "isHeld", "(I)Z"⟩, 48) := ⟨⟨by decide +kernel, by decide +kernel⟩, List.mem_of_getElem? (i := 1110) (by decide +kernel), List.mem_of_getElem? (i := 1503) (by decide +kernel), List.mem_of_getElem? (i := 1504) (by decide +kernel)⟩
def lw_privs_6 : List (MethodName × Nat) := [(⟨"GrainPitModel", "move", "(IIIII)V"⟩, 48), (⟨"GrainPitModel", "dropOrder", "(I)V"⟩, 48), (⟨"GrainPitModel", "equityOf", "(I)J"⟩, 48), (⟨"GrainPitModel", "need", "(II)J"⟩, 48), (⟨"GrainPitModel", "fail", "(I)V"⟩, 48), (⟨"GrainPitModel", "latestPrices", "()V"⟩, 48), (⟨"GrainPitModel", "isHeld", "(I)Z"⟩, 48)]
theorem lw_r6 : ∀ q ∈ lw_privs_6, lw_okq q := List.forall_mem_cons.mpr ⟨lw_p80, List.forall_mem_cons.mpr ⟨lw_p81, List.forall_mem_cons.mpr ⟨lw_p82, List.forall_mem_cons.mpr ⟨lw_p83, List.forall_mem_cons.mpr ⟨lw_p84, List.forall_mem_cons.mpr ⟨lw_p85, List.forall_mem_cons.mpr ⟨lw_p86, fun _ h => absurd h List.not_mem_nil⟩⟩⟩⟩⟩⟩⟩
def lw_privs : List (MethodName × Nat) := lw_privs_1 ++ (lw_privs_2 ++ (lw_privs_3 ++ (lw_privs_4 ++ (lw_privs_5 ++ (lw_privs_6)))))
def lw_tbl : List Cond := k2_sels lw_privs ++ tables_1
theorem lw_privs_ok : ∀ q ∈ lw_privs, lw_okq q := by
  show ∀ q ∈ lw_privs_1 ++ (lw_privs_2 ++ (lw_privs_3 ++ (lw_privs_4 ++ (lw_privs_5 ++ (lw_privs_6))))), lw_okq q
  exact List.forall_mem_append.mpr ⟨lw_r1, List.forall_mem_append.mpr ⟨lw_r2, List.forall_mem_append.mpr ⟨lw_r3, List.forall_mem_append.mpr ⟨lw_r4, List.forall_mem_append.mpr ⟨lw_r5, lw_r6⟩⟩⟩⟩⟩
/-- the words of the tables that stay true under warmer tables -/
def lw_g : List Cond := lw_tbl.filter goodWord
end
section
def RX0 : String := "GrainPit$Day"
def TX0 : u_T := fun k => match k with
  | 0 => ("GrainPit$Day", "settles", "[LGrainPit$Settle;", true)
  | 1 => ("GrainPit$Day", "positions", "[I", true)
  | _ => ("GrainPit$Day", "balances", "[J", true)
def tyX0 : Nat → FieldType := fun k => match k with
  | 0 => .array (.object "GrainPit$Settle")
  | 1 => .array .int
  | _ => .array .long
abbrev wsX00 : List Cond := u_ws RX0 TX0 3
theorem nmX0 : ∀ a, a < 3 → ∀ b, b < 3 → a ≠ b → (TX0 a).2.1 ≠ (TX0 b).2.1 := by decide +kernel
theorem tyX0_ok : ∀ k, k < 3 → parseFieldDescriptor (TX0 k).2.2.1 = some (tyX0 k) := by decide +kernel
abbrev cX0_init : ByteArray := prog_2_method_1_code
def yX0_init : MethodName := ⟨RX0, "<init>", "(I)V"⟩
def RX1 : String := "GrainPit$Member"
def TX1 : u_T := fun k => match k with
  | 0 => ("GrainPit$Member", "positions", "[I", true)
  | 1 => ("GrainPit$Member", "cost", "J", false)
  | 2 => ("GrainPit$Member", "paid", "J", false)
  | 3 => ("GrainPit$Member", "called", "Z", false)
  | _ => ("GrainPit$Member", "failed", "Z", false)
def tyX1 : Nat → FieldType := fun k => match k with
  | 0 => .array .int
  | 1 => .long
  | 2 => .long
  | 3 => .boolean
  | _ => .boolean
abbrev wsX10 : List Cond := u_ws RX1 TX1 5
theorem nmX1 : ∀ a, a < 5 → ∀ b, b < 5 → a ≠ b → (TX1 a).2.1 ≠ (TX1 b).2.1 := by decide +kernel
theorem tyX1_ok : ∀ k, k < 5 → parseFieldDescriptor (TX1 k).2.2.1 = some (tyX1 k) := by decide +kernel
abbrev cX1_init : ByteArray := prog_3_method_1_code
def yX1_init : MethodName := ⟨RX1, "<init>", "()V"⟩
abbrev cX1_gain : ByteArray := prog_3_method_2_code
def yX1_gain : MethodName := ⟨RX1, "gain", "(III)V"⟩
def RX2 : String := "GrainPit$Month"
def TX2 : u_T := fun k => match k with
  | 0 => ("GrainPit$Month", "bids", "Ljava/util/ArrayList;", true)
  | 1 => ("GrainPit$Month", "offers", "Ljava/util/ArrayList;", true)
  | 2 => ("GrainPit$Month", "longs", "Ljava/util/ArrayList;", true)
  | _ => ("GrainPit$Month", "closed", "Z", false)
def tyX2 : Nat → FieldType := fun k => match k with
  | 0 => .object "java/util/ArrayList"
  | 1 => .object "java/util/ArrayList"
  | 2 => .object "java/util/ArrayList"
  | _ => .boolean
abbrev wsX20 : List Cond := u_ws RX2 TX2 4
theorem nmX2 : ∀ a, a < 4 → ∀ b, b < 4 → a ≠ b → (TX2 a).2.1 ≠ (TX2 b).2.1 := by decide +kernel
theorem tyX2_ok : ∀ k, k < 4 → parseFieldDescriptor (TX2 k).2.2.1 = some (tyX2 k) := by decide +kernel
abbrev cX2_init : ByteArray := prog_4_method_1_code
def yX2_init : MethodName := ⟨RX2, "<init>", "()V"⟩
abbrev cX2_side : ByteArray := prog_4_method_2_code
def yX2_side : MethodName := ⟨RX2, "side", "(Z)Ljava/util/ArrayList;"⟩
abbrev cX2_queue : ByteArray := prog_4_method_3_code
def yX2_queue : MethodName := ⟨RX2, "queue", "(ZLGrainPit$Stake;)V"⟩
abbrev cX2_isBetter : ByteArray := prog_4_method_4_code
def yX2_isBetter : MethodName := ⟨RX2, "isBetter", "(ZII)Z"⟩
abbrev cX2_lotsWaiting : ByteArray := prog_4_method_5_code
def yX2_lotsWaiting : MethodName := ⟨RX2, "lotsWaiting", "(ZI)I"⟩
abbrev cX2_dropAll : ByteArray := prog_4_method_6_code
def yX2_dropAll : MethodName := ⟨RX2, "dropAll", "()V"⟩
abbrev cX2_dropLatest : ByteArray := prog_4_method_7_code
def yX2_dropLatest : MethodName := ⟨RX2, "dropLatest", "(I)I"⟩
abbrev cX2_numberAt : ByteArray := prog_4_method_8_code
def yX2_numberAt : MethodName := ⟨RX2, "numberAt", "(Ljava/util/ArrayList;I)I"⟩
abbrev cX2_latestOf : ByteArray := prog_4_method_9_code
def yX2_latestOf : MethodName := ⟨RX2, "latestOf", "(Ljava/util/ArrayList;I)I"⟩
abbrev cX2_takeLongs : ByteArray := prog_4_method_10_code
def yX2_takeLongs : MethodName := ⟨RX2, "takeLongs", "(II)V"⟩
abbrev cX2_firstLongOf : ByteArray := prog_4_method_11_code
def yX2_firstLongOf : MethodName := ⟨RX2, "firstLongOf", "(I)I"⟩
def RX3 : String := "GrainPit$Notice"
def TX3 : u_T := fun k => match k with
  | 0 => ("GrainPit$Notice", "giver", "I", true)
  | 1 => ("GrainPit$Notice", "month", "I", true)
  | 2 => ("GrainPit$Notice", "receipt", "I", true)
  | 3 => ("GrainPit$Notice", "holder", "I", false)
  | 4 => ("GrainPit$Notice", "passed", "I", false)
  | 5 => ("GrainPit$Notice", "state", "I", false)
  | _ => ("GrainPit$Notice", "had", "I", false)
def tyX3 : Nat → FieldType := fun k => match k with
  | 0 => .int
  | 1 => .int
  | 2 => .int
  | 3 => .int
  | 4 => .int
  | 5 => .int
  | _ => .int
abbrev wsX30 : List Cond := u_ws RX3 TX3 7
theorem nmX3 : ∀ a, a < 7 → ∀ b, b < 7 → a ≠ b → (TX3 a).2.1 ≠ (TX3 b).2.1 := by decide +kernel
theorem tyX3_ok : ∀ k, k < 7 → parseFieldDescriptor (TX3 k).2.2.1 = some (tyX3 k) := by decide +kernel
abbrev cX3_init : ByteArray := prog_5_method_1_code
def yX3_init : MethodName := ⟨RX3, "<init>", "(IIII)V"⟩
abbrev cX3_wasWith : ByteArray := prog_5_method_2_code
def yX3_wasWith : MethodName := ⟨RX3, "wasWith", "(I)Z"⟩
abbrev cX3_handTo : ByteArray := prog_5_method_3_code
def yX3_handTo : MethodName := ⟨RX3, "handTo", "(I)V"⟩
def RX4 : String := "GrainPit$Reader"
def TX4 : u_T := fun k => match k with
  | 0 => ("GrainPit$Reader", "tape", "[C", true)
  | 1 => ("GrainPit$Reader", "length", "I", false)
  | 2 => ("GrainPit$Reader", "faultNumber", "I", false)
  | 3 => ("GrainPit$Reader", "faultPlace", "I", false)
  | 4 => ("GrainPit$Reader", "at", "I", false)
  | 5 => ("GrainPit$Reader", "place", "I", false)
  | 6 => ("GrainPit$Reader", "kind", "I", false)
  | 7 => ("GrainPit$Reader", "number", "I", false)
  | 8 => ("GrainPit$Reader", "tokens", "I", false)
  | 9 => ("GrainPit$Reader", "code", "[I", true)
  | _ => ("GrainPit$Reader", "codeLength", "I", false)
def tyX4 : Nat → FieldType := fun k => match k with
  | 0 => .array .char
  | 1 => .int
  | 2 => .int
  | 3 => .int
  | 4 => .int
  | 5 => .int
  | 6 => .int
  | 7 => .int
  | 8 => .int
  | 9 => .array .int
  | _ => .int
abbrev wsX40 : List Cond := u_ws RX4 TX4 11
theorem nmX4 : ∀ a, a < 11 → ∀ b, b < 11 → a ≠ b → (TX4 a).2.1 ≠ (TX4 b).2.1 := by decide +kernel
theorem tyX4_ok : ∀ k, k < 11 → parseFieldDescriptor (TX4 k).2.2.1 = some (tyX4 k) := by decide +kernel
abbrev cX4_init : ByteArray := prog_6_method_1_code
def yX4_init : MethodName := ⟨RX4, "<init>", "()V"⟩
abbrev cX4_hasRoomForFive : ByteArray := prog_6_method_2_code
def yX4_hasRoomForFive : MethodName := ⟨RX4, "hasRoomForFive", "()Z"⟩
abbrev cX4_append : ByteArray := prog_6_method_3_code
def yX4_append : MethodName := ⟨RX4, "append", "(I)V"⟩
abbrev cX4_readText : ByteArray := prog_6_method_4_code
def yX4_readText : MethodName := ⟨RX4, "readText", "(Ljava/util/ArrayList;)I"⟩
abbrev cX4_readRule : ByteArray := prog_6_method_5_code
def yX4_readRule : MethodName := ⟨RX4, "readRule", "(Ljava/util/ArrayList;)V"⟩
abbrev cX4_readExpr : ByteArray := prog_6_method_6_code
def yX4_readExpr : MethodName := ⟨RX4, "readExpr", "(I)V"⟩
abbrev cX4_readCond : ByteArray := prog_6_method_7_code
def yX4_readCond : MethodName := ⟨RX4, "readCond", "(I)V"⟩
abbrev cX4_readSum : ByteArray := prog_6_method_8_code
def yX4_readSum : MethodName := ⟨RX4, "readSum", "(I)V"⟩
abbrev cX4_readPart : ByteArray := prog_6_method_9_code
def yX4_readPart : MethodName := ⟨RX4, "readPart", "(I)V"⟩
abbrev cX4_readFactor : ByteArray := prog_6_method_10_code
def yX4_readFactor : MethodName := ⟨RX4, "readFactor", "(I)V"⟩
abbrev cX4_readBracket : ByteArray := prog_6_method_11_code
def yX4_readBracket : MethodName := ⟨RX4, "readBracket", "(IZ)V"⟩
abbrev cX4_emit : ByteArray := prog_6_method_12_code
def yX4_emit : MethodName := ⟨RX4, "emit", "(I)V"⟩
abbrev cX4_readOnly : ByteArray := prog_6_method_13_code
def yX4_readOnly : MethodName := ⟨RX4, "readOnly", "(I)V"⟩
abbrev cX4_take : ByteArray := prog_6_method_14_code
def yX4_take : MethodName := ⟨RX4, "take", "()V"⟩
abbrev cX4_refuseIf : ByteArray := prog_6_method_15_code
def yX4_refuseIf : MethodName := ⟨RX4, "refuseIf", "(ZI)V"⟩
abbrev cX4_advance : ByteArray := prog_6_method_16_code
def yX4_advance : MethodName := ⟨RX4, "advance", "()V"⟩
abbrev cX4_readNumber : ByteArray := prog_6_method_17_code
def yX4_readNumber : MethodName := ⟨RX4, "readNumber", "()V"⟩
abbrev cX4_wordFrom : ByteArray := prog_6_method_18_code
def yX4_wordFrom : MethodName := ⟨RX4, "wordFrom", "(II)I"⟩
abbrev cX4_isLetter : ByteArray := prog_6_method_19_code
def yX4_isLetter : MethodName := ⟨RX4, "isLetter", "(I)Z"⟩
abbrev cX4_isDigit : ByteArray := prog_6_method_20_code
def yX4_isDigit : MethodName := ⟨RX4, "isDigit", "(I)Z"⟩
def RX5 : String := "GrainPit$Receipt"
def TX5 : u_T := fun k => match k with
  | 0 => ("GrainPit$Receipt", "grade", "I", true)
  | 1 => ("GrainPit$Receipt", "place", "I", true)
  | 2 => ("GrainPit$Receipt", "owner", "I", false)
  | _ => ("GrainPit$Receipt", "free", "Z", false)
def tyX5 : Nat → FieldType := fun k => match k with
  | 0 => .int
  | 1 => .int
  | 2 => .int
  | _ => .boolean
abbrev wsX50 : List Cond := u_ws RX5 TX5 4
theorem nmX5 : ∀ a, a < 4 → ∀ b, b < 4 → a ≠ b → (TX5 a).2.1 ≠ (TX5 b).2.1 := by decide +kernel
theorem tyX5_ok : ∀ k, k < 4 → parseFieldDescriptor (TX5 k).2.2.1 = some (tyX5 k) := by decide +kernel
abbrev cX5_init : ByteArray := prog_7_method_1_code
def yX5_init : MethodName := ⟨RX5, "<init>", "(III)V"⟩
def RX6 : String := "GrainPit$Rule"
def TX6 : u_T := fun k => match k with
  | 0 => ("GrainPit$Rule", "name", "I", true)
  | 1 => ("GrainPit$Rule", "from", "I", true)
  | _ => ("GrainPit$Rule", "code", "[I", true)
def tyX6 : Nat → FieldType := fun k => match k with
  | 0 => .int
  | 1 => .int
  | _ => .array .int
abbrev wsX60 : List Cond := u_ws RX6 TX6 3
theorem nmX6 : ∀ a, a < 3 → ∀ b, b < 3 → a ≠ b → (TX6 a).2.1 ≠ (TX6 b).2.1 := by decide +kernel
theorem tyX6_ok : ∀ k, k < 3 → parseFieldDescriptor (TX6 k).2.2.1 = some (tyX6 k) := by decide +kernel
abbrev cX6_init : ByteArray := prog_8_method_1_code
def yX6_init : MethodName := ⟨RX6, "<init>", "(II[I)V"⟩
def RX7 : String := "GrainPit$Rulebook"
def TX7 : u_T := fun k => match k with
  | 0 => ("GrainPit$Rulebook", "all", "Ljava/util/ArrayList;", true)
  | 1 => ("GrainPit$Rulebook", "words", "[I", true)
  | 2 => ("GrainPit$Rulebook", "stack", "[I", true)
  | _ => ("GrainPit$Rulebook", "depth", "I", false)
def tyX7 : Nat → FieldType := fun k => match k with
  | 0 => .object "java/util/ArrayList"
  | 1 => .array .int
  | 2 => .array .int
  | _ => .int
abbrev wsX70 : List Cond := u_ws RX7 TX7 4
theorem nmX7 : ∀ a, a < 4 → ∀ b, b < 4 → a ≠ b → (TX7 a).2.1 ≠ (TX7 b).2.1 := by decide +kernel
theorem tyX7_ok : ∀ k, k < 4 → parseFieldDescriptor (TX7 k).2.2.1 = some (tyX7 k) := by decide +kernel
abbrev cX7_init : ByteArray := prog_9_method_1_code
def yX7_init : MethodName := ⟨RX7, "<init>", "()V"⟩
abbrev cX7_valueOf : ByteArray := prog_9_method_2_code
def yX7_valueOf : MethodName := ⟨RX7, "valueOf", "(IIIIIII)I"⟩
abbrev cX7_inForce : ByteArray := prog_9_method_3_code
def yX7_inForce : MethodName := ⟨RX7, "inForce", "(II)LGrainPit$Rule;"⟩
abbrev cX7_work : ByteArray := prog_9_method_4_code
def yX7_work : MethodName := ⟨RX7, "work", "([I)I"⟩
abbrev cX7_apply : ByteArray := prog_9_method_5_code
def yX7_apply : MethodName := ⟨RX7, "apply", "(I)V"⟩
abbrev cX7_combine : ByteArray := prog_9_method_6_code
def yX7_combine : MethodName := ⟨RX7, "combine", "(III)I"⟩
abbrev cX7_push : ByteArray := prog_9_method_7_code
def yX7_push : MethodName := ⟨RX7, "push", "(I)V"⟩
abbrev cX7_pop : ByteArray := prog_9_method_8_code
def yX7_pop : MethodName := ⟨RX7, "pop", "()I"⟩
def RX8 : String := "GrainPit$Settle"
def TX8 : u_T := fun k => match k with
  | 0 => ("GrainPit$Settle", "price", "I", true)
  | 1 => ("GrainPit$Settle", "told", "I", true)
  | _ => ("GrainPit$Settle", "before", "LGrainPit$Settle;", true)
def tyX8 : Nat → FieldType := fun k => match k with
  | 0 => .int
  | 1 => .int
  | _ => .object "GrainPit$Settle"
abbrev wsX80 : List Cond := u_ws RX8 TX8 3
theorem nmX8 : ∀ a, a < 3 → ∀ b, b < 3 → a ≠ b → (TX8 a).2.1 ≠ (TX8 b).2.1 := by decide +kernel
theorem tyX8_ok : ∀ k, k < 3 → parseFieldDescriptor (TX8 k).2.2.1 = some (tyX8 k) := by decide +kernel
abbrev cX8_init : ByteArray := prog_10_method_1_code
def yX8_init : MethodName := ⟨RX8, "<init>", "(IILGrainPit$Settle;)V"⟩
def RX9 : String := "GrainPit$Stake"
def TX9 : u_T := fun k => match k with
  | 0 => ("GrainPit$Stake", "member", "I", true)
  | 1 => ("GrainPit$Stake", "price", "I", true)
  | 2 => ("GrainPit$Stake", "number", "I", true)
  | _ => ("GrainPit$Stake", "lots", "I", false)
def tyX9 : Nat → FieldType := fun k => match k with
  | 0 => .int
  | 1 => .int
  | 2 => .int
  | _ => .int
abbrev wsX90 : List Cond := u_ws RX9 TX9 4
theorem nmX9 : ∀ a, a < 4 → ∀ b, b < 4 → a ≠ b → (TX9 a).2.1 ≠ (TX9 b).2.1 := by decide +kernel
theorem tyX9_ok : ∀ k, k < 4 → parseFieldDescriptor (TX9 k).2.2.1 = some (tyX9 k) := by decide +kernel
abbrev cX9_init : ByteArray := prog_11_method_1_code
def yX9_init : MethodName := ⟨RX9, "<init>", "(IIII)V"⟩
def RX10 : String := "GrainPit$Trade"
def TX10 : u_T := fun k => match k with
  | 0 => ("GrainPit$Trade", "month", "I", true)
  | 1 => ("GrainPit$Trade", "price", "I", true)
  | 2 => ("GrainPit$Trade", "lots", "I", true)
  | 3 => ("GrainPit$Trade", "buyer", "I", true)
  | 4 => ("GrainPit$Trade", "seller", "I", true)
  | 5 => ("GrainPit$Trade", "day", "I", true)
  | _ => ("GrainPit$Trade", "struck", "Z", false)
def tyX10 : Nat → FieldType := fun k => match k with
  | 0 => .int
  | 1 => .int
  | 2 => .int
  | 3 => .int
  | 4 => .int
  | 5 => .int
  | _ => .boolean
abbrev wsX100 : List Cond := u_ws RX10 TX10 7
theorem nmX10 : ∀ a, a < 7 → ∀ b, b < 7 → a ≠ b → (TX10 a).2.1 ≠ (TX10 b).2.1 := by decide +kernel
theorem tyX10_ok : ∀ k, k < 7 → parseFieldDescriptor (TX10 k).2.2.1 = some (tyX10 k) := by decide +kernel
abbrev cX10_init : ByteArray := prog_12_method_1_code
def yX10_init : MethodName := ⟨RX10, "<init>", "(IIIIII)V"⟩
def RX11 : String := "GrainPit"
def TX11 : u_T := fun k => match k with
  | 0 => ("GrainPit", "reader", "LGrainPit$Reader;", true)
  | 1 => ("GrainPit", "rulebook", "LGrainPit$Rulebook;", true)
  | 2 => ("GrainPit", "months", "[LGrainPit$Month;", true)
  | 3 => ("GrainPit", "members", "Ljava/util/ArrayList;", true)
  | 4 => ("GrainPit", "trades", "Ljava/util/ArrayList;", true)
  | 5 => ("GrainPit", "receipts", "Ljava/util/ArrayList;", true)
  | 6 => ("GrainPit", "notices", "Ljava/util/ArrayList;", true)
  | 7 => ("GrainPit", "days", "Ljava/util/ArrayList;", true)
  | 8 => ("GrainPit", "today", "I", false)
  | 9 => ("GrainPit", "ordersSoFar", "I", false)
  | _ => ("GrainPit", "rightedSoFar", "I", false)
def tyX11 : Nat → FieldType := fun k => match k with
  | 0 => .object "GrainPit$Reader"
  | 1 => .object "GrainPit$Rulebook"
  | 2 => .array (.object "GrainPit$Month")
  | 3 => .object "java/util/ArrayList"
  | 4 => .object "java/util/ArrayList"
  | 5 => .object "java/util/ArrayList"
  | 6 => .object "java/util/ArrayList"
  | 7 => .object "java/util/ArrayList"
  | 8 => .int
  | 9 => .int
  | _ => .int
abbrev wsX110 : List Cond := u_ws RX11 TX11 11
theorem nmX11 : ∀ a, a < 11 → ∀ b, b < 11 → a ≠ b → (TX11 a).2.1 ≠ (TX11 b).2.1 := by decide +kernel
theorem tyX11_ok : ∀ k, k < 11 → parseFieldDescriptor (TX11 k).2.2.1 = some (tyX11 k) := by decide +kernel
abbrev cX11_init : ByteArray := prog_1_method_1_code
def yX11_init : MethodName := ⟨RX11, "<init>", "()V"⟩
abbrev cX11_feed : ByteArray := prog_1_method_2_code
def yX11_feed : MethodName := ⟨RX11, "feed", "(IIIII)I"⟩
abbrev cX11_end : ByteArray := prog_1_method_3_code
def yX11_end : MethodName := ⟨RX11, "end", "(I)Z"⟩
abbrev cX11_rules : ByteArray := prog_1_method_4_code
def yX11_rules : MethodName := ⟨RX11, "rules", "()I"⟩
abbrev cX11_fault : ByteArray := prog_1_method_5_code
def yX11_fault : MethodName := ⟨RX11, "fault", "(I)I"⟩
abbrev cX11_rule : ByteArray := prog_1_method_6_code
def yX11_rule : MethodName := ⟨RX11, "rule", "(IIIIIII)I"⟩
abbrev cX11_member : ByteArray := prog_1_method_7_code
def yX11_member : MethodName := ⟨RX11, "member", "()I"⟩
abbrev cX11_pay : ByteArray := prog_1_method_8_code
def yX11_pay : MethodName := ⟨RX11, "pay", "(II)J"⟩
abbrev cX11_order : ByteArray := prog_1_method_9_code
def yX11_order : MethodName := ⟨RX11, "order", "(IZIII)I"⟩
abbrev cX11_cancel : ByteArray := prog_1_method_10_code
def yX11_cancel : MethodName := ⟨RX11, "cancel", "(II)I"⟩
abbrev cX11_waiting : ByteArray := prog_1_method_11_code
def yX11_waiting : MethodName := ⟨RX11, "waiting", "(ZIII)I"⟩
abbrev cX11_trade : ByteArray := prog_1_method_12_code
def yX11_trade : MethodName := ⟨RX11, "trade", "(II)I"⟩
abbrev cX11_strike : ByteArray := prog_1_method_13_code
def yX11_strike : MethodName := ⟨RX11, "strike", "(I)Z"⟩
abbrev cX11_night : ByteArray := prog_1_method_14_code
def yX11_night : MethodName := ⟨RX11, "night", "()I"⟩
abbrev cX11_money : ByteArray := prog_1_method_15_code
def yX11_money : MethodName := ⟨RX11, "money", "(II)J"⟩
abbrev cX11_position : ByteArray := prog_1_method_16_code
def yX11_position : MethodName := ⟨RX11, "position", "(II)I"⟩
abbrev cX11_longOf : ByteArray := prog_1_method_17_code
def yX11_longOf : MethodName := ⟨RX11, "longOf", "(III)I"⟩
abbrev cX11_count : ByteArray := prog_1_method_18_code
def yX11_count : MethodName := ⟨RX11, "count", "(I)I"⟩
abbrev cX11_deliver : ByteArray := prog_1_method_19_code
def yX11_deliver : MethodName := ⟨RX11, "deliver", "(I)Z"⟩
abbrev cX11_receipt : ByteArray := prog_1_method_20_code
def yX11_receipt : MethodName := ⟨RX11, "receipt", "(III)I"⟩
abbrev cX11_notice : ByteArray := prog_1_method_21_code
def yX11_notice : MethodName := ⟨RX11, "notice", "(III)I"⟩
abbrev cX11_pass : ByteArray := prog_1_method_22_code
def yX11_pass : MethodName := ⟨RX11, "pass", "(I)I"⟩
abbrev cX11_keep : ByteArray := prog_1_method_23_code
def yX11_keep : MethodName := ⟨RX11, "keep", "(I)I"⟩
abbrev cX11_told : ByteArray := prog_1_method_24_code
def yX11_told : MethodName := ⟨RX11, "told", "(II)I"⟩
abbrev cX11_stored : ByteArray := prog_1_method_25_code
def yX11_stored : MethodName := ⟨RX11, "stored", "(II)I"⟩
abbrev cX11_squeeze : ByteArray := prog_1_method_26_code
def yX11_squeeze : MethodName := ⟨RX11, "squeeze", "(II)I"⟩
abbrev cX11_right : ByteArray := prog_1_method_27_code
def yX11_right : MethodName := ⟨RX11, "right", "(III)Z"⟩
abbrev cX11_settle : ByteArray := prog_1_method_28_code
def yX11_settle : MethodName := ⟨RX11, "settle", "(III)I"⟩
abbrev cX11_equity : ByteArray := prog_1_method_29_code
def yX11_equity : MethodName := ⟨RX11, "equity", "(III)J"⟩
abbrev cX11_isMonth : ByteArray := prog_1_method_30_code
def yX11_isMonth : MethodName := ⟨RX11, "isMonth", "(I)Z"⟩
abbrev cX11_isPrice : ByteArray := prog_1_method_31_code
def yX11_isPrice : MethodName := ⟨RX11, "isPrice", "(I)Z"⟩
abbrev cX11_isOver : ByteArray := prog_1_method_32_code
def yX11_isOver : MethodName := ⟨RX11, "isOver", "(I)Z"⟩
abbrev cX11_isKnown : ByteArray := prog_1_method_33_code
def yX11_isKnown : MethodName := ⟨RX11, "isKnown", "(II)Z"⟩
abbrev cX11_memberOf : ByteArray := prog_1_method_34_code
def yX11_memberOf : MethodName := ⟨RX11, "memberOf", "(I)LGrainPit$Member;"⟩
abbrev cX11_tradeOf : ByteArray := prog_1_method_35_code
def yX11_tradeOf : MethodName := ⟨RX11, "tradeOf", "(I)LGrainPit$Trade;"⟩
abbrev cX11_receiptOf : ByteArray := prog_1_method_36_code
def yX11_receiptOf : MethodName := ⟨RX11, "receiptOf", "(I)LGrainPit$Receipt;"⟩
abbrev cX11_noticeOf : ByteArray := prog_1_method_37_code
def yX11_noticeOf : MethodName := ⟨RX11, "noticeOf", "(I)LGrainPit$Notice;"⟩
abbrev cX11_heldNotice : ByteArray := prog_1_method_38_code
def yX11_heldNotice : MethodName := ⟨RX11, "heldNotice", "(I)LGrainPit$Notice;"⟩
abbrev cX11_inDefault : ByteArray := prog_1_method_39_code
def yX11_inDefault : MethodName := ⟨RX11, "inDefault", "(I)Z"⟩
abbrev cX11_allWaiting : ByteArray := prog_1_method_40_code
def yX11_allWaiting : MethodName := ⟨RX11, "allWaiting", "()I"⟩
abbrev cX11_allHeld : ByteArray := prog_1_method_41_code
def yX11_allHeld : MethodName := ⟨RX11, "allHeld", "()I"⟩
abbrev cX11_latestPrice : ByteArray := prog_1_method_42_code
def yX11_latestPrice : MethodName := ⟨RX11, "latestPrice", "(I)I"⟩
abbrev cX11_priceOn : ByteArray := prog_1_method_43_code
def yX11_priceOn : MethodName := ⟨RX11, "priceOn", "(III)I"⟩
abbrev cX11_worthOf : ByteArray := prog_1_method_44_code
def yX11_worthOf : MethodName := ⟨RX11, "worthOf", "(LGrainPit$Member;)J"⟩
abbrev cX11_needOf : ByteArray := prog_1_method_45_code
def yX11_needOf : MethodName := ⟨RX11, "needOf", "(LGrainPit$Member;I)J"⟩
abbrev cX11_reasonAgainst : ByteArray := prog_1_method_46_code
def yX11_reasonAgainst : MethodName := ⟨RX11, "reasonAgainst", "(IZIII)I"⟩
abbrev cX11_isTooFar : ByteArray := prog_1_method_47_code
def yX11_isTooFar : MethodName := ⟨RX11, "isTooFar", "(II)Z"⟩
abbrev cX11_fill : ByteArray := prog_1_method_48_code
def yX11_fill : MethodName := ⟨RX11, "fill", "(IZIII)I"⟩
abbrev cX11_exchange : ByteArray := prog_1_method_49_code
def yX11_exchange : MethodName := ⟨RX11, "exchange", "(IIIII)V"⟩
abbrev cX11_endPrice : ByteArray := prog_1_method_50_code
def yX11_endPrice : MethodName := ⟨RX11, "endPrice", "(I)I"⟩
abbrev cX11_fallsTonight : ByteArray := prog_1_method_51_code
def yX11_fallsTonight : MethodName := ⟨RX11, "fallsTonight", "(LGrainPit$Member;)Z"⟩
abbrev cX11_closeOut : ByteArray := prog_1_method_52_code
def yX11_closeOut : MethodName := ⟨RX11, "closeOut", "(I)V"⟩
abbrev cX11_nextOpposite : ByteArray := prog_1_method_53_code
def yX11_nextOpposite : MethodName := ⟨RX11, "nextOpposite", "(IIZ)I"⟩
abbrev cX11_rememberMembers : ByteArray := prog_1_method_54_code
def yX11_rememberMembers : MethodName := ⟨RX11, "rememberMembers", "(LGrainPit$Day;)V"⟩
abbrev cX11_freeReceiptsOf : ByteArray := prog_1_method_55_code
def yX11_freeReceiptsOf : MethodName := ⟨RX11, "freeReceiptsOf", "(I)I"⟩
abbrev cX11_receiptsBut : ByteArray := prog_1_method_56_code
def yX11_receiptsBut : MethodName := ⟨RX11, "receiptsBut", "(I)I"⟩
abbrev cX11_heldOf : ByteArray := prog_1_method_57_code
def yX11_heldOf : MethodName := ⟨RX11, "heldOf", "(II)I"⟩
abbrev cX11_nextHolder : ByteArray := prog_1_method_58_code
def yX11_nextHolder : MethodName := ⟨RX11, "nextHolder", "(LGrainPit$Notice;)I"⟩
abbrev cX11_dueIn : ByteArray := prog_1_method_59_code
def yX11_dueIn : MethodName := ⟨RX11, "dueIn", "(I)I"⟩
abbrev cX11_cornerOf : ByteArray := prog_1_method_60_code
def yX11_cornerOf : MethodName := ⟨RX11, "cornerOf", "(I)I"⟩
abbrev cX11_isSqueezed : ByteArray := prog_1_method_61_code
def yX11_isSqueezed : MethodName := ⟨RX11, "isSqueezed", "(I)Z"⟩
def RX12 : String := "GrainPitModel"
def TX12 : u_T := fun k => match k with
  | 0 => ("GrainPitModel", "tape", "[I", true)
  | 1 => ("GrainPitModel", "taped", "I", false)
  | 2 => ("GrainPitModel", "faultKind", "I", false)
  | 3 => ("GrainPitModel", "faultPlace", "I", false)
  | 4 => ("GrainPitModel", "ruleName", "[I", true)
  | 5 => ("GrainPitModel", "ruleDay", "[I", true)
  | 6 => ("GrainPitModel", "ruleMany", "[I", true)
  | 7 => ("GrainPitModel", "tokenKind", "[I", true)
  | 8 => ("GrainPitModel", "tokenValue", "[I", true)
  | 9 => ("GrainPitModel", "rules", "I", false)
  | 10 => ("GrainPitModel", "members", "I", false)
  | 11 => ("GrainPitModel", "paid", "[J", true)
  | 12 => ("GrainPitModel", "called", "[Z", true)
  | 13 => ("GrainPitModel", "failed", "[Z", true)
  | 14 => ("GrainPitModel", "position", "[I", true)
  | 15 => ("GrainPitModel", "cost", "[J", true)
  | 16 => ("GrainPitModel", "longMember", "[I", true)
  | 17 => ("GrainPitModel", "longLots", "[I", true)
  | 18 => ("GrainPitModel", "longMany", "[I", true)
  | 19 => ("GrainPitModel", "closed", "[Z", true)
  | 20 => ("GrainPitModel", "orders", "[I", true)
  | 21 => ("GrainPitModel", "orderMany", "I", false)
  | 22 => ("GrainPitModel", "trades", "[I", true)
  | 23 => ("GrainPitModel", "tradeMany", "I", false)
  | 24 => ("GrainPitModel", "today", "I", false)
  | 25 => ("GrainPitModel", "settles", "[I", true)
  | 26 => ("GrainPitModel", "dayPaid", "[J", true)
  | 27 => ("GrainPitModel", "dayPosition", "[I", true)
  | 28 => ("GrainPitModel", "dayCost", "[J", true)
  | 29 => ("GrainPitModel", "rights", "[I", true)
  | 30 => ("GrainPitModel", "rightMany", "I", false)
  | 31 => ("GrainPitModel", "receipts", "[I", true)
  | 32 => ("GrainPitModel", "receiptMany", "I", false)
  | 33 => ("GrainPitModel", "notices", "[I", true)
  | 34 => ("GrainPitModel", "noticeMany", "I", false)
  | 35 => ("GrainPitModel", "thrown", "I", false)
  | 36 => ("GrainPitModel", "from", "I", false)
  | 37 => ("GrainPitModel", "to", "I", false)
  | 38 => ("GrainPitModel", "kind", "I", false)
  | 39 => ("GrainPitModel", "value", "I", false)
  | 40 => ("GrainPitModel", "length", "I", false)
  | 41 => ("GrainPitModel", "reading", "I", false)
  | 42 => ("GrainPitModel", "tokens", "I", false)
  | 43 => ("GrainPitModel", "open", "I", false)
  | 44 => ("GrainPitModel", "at", "I", false)
  | 45 => ("GrainPitModel", "askedRule", "I", false)
  | 46 => ("GrainPitModel", "asked", "[I", true)
  | _ => ("GrainPitModel", "price", "[I", true)
def tyX12 : Nat → FieldType := fun k => match k with
  | 0 => .array .int
  | 1 => .int
  | 2 => .int
  | 3 => .int
  | 4 => .array .int
  | 5 => .array .int
  | 6 => .array .int
  | 7 => .array .int
  | 8 => .array .int
  | 9 => .int
  | 10 => .int
  | 11 => .array .long
  | 12 => .array .boolean
  | 13 => .array .boolean
  | 14 => .array .int
  | 15 => .array .long
  | 16 => .array .int
  | 17 => .array .int
  | 18 => .array .int
  | 19 => .array .boolean
  | 20 => .array .int
  | 21 => .int
  | 22 => .array .int
  | 23 => .int
  | 24 => .int
  | 25 => .array .int
  | 26 => .array .long
  | 27 => .array .int
  | 28 => .array .long
  | 29 => .array .int
  | 30 => .int
  | 31 => .array .int
  | 32 => .int
  | 33 => .array .int
  | 34 => .int
  | 35 => .int
  | 36 => .int
  | 37 => .int
  | 38 => .int
  | 39 => .int
  | 40 => .int
  | 41 => .int
  | 42 => .int
  | 43 => .int
  | 44 => .int
  | 45 => .int
  | 46 => .array .int
  | _ => .array .int
abbrev wsX120 : List Cond := u_ws RX12 TX12 48
theorem nmX12 : ∀ a, a < 48 → ∀ b, b < 48 → a ≠ b → (TX12 a).2.1 ≠ (TX12 b).2.1 := by decide +kernel
theorem tyX12_ok : ∀ k, k < 48 → parseFieldDescriptor (TX12 k).2.2.1 = some (tyX12 k) := by decide +kernel
abbrev cX12_init : ByteArray := prog_14_method_1_code
def yX12_init : MethodName := ⟨RX12, "<init>", "()V"⟩
abbrev cX12_thrown : ByteArray := prog_14_method_2_code
def yX12_thrown : MethodName := ⟨RX12, "thrown", "()I"⟩
abbrev cX12_in : ByteArray := prog_14_method_3_code
def yX12_in : MethodName := ⟨RX12, "in", "(JJJ)Z"⟩
abbrev cX12_isMember : ByteArray := prog_14_method_4_code
def yX12_isMember : MethodName := ⟨RX12, "isMember", "(I)Z"⟩
abbrev cX12_isMonth : ByteArray := prog_14_method_5_code
def yX12_isMonth : MethodName := ⟨RX12, "isMonth", "(I)Z"⟩
abbrev cX12_lay : ByteArray := prog_14_method_6_code
def yX12_lay : MethodName := ⟨RX12, "lay", "(I)V"⟩
abbrev cX12_feed : ByteArray := prog_14_method_7_code
def yX12_feed : MethodName := ⟨RX12, "feed", "(IIIII)I"⟩
abbrev cX12_end : ByteArray := prog_14_method_8_code
def yX12_end : MethodName := ⟨RX12, "end", "(I)Z"⟩
abbrev cX12_isLetter : ByteArray := prog_14_method_9_code
def yX12_isLetter : MethodName := ⟨RX12, "isLetter", "(I)Z"⟩
abbrev cX12_isDigit : ByteArray := prog_14_method_10_code
def yX12_isDigit : MethodName := ⟨RX12, "isDigit", "(I)Z"⟩
abbrev cX12_wordAt : ByteArray := prog_14_method_11_code
def yX12_wordAt : MethodName := ⟨RX12, "wordAt", "(II)I"⟩
abbrev cX12_next : ByteArray := prog_14_method_12_code
def yX12_next : MethodName := ⟨RX12, "next", "()V"⟩
abbrev cX12_fails : ByteArray := prog_14_method_13_code
def yX12_fails : MethodName := ⟨RX12, "fails", "(I)Z"⟩
abbrev cX12_isSign : ByteArray := prog_14_method_14_code
def yX12_isSign : MethodName := ⟨RX12, "isSign", "(I)Z"⟩
abbrev cX12_take : ByteArray := prog_14_method_15_code
def yX12_take : MethodName := ⟨RX12, "take", "()Z"⟩
abbrev cX12_takeSign : ByteArray := prog_14_method_16_code
def yX12_takeSign : MethodName := ⟨RX12, "takeSign", "(I)Z"⟩
abbrev cX12_opens : ByteArray := prog_14_method_17_code
def yX12_opens : MethodName := ⟨RX12, "opens", "()Z"⟩
abbrev cX12_readExpr : ByteArray := prog_14_method_18_code
def yX12_readExpr : MethodName := ⟨RX12, "readExpr", "()Z"⟩
abbrev cX12_readSum : ByteArray := prog_14_method_19_code
def yX12_readSum : MethodName := ⟨RX12, "readSum", "()Z"⟩
abbrev cX12_readPart : ByteArray := prog_14_method_20_code
def yX12_readPart : MethodName := ⟨RX12, "readPart", "()Z"⟩
abbrev cX12_readFactor : ByteArray := prog_14_method_21_code
def yX12_readFactor : MethodName := ⟨RX12, "readFactor", "()Z"⟩
abbrev cX12_readRule : ByteArray := prog_14_method_22_code
def yX12_readRule : MethodName := ⟨RX12, "readRule", "()Z"⟩
abbrev cX12_rules : ByteArray := prog_14_method_23_code
def yX12_rules : MethodName := ⟨RX12, "rules", "()I"⟩
abbrev cX12_fault : ByteArray := prog_14_method_24_code
def yX12_fault : MethodName := ⟨RX12, "fault", "(I)I"⟩
abbrev cX12_isNext : ByteArray := prog_14_method_25_code
def yX12_isNext : MethodName := ⟨RX12, "isNext", "(I)Z"⟩
abbrev cX12_expr : ByteArray := prog_14_method_26_code
def yX12_expr : MethodName := ⟨RX12, "expr", "()I"⟩
abbrev cX12_sum : ByteArray := prog_14_method_27_code
def yX12_sum : MethodName := ⟨RX12, "sum", "()I"⟩
abbrev cX12_part : ByteArray := prog_14_method_28_code
def yX12_part : MethodName := ⟨RX12, "part", "()I"⟩
abbrev cX12_factor : ByteArray := prog_14_method_29_code
def yX12_factor : MethodName := ⟨RX12, "factor", "()I"⟩
abbrev cX12_ruleOf : ByteArray := prog_14_method_30_code
def yX12_ruleOf : MethodName := ⟨RX12, "ruleOf", "(IIIIIII)I"⟩
abbrev cX12_rule : ByteArray := prog_14_method_31_code
def yX12_rule : MethodName := ⟨RX12, "rule", "(IIIIIII)I"⟩
abbrev cX12_settleOf : ByteArray := prog_14_method_32_code
def yX12_settleOf : MethodName := ⟨RX12, "settleOf", "(III)I"⟩
abbrev cX12_latest : ByteArray := prog_14_method_33_code
def yX12_latest : MethodName := ⟨RX12, "latest", "(I)I"⟩
abbrev cX12_move : ByteArray := prog_14_method_34_code
def yX12_move : MethodName := ⟨RX12, "move", "(IIIII)V"⟩
abbrev cX12_dropOrder : ByteArray := prog_14_method_35_code
def yX12_dropOrder : MethodName := ⟨RX12, "dropOrder", "(I)V"⟩
abbrev cX12_ranked : ByteArray := prog_14_method_36_code
def yX12_ranked : MethodName := ⟨RX12, "ranked", "(ZII)I"⟩
abbrev cX12_isBehind : ByteArray := prog_14_method_37_code
def yX12_isBehind : MethodName := ⟨RX12, "isBehind", "(IIZ)Z"⟩
abbrev cX12_reason : ByteArray := prog_14_method_38_code
def yX12_reason : MethodName := ⟨RX12, "reason", "(IZIII)I"⟩
abbrev cX12_order : ByteArray := prog_14_method_39_code
def yX12_order : MethodName := ⟨RX12, "order", "(IZIII)I"⟩
abbrev cX12_cancel : ByteArray := prog_14_method_40_code
def yX12_cancel : MethodName := ⟨RX12, "cancel", "(II)I"⟩
abbrev cX12_waiting : ByteArray := prog_14_method_41_code
def yX12_waiting : MethodName := ⟨RX12, "waiting", "(ZIII)I"⟩
abbrev cX12_trade : ByteArray := prog_14_method_42_code
def yX12_trade : MethodName := ⟨RX12, "trade", "(II)I"⟩
abbrev cX12_strike : ByteArray := prog_14_method_43_code
def yX12_strike : MethodName := ⟨RX12, "strike", "(I)Z"⟩
abbrev cX12_equityOf : ByteArray := prog_14_method_44_code
def yX12_equityOf : MethodName := ⟨RX12, "equityOf", "(I)J"⟩
abbrev cX12_need : ByteArray := prog_14_method_45_code
def yX12_need : MethodName := ⟨RX12, "need", "(II)J"⟩
abbrev cX12_latestPrices : ByteArray := prog_14_method_46_code
def yX12_latestPrices : MethodName := ⟨RX12, "latestPrices", "()V"⟩
abbrev cX12_fail : ByteArray := prog_14_method_47_code
def yX12_fail : MethodName := ⟨RX12, "fail", "(I)V"⟩
abbrev cX12_night : ByteArray := prog_14_method_48_code
def yX12_night : MethodName := ⟨RX12, "night", "()I"⟩
abbrev cX12_member : ByteArray := prog_14_method_49_code
def yX12_member : MethodName := ⟨RX12, "member", "()I"⟩
abbrev cX12_pay : ByteArray := prog_14_method_50_code
def yX12_pay : MethodName := ⟨RX12, "pay", "(II)J"⟩
abbrev cX12_money : ByteArray := prog_14_method_51_code
def yX12_money : MethodName := ⟨RX12, "money", "(II)J"⟩
abbrev cX12_position : ByteArray := prog_14_method_52_code
def yX12_position : MethodName := ⟨RX12, "position", "(II)I"⟩
abbrev cX12_longOf : ByteArray := prog_14_method_53_code
def yX12_longOf : MethodName := ⟨RX12, "longOf", "(III)I"⟩
abbrev cX12_count : ByteArray := prog_14_method_54_code
def yX12_count : MethodName := ⟨RX12, "count", "(I)I"⟩
abbrev cX12_deliver : ByteArray := prog_14_method_55_code
def yX12_deliver : MethodName := ⟨RX12, "deliver", "(I)Z"⟩
abbrev cX12_receipt : ByteArray := prog_14_method_56_code
def yX12_receipt : MethodName := ⟨RX12, "receipt", "(III)I"⟩
abbrev cX12_notice : ByteArray := prog_14_method_57_code
def yX12_notice : MethodName := ⟨RX12, "notice", "(III)I"⟩
abbrev cX12_isHeld : ByteArray := prog_14_method_58_code
def yX12_isHeld : MethodName := ⟨RX12, "isHeld", "(I)Z"⟩
abbrev cX12_pass : ByteArray := prog_14_method_59_code
def yX12_pass : MethodName := ⟨RX12, "pass", "(I)I"⟩
abbrev cX12_keep : ByteArray := prog_14_method_60_code
def yX12_keep : MethodName := ⟨RX12, "keep", "(I)I"⟩
abbrev cX12_told : ByteArray := prog_14_method_61_code
def yX12_told : MethodName := ⟨RX12, "told", "(II)I"⟩
abbrev cX12_stored : ByteArray := prog_14_method_62_code
def yX12_stored : MethodName := ⟨RX12, "stored", "(II)I"⟩
abbrev cX12_squeeze : ByteArray := prog_14_method_63_code
def yX12_squeeze : MethodName := ⟨RX12, "squeeze", "(II)I"⟩
abbrev cX12_right : ByteArray := prog_14_method_64_code
def yX12_right : MethodName := ⟨RX12, "right", "(III)Z"⟩
abbrev cX12_settle : ByteArray := prog_14_method_65_code
def yX12_settle : MethodName := ⟨RX12, "settle", "(III)I"⟩
abbrev cX12_equity : ByteArray := prog_14_method_66_code
def yX12_equity : MethodName := ⟨RX12, "equity", "(III)J"⟩
def RJx145de : String := "java/io/Serializable"
def TJx145de : u_T := fun k => match k with
  | _ => ("", "", "", false)
def tyJx145de : Nat → FieldType := fun k => match k with
  | _ => .int
abbrev wsJx145de0 : List Cond := u_ws RJx145de TJx145de 0
theorem nmJx145de : ∀ a, a < 0 → ∀ b, b < 0 → a ≠ b → (TJx145de a).2.1 ≠ (TJx145de b).2.1 := by decide +kernel
theorem tyJx145de_ok : ∀ k, k < 0 → parseFieldDescriptor (TJx145de k).2.2.1 = some (tyJx145de k) := by decide +kernel
def RJ11 : String := "java/lang/Character"
def TJ11 : u_T := fun k => match k with
  | _ => ("", "", "", false)
def tyJ11 : Nat → FieldType := fun k => match k with
  | _ => .int
abbrev wsJ110 : List Cond := u_ws RJ11 TJ11 0
theorem nmJ11 : ∀ a, a < 0 → ∀ b, b < 0 → a ≠ b → (TJ11 a).2.1 ≠ (TJ11 b).2.1 := by decide +kernel
theorem tyJ11_ok : ∀ k, k < 0 → parseFieldDescriptor (TJ11 k).2.2.1 = some (tyJ11 k) := by decide +kernel
abbrev cJ11_isValidCodePoint_9a6ad : ByteArray := prog_16_method_11_code
def yJ11_isValidCodePoint_9a6ad : MethodName := ⟨RJ11, "isValidCodePoint", "(I)Z"⟩
abbrev cJ11_highSurrogate_5068e : ByteArray := prog_16_method_28_code
def yJ11_highSurrogate_5068e : MethodName := ⟨RJ11, "highSurrogate", "(I)C"⟩
abbrev cJ11_lowSurrogate_5068e : ByteArray := prog_16_method_29_code
def yJ11_lowSurrogate_5068e : MethodName := ⟨RJ11, "lowSurrogate", "(I)C"⟩
def RJx8e188 : String := "java/lang/Cloneable"
def TJx8e188 : u_T := fun k => match k with
  | _ => ("", "", "", false)
def tyJx8e188 : Nat → FieldType := fun k => match k with
  | _ => .int
abbrev wsJx8e1880 : List Cond := u_ws RJx8e188 TJx8e188 0
theorem nmJx8e188 : ∀ a, a < 0 → ∀ b, b < 0 → a ≠ b → (TJx8e188 a).2.1 ≠ (TJx8e188 b).2.1 := by decide +kernel
theorem tyJx8e188_ok : ∀ k, k < 0 → parseFieldDescriptor (TJx8e188 k).2.2.1 = some (tyJx8e188 k) := by decide +kernel
def RJxab1ab : String := "java/lang/Iterable"
def TJxab1ab : u_T := fun k => match k with
  | _ => ("", "", "", false)
def tyJxab1ab : Nat → FieldType := fun k => match k with
  | _ => .int
abbrev wsJxab1ab0 : List Cond := u_ws RJxab1ab TJxab1ab 0
theorem nmJxab1ab : ∀ a, a < 0 → ∀ b, b < 0 → a ≠ b → (TJxab1ab a).2.1 ≠ (TJxab1ab b).2.1 := by decide +kernel
theorem tyJxab1ab_ok : ∀ k, k < 0 → parseFieldDescriptor (TJxab1ab k).2.2.1 = some (tyJxab1ab k) := by decide +kernel
def RJ9 : String := "java/lang/Math"
def TJ9 : u_T := fun k => match k with
  | _ => ("", "", "", false)
def tyJ9 : Nat → FieldType := fun k => match k with
  | _ => .int
abbrev wsJ90 : List Cond := u_ws RJ9 TJ9 0
theorem nmJ9 : ∀ a, a < 0 → ∀ b, b < 0 → a ≠ b → (TJ9 a).2.1 ≠ (TJ9 b).2.1 := by decide +kernel
theorem tyJ9_ok : ∀ k, k < 0 → parseFieldDescriptor (TJ9 k).2.2.1 = some (tyJ9 k) := by decide +kernel
abbrev cJ9_abs_0f7a4 : ByteArray := prog_20_method_59_code
def yJ9_abs_0f7a4 : MethodName := ⟨RJ9, "abs", "(I)I"⟩
abbrev cJ9_max_7cf53 : ByteArray := prog_20_method_65_code
def yJ9_max_7cf53 : MethodName := ⟨RJ9, "max", "(II)I"⟩
abbrev cJ9_min_7cf53 : ByteArray := prog_20_method_69_code
def yJ9_min_7cf53 : MethodName := ⟨RJ9, "min", "(II)I"⟩
def RJ0 : String := "java/lang/String"
def TJ0 : u_T := fun k => match k with
  | _ => ("", "", "", false)
def tyJ0 : Nat → FieldType := fun k => match k with
  | _ => .int
abbrev wsJ00 : List Cond := u_ws RJ0 TJ0 0
theorem nmJ0 : ∀ a, a < 0 → ∀ b, b < 0 → a ≠ b → (TJ0 a).2.1 ≠ (TJ0 b).2.1 := by decide +kernel
theorem tyJ0_ok : ∀ k, k < 0 → parseFieldDescriptor (TJ0 k).2.2.1 = some (tyJ0 k) := by decide +kernel
abbrev cJ0_length_8abf5 : ByteArray := prog_22_method_54_code
def yJ0_length_8abf5 : MethodName := ⟨RJ0, "length", "()I"⟩
abbrev cJ0_charAt_5068e : ByteArray := prog_22_method_56_code
def yJ0_charAt_5068e : MethodName := ⟨RJ0, "charAt", "(I)C"⟩
abbrev cJ0_indexOf_0f7a4 : ByteArray := prog_22_method_79_code
def yJ0_indexOf_0f7a4 : MethodName := ⟨RJ0, "indexOf", "(I)I"⟩
abbrev cJ0_indexOf_7cf53 : ByteArray := prog_22_method_80_code
def yJ0_indexOf_7cf53 : MethodName := ⟨RJ0, "indexOf", "(II)I"⟩
abbrev cJ0_coder_7d493 : ByteArray := prog_22_method_152_code
def yJ0_coder_7d493 : MethodName := ⟨RJ0, "coder", "()B"⟩
abbrev cJ0_isLatin1_aae02 : ByteArray := prog_22_method_154_code
def yJ0_isLatin1_aae02 : MethodName := ⟨RJ0, "isLatin1", "()Z"⟩
abbrev cJ0_checkIndex_df160 : ByteArray := prog_22_method_155_code
def yJ0_checkIndex_df160 : MethodName := ⟨RJ0, "checkIndex", "(II)V"⟩
abbrev cJ0_checkBoundsBeginEnd_23922 : ByteArray := prog_22_method_158_code
def yJ0_checkBoundsBeginEnd_23922 : MethodName := ⟨RJ0, "checkBoundsBeginEnd", "(III)V"⟩
def RJ1 : String := "java/lang/StringLatin1"
def TJ1 : u_T := fun k => match k with
  | _ => ("", "", "", false)
def tyJ1 : Nat → FieldType := fun k => match k with
  | _ => .int
abbrev wsJ10 : List Cond := u_ws RJ1 TJ1 0
theorem nmJ1 : ∀ a, a < 0 → ∀ b, b < 0 → a ≠ b → (TJ1 a).2.1 ≠ (TJ1 b).2.1 := by decide +kernel
theorem tyJ1_ok : ∀ k, k < 0 → parseFieldDescriptor (TJ1 k).2.2.1 = some (tyJ1 k) := by decide +kernel
abbrev cJ1_charAt_3b067 : ByteArray := prog_23_method_2_code
def yJ1_charAt_3b067 : MethodName := ⟨RJ1, "charAt", "([BI)C"⟩
abbrev cJ1_canEncode_9a6ad : ByteArray := prog_23_method_4_code
def yJ1_canEncode_9a6ad : MethodName := ⟨RJ1, "canEncode", "(I)Z"⟩
abbrev cJ1_indexOf_4cfef : ByteArray := prog_23_method_22_code
def yJ1_indexOf_4cfef : MethodName := ⟨RJ1, "indexOf", "([BIII)I"⟩
abbrev cJ1_indexOfChar_4cfef : ByteArray := prog_23_method_23_code
def yJ1_indexOfChar_4cfef : MethodName := ⟨RJ1, "indexOfChar", "([BIII)I"⟩
def RJ2 : String := "java/lang/StringUTF16"
def TJ2 : u_T := fun k => match k with
  | _ => ("", "", "", false)
def tyJ2 : Nat → FieldType := fun k => match k with
  | _ => .int
abbrev wsJ20 : List Cond := u_ws RJ2 TJ2 0
theorem nmJ2 : ∀ a, a < 0 → ∀ b, b < 0 → a ≠ b → (TJ2 a).2.1 ≠ (TJ2 b).2.1 := by decide +kernel
theorem tyJ2_ok : ∀ k, k < 0 → parseFieldDescriptor (TJ2 k).2.2.1 = some (tyJ2 k) := by decide +kernel
abbrev cJ2_getChar_3b067 : ByteArray := prog_24_method_5_code
def yJ2_getChar_3b067 : MethodName := ⟨RJ2, "getChar", "([BI)C"⟩
abbrev cJ2_length_9d52b : ByteArray := prog_24_method_6_code
def yJ2_length_9d52b : MethodName := ⟨RJ2, "length", "([B)I"⟩
abbrev cJ2_indexOf_4cfef : ByteArray := prog_24_method_40_code
def yJ2_indexOf_4cfef : MethodName := ⟨RJ2, "indexOf", "([BIII)I"⟩
abbrev cJ2_indexOfChar_4cfef : ByteArray := prog_24_method_47_code
def yJ2_indexOfChar_4cfef : MethodName := ⟨RJ2, "indexOfChar", "([BIII)I"⟩
abbrev cJ2_indexOfCharUnsafe_4cfef : ByteArray := prog_24_method_48_code
def yJ2_indexOfCharUnsafe_4cfef : MethodName := ⟨RJ2, "indexOfCharUnsafe", "([BIII)I"⟩
abbrev cJ2_indexOfSupplementary_4cfef : ByteArray := prog_24_method_49_code
def yJ2_indexOfSupplementary_4cfef : MethodName := ⟨RJ2, "indexOfSupplementary", "([BIII)I"⟩
abbrev cJ2_charAt_3b067 : ByteArray := prog_24_method_83_code
def yJ2_charAt_3b067 : MethodName := ⟨RJ2, "charAt", "([BI)C"⟩
abbrev cJ2_checkIndex_2214a : ByteArray := prog_24_method_91_code
def yJ2_checkIndex_2214a : MethodName := ⟨RJ2, "checkIndex", "(I[B)V"⟩
abbrev cJ2_checkBoundsBeginEnd_d044e : ByteArray := prog_24_method_93_code
def yJ2_checkBoundsBeginEnd_d044e : MethodName := ⟨RJ2, "checkBoundsBeginEnd", "(II[B)V"⟩
def RJ10 : String := "java/lang/System"
def TJ10 : u_T := fun k => match k with
  | _ => ("", "", "", false)
def tyJ10 : Nat → FieldType := fun k => match k with
  | _ => .int
abbrev wsJ100 : List Cond := u_ws RJ10 TJ10 0
theorem nmJ10 : ∀ a, a < 0 → ∀ b, b < 0 → a ≠ b → (TJ10 a).2.1 ≠ (TJ10 b).2.1 := by decide +kernel
theorem tyJ10_ok : ∀ k, k < 0 → parseFieldDescriptor (TJ10 k).2.2.1 = some (tyJ10 k) := by decide +kernel
def RJxa1e45 : String := "java/util/AbstractCollection"
def TJxa1e45 : u_T := fun k => match k with
  | _ => ("", "", "", false)
def tyJxa1e45 : Nat → FieldType := fun k => match k with
  | _ => .int
abbrev wsJxa1e450 : List Cond := u_ws RJxa1e45 TJxa1e45 0
theorem nmJxa1e45 : ∀ a, a < 0 → ∀ b, b < 0 → a ≠ b → (TJxa1e45 a).2.1 ≠ (TJxa1e45 b).2.1 := by decide +kernel
theorem tyJxa1e45_ok : ∀ k, k < 0 → parseFieldDescriptor (TJxa1e45 k).2.2.1 = some (tyJxa1e45 k) := by decide +kernel
abbrev cJxa1e45_init_da8c8 : ByteArray := prog_27_method_1_code
def yJxa1e45_init_da8c8 : MethodName := ⟨RJxa1e45, "<init>", "()V"⟩
def RJxc12de : String := "java/util/AbstractList"
def TJxc12de : u_T := fun k => match k with
  | _ => ("", "", "", false)
def tyJxc12de : Nat → FieldType := fun k => match k with
  | _ => .int
abbrev wsJxc12de0 : List Cond := u_ws RJxc12de TJxc12de 0
theorem nmJxc12de : ∀ a, a < 0 → ∀ b, b < 0 → a ≠ b → (TJxc12de a).2.1 ≠ (TJxc12de b).2.1 := by decide +kernel
theorem tyJxc12de_ok : ∀ k, k < 0 → parseFieldDescriptor (TJxc12de k).2.2.1 = some (tyJxc12de k) := by decide +kernel
abbrev cJxc12de_init_da8c8 : ByteArray := prog_28_method_1_code
def yJxc12de_init_da8c8 : MethodName := ⟨RJxc12de, "<init>", "()V"⟩
def RJx4a65c : String := "java/util/ArrayList"
def TJx4a65c : u_T := fun k => match k with
  | 0 => ("java/util/AbstractList", "modCount", "I", false)
  | 1 => ("java/util/ArrayList", "elementData", "[Ljava/lang/Object;", false)
  | _ => ("java/util/ArrayList", "size", "I", false)
def tyJx4a65c : Nat → FieldType := fun k => match k with
  | 0 => .int
  | 1 => .array (.object "java/lang/Object")
  | _ => .int
abbrev wsJx4a65c0 : List Cond := u_ws RJx4a65c TJx4a65c 3
theorem nmJx4a65c : ∀ a, a < 3 → ∀ b, b < 3 → a ≠ b → (TJx4a65c a).2.1 ≠ (TJx4a65c b).2.1 := by decide +kernel
theorem tyJx4a65c_ok : ∀ k, k < 3 → parseFieldDescriptor (TJx4a65c k).2.2.1 = some (tyJx4a65c k) := by decide +kernel
abbrev cJx4a65c_init_da8c8 : ByteArray := prog_29_method_2_code
def yJx4a65c_init_da8c8 : MethodName := ⟨RJx4a65c, "<init>", "()V"⟩
abbrev cJx4a65c_grow_92f84 : ByteArray := prog_29_method_6_code
def yJx4a65c_grow_92f84 : MethodName := ⟨RJx4a65c, "grow", "(I)[Ljava/lang/Object;"⟩
abbrev cJx4a65c_grow_d5877 : ByteArray := prog_29_method_7_code
def yJx4a65c_grow_d5877 : MethodName := ⟨RJx4a65c, "grow", "()[Ljava/lang/Object;"⟩
abbrev cJx4a65c_size_8abf5 : ByteArray := prog_29_method_8_code
def yJx4a65c_size_8abf5 : MethodName := ⟨RJx4a65c, "size", "()I"⟩
abbrev cJx4a65c_isEmpty_aae02 : ByteArray := prog_29_method_9_code
def yJx4a65c_isEmpty_aae02 : MethodName := ⟨RJx4a65c, "isEmpty", "()Z"⟩
abbrev cJx4a65c_elementData_915e3 : ByteArray := prog_29_method_18_code
def yJx4a65c_elementData_915e3 : MethodName := ⟨RJx4a65c, "elementData", "(I)Ljava/lang/Object;"⟩
abbrev cJx4a65c_get_915e3 : ByteArray := prog_29_method_20_code
def yJx4a65c_get_915e3 : MethodName := ⟨RJx4a65c, "get", "(I)Ljava/lang/Object;"⟩
abbrev cJx4a65c_add_72be8 : ByteArray := prog_29_method_24_code
def yJx4a65c_add_72be8 : MethodName := ⟨RJx4a65c, "add", "(Ljava/lang/Object;[Ljava/lang/Object;I)V"⟩
abbrev cJx4a65c_add_9ea2d : ByteArray := prog_29_method_25_code
def yJx4a65c_add_9ea2d : MethodName := ⟨RJx4a65c, "add", "(Ljava/lang/Object;)Z"⟩
abbrev cJx4a65c_add_7a177 : ByteArray := prog_29_method_26_code
def yJx4a65c_add_7a177 : MethodName := ⟨RJx4a65c, "add", "(ILjava/lang/Object;)V"⟩
abbrev cJx4a65c_remove_915e3 : ByteArray := prog_29_method_29_code
def yJx4a65c_remove_915e3 : MethodName := ⟨RJx4a65c, "remove", "(I)Ljava/lang/Object;"⟩
abbrev cJx4a65c_fastRemove_b59b0 : ByteArray := prog_29_method_39_code
def yJx4a65c_fastRemove_b59b0 : MethodName := ⟨RJx4a65c, "fastRemove", "([Ljava/lang/Object;I)V"⟩
abbrev cJx4a65c_clear_da8c8 : ByteArray := prog_29_method_40_code
def yJx4a65c_clear_da8c8 : MethodName := ⟨RJx4a65c, "clear", "()V"⟩
abbrev cJx4a65c_rangeCheckForAdd_d00df : ByteArray := prog_29_method_45_code
def yJx4a65c_rangeCheckForAdd_d00df : MethodName := ⟨RJx4a65c, "rangeCheckForAdd", "(I)V"⟩
def RJ7 : String := "java/util/Arrays"
def TJ7 : u_T := fun k => match k with
  | _ => ("", "", "", false)
def tyJ7 : Nat → FieldType := fun k => match k with
  | _ => .int
abbrev wsJ70 : List Cond := u_ws RJ7 TJ7 0
theorem nmJ7 : ∀ a, a < 0 → ∀ b, b < 0 → a ≠ b → (TJ7 a).2.1 ≠ (TJ7 b).2.1 := by decide +kernel
theorem tyJ7_ok : ∀ k, k < 0 → parseFieldDescriptor (TJ7 k).2.2.1 = some (tyJ7 k) := by decide +kernel
abbrev cJ7_copyOf_1904c : ByteArray := prog_30_method_119_code
def yJ7_copyOf_1904c : MethodName := ⟨RJ7, "copyOf", "([Ljava/lang/Object;I)[Ljava/lang/Object;"⟩
abbrev cJ7_copyOf_6403c : ByteArray := prog_30_method_120_code
def yJ7_copyOf_6403c : MethodName := ⟨RJ7, "copyOf", "([Ljava/lang/Object;ILjava/lang/Class;)[Ljava/lang/Object;"⟩
abbrev cJ7_copyOf_59c91 : ByteArray := prog_30_method_123_code
def yJ7_copyOf_59c91 : MethodName := ⟨RJ7, "copyOf", "([II)[I"⟩
def RJx5ef63 : String := "java/util/Collection"
def TJx5ef63 : u_T := fun k => match k with
  | _ => ("", "", "", false)
def tyJx5ef63 : Nat → FieldType := fun k => match k with
  | _ => .int
abbrev wsJx5ef630 : List Cond := u_ws RJx5ef63 TJx5ef63 0
theorem nmJx5ef63 : ∀ a, a < 0 → ∀ b, b < 0 → a ≠ b → (TJx5ef63 a).2.1 ≠ (TJx5ef63 b).2.1 := by decide +kernel
theorem tyJx5ef63_ok : ∀ k, k < 0 → parseFieldDescriptor (TJx5ef63 k).2.2.1 = some (tyJx5ef63 k) := by decide +kernel
def RJxbd725 : String := "java/util/List"
def TJxbd725 : u_T := fun k => match k with
  | _ => ("", "", "", false)
def tyJxbd725 : Nat → FieldType := fun k => match k with
  | _ => .int
abbrev wsJxbd7250 : List Cond := u_ws RJxbd725 TJxbd725 0
theorem nmJxbd725 : ∀ a, a < 0 → ∀ b, b < 0 → a ≠ b → (TJxbd725 a).2.1 ≠ (TJxbd725 b).2.1 := by decide +kernel
theorem tyJxbd725_ok : ∀ k, k < 0 → parseFieldDescriptor (TJxbd725 k).2.2.1 = some (tyJxbd725 k) := by decide +kernel
def RJ15 : String := "java/util/Objects"
def TJ15 : u_T := fun k => match k with
  | _ => ("", "", "", false)
def tyJ15 : Nat → FieldType := fun k => match k with
  | _ => .int
abbrev wsJ150 : List Cond := u_ws RJ15 TJ15 0
theorem nmJ15 : ∀ a, a < 0 → ∀ b, b < 0 → a ≠ b → (TJ15 a).2.1 ≠ (TJ15 b).2.1 := by decide +kernel
theorem tyJ15_ok : ∀ k, k < 0 → parseFieldDescriptor (TJ15 k).2.2.1 = some (tyJ15 k) := by decide +kernel
abbrev cJ15_checkIndex_7cf53 : ByteArray := prog_34_method_17_code
def yJ15_checkIndex_7cf53 : MethodName := ⟨RJ15, "checkIndex", "(II)I"⟩
def RJxf0a74 : String := "java/util/RandomAccess"
def TJxf0a74 : u_T := fun k => match k with
  | _ => ("", "", "", false)
def tyJxf0a74 : Nat → FieldType := fun k => match k with
  | _ => .int
abbrev wsJxf0a740 : List Cond := u_ws RJxf0a74 TJxf0a74 0
theorem nmJxf0a74 : ∀ a, a < 0 → ∀ b, b < 0 → a ≠ b → (TJxf0a74 a).2.1 ≠ (TJxf0a74 b).2.1 := by decide +kernel
theorem tyJxf0a74_ok : ∀ k, k < 0 → parseFieldDescriptor (TJxf0a74 k).2.2.1 = some (tyJxf0a74 k) := by decide +kernel
def RJxa66e6 : String := "java/util/SequencedCollection"
def TJxa66e6 : u_T := fun k => match k with
  | _ => ("", "", "", false)
def tyJxa66e6 : Nat → FieldType := fun k => match k with
  | _ => .int
abbrev wsJxa66e60 : List Cond := u_ws RJxa66e6 TJxa66e6 0
theorem nmJxa66e6 : ∀ a, a < 0 → ∀ b, b < 0 → a ≠ b → (TJxa66e6 a).2.1 ≠ (TJxa66e6 b).2.1 := by decide +kernel
theorem tyJxa66e6_ok : ∀ k, k < 0 → parseFieldDescriptor (TJxa66e6 k).2.2.1 = some (tyJxa66e6 k) := by decide +kernel
def RJ8 : String := "jdk/internal/util/ArraysSupport"
def TJ8 : u_T := fun k => match k with
  | _ => ("", "", "", false)
def tyJ8 : Nat → FieldType := fun k => match k with
  | _ => .int
abbrev wsJ80 : List Cond := u_ws RJ8 TJ8 0
theorem nmJ8 : ∀ a, a < 0 → ∀ b, b < 0 → a ≠ b → (TJ8 a).2.1 ≠ (TJ8 b).2.1 := by decide +kernel
theorem tyJ8_ok : ∀ k, k < 0 → parseFieldDescriptor (TJ8 k).2.2.1 = some (tyJ8 k) := by decide +kernel
abbrev cJ8_newLength_cabcc : ByteArray := prog_37_method_27_code
def yJ8_newLength_cabcc : MethodName := ⟨RJ8, "newLength", "(III)I"⟩
abbrev cJ8_hugeLength_7cf53 : ByteArray := prog_37_method_28_code
def yJ8_hugeLength_7cf53 : MethodName := ⟨RJ8, "hugeLength", "(II)I"⟩
def RJ3 : String := "jdk/internal/util/Preconditions"
def TJ3 : u_T := fun k => match k with
  | _ => ("", "", "", false)
def tyJ3 : Nat → FieldType := fun k => match k with
  | _ => .int
abbrev wsJ30 : List Cond := u_ws RJ3 TJ3 0
theorem nmJ3 : ∀ a, a < 0 → ∀ b, b < 0 → a ≠ b → (TJ3 a).2.1 ≠ (TJ3 b).2.1 := by decide +kernel
theorem tyJ3_ok : ∀ k, k < 0 → parseFieldDescriptor (TJ3 k).2.2.1 = some (tyJ3 k) := by decide +kernel
abbrev cJ3_checkIndex_8e157 : ByteArray := prog_38_method_11_code
def yJ3_checkIndex_8e157 : MethodName := ⟨RJ3, "checkIndex", "(IILjava/util/function/BiFunction;)I"⟩
abbrev cJ3_checkFromToIndex_8c36e : ByteArray := prog_38_method_12_code
def yJ3_checkFromToIndex_8c36e : MethodName := ⟨RJ3, "checkFromToIndex", "(IIILjava/util/function/BiFunction;)I"⟩
def RL : String := "GrainPitLaw"
abbrev cL_rule : ByteArray := method_3_code
def yL_rule : MethodName := ⟨RL, "rule", "(LGrainPit;IIIIIII[J)I"⟩
abbrev cL_pay : ByteArray := method_4_code
def yL_pay : MethodName := ⟨RL, "pay", "(LGrainPit;II[J)I"⟩
abbrev cL_money : ByteArray := method_5_code
def yL_money : MethodName := ⟨RL, "money", "(LGrainPit;II[J)I"⟩
abbrev cL_position : ByteArray := method_6_code
def yL_position : MethodName := ⟨RL, "position", "(LGrainPit;II[J)I"⟩
abbrev cL_equity : ByteArray := method_7_code
def yL_equity : MethodName := ⟨RL, "equity", "(LGrainPit;III[J)I"⟩
abbrev cL_law : ByteArray := code
def yL_law : MethodName := ⟨RL, "law", "([I)Z"⟩
end
section
abbrev Tb : Type := List (Nat × Instr × Nat)
/-- a method's instructions, each as the bytes decode -/
def Tab (c : ByteArray) (L : Tb) : Bool := L.all fun q => decide (decode c q.1 = .ok (q.2.1, q.2.2))
theorem dd {c : ByteArray} {L : Tb} (h : Tab c L = true) (k : Nat) {pc n : Nat} {i : Instr} (e : L[k]? = some (pc, i, n)) : decode c pc = .ok (i, n) := by
  have h1 := List.all_eq_true.mp h _ (List.mem_of_getElem? e)
  exact of_decide_eq_true h1
def tX0_init_0 : Tb := [(0, .aload_n 0, 1), (1, .invokespecial 3, 3), (4, .aload_n 0, 1), (5, .bipush 6, 2), (7, .anewarray 9, 3), (10, .putfield 11, 3), (13, .aload_n 0, 1), (14, .iload_n 1, 1), (15, .bipush 6, 2), (17, .imul, 1), (18, .newarray .int, 2), (20, .putfield 17, 3), (23, .aload_n 0, 1), (24, .iload_n 1, 1), (25, .newarray .long, 2), (27, .putfield 21, 3), (30, .return_, 1)]
theorem TX0_init_0 : Tab cX0_init tX0_init_0 = true := by decide +kernel
def tX1_init_0 : Tb := [(0, .aload_n 0, 1), (1, .invokespecial 3, 3), (4, .aload_n 0, 1), (5, .bipush 6, 2), (7, .newarray .int, 2), (9, .putfield 9, 3), (12, .return_, 1)]
theorem TX1_init_0 : Tab cX1_init tX1_init_0 = true := by decide +kernel
def tX1_gain_0 : Tb := [(0, .aload_n 0, 1), (1, .getfield 9, 3), (4, .iload_n 1, 1), (5, .dup2, 1), (6, .iaload, 1), (7, .iload_n 2, 1), (8, .iadd, 1), (9, .iastore, 1), (10, .aload_n 0, 1), (11, .dup, 1), (12, .getfield 15, 3), (15, .iload_n 2, 1), (16, .i2l, 1), (17, .iload_n 3, 1), (18, .i2l, 1), (19, .lmul, 1), (20, .ladd, 1), (21, .putfield 15, 3), (24, .return_, 1)]
theorem TX1_gain_0 : Tab cX1_gain tX1_gain_0 = true := by decide +kernel
def tX2_init_0 : Tb := [(0, .aload_n 0, 1), (1, .invokespecial 3, 3), (4, .aload_n 0, 1), (5, .new 9, 3), (8, .dup, 1), (9, .invokespecial 11, 3), (12, .putfield 12, 3), (15, .aload_n 0, 1), (16, .new 9, 3), (19, .dup, 1), (20, .invokespecial 11, 3), (23, .putfield 18, 3), (26, .aload_n 0, 1), (27, .new 9, 3), (30, .dup, 1), (31, .invokespecial 11, 3), (34, .putfield 21, 3), (37, .return_, 1)]
theorem TX2_init_0 : Tab cX2_init tX2_init_0 = true := by decide +kernel
def tX2_side_0 : Tb := [(0, .iload_n 1, 1), (1, .ifCond .eq 10, 3), (4, .aload_n 0, 1), (5, .getfield 12, 3), (8, .goto 7, 3), (11, .aload_n 0, 1), (12, .getfield 18, 3), (15, .areturn, 1)]
theorem TX2_side_0 : Tab cX2_side tX2_side_0 = true := by decide +kernel
def tX2_queue_0 : Tb := [(0, .aload_n 0, 1), (1, .iload_n 1, 1), (2, .invokevirtual 24, 3), (5, .astore_n 3, 1), (6, .iconst 0, 1), (7, .istore 4, 2), (9, .iload 4, 2), (11, .aload_n 3, 1), (12, .invokevirtual 28, 3), (15, .if_icmp .ge 32, 3), (18, .iload_n 1, 1), (19, .aload_n 2, 1), (20, .getfield 32, 3), (23, .aload_n 3, 1), (24, .iload 4, 2), (26, .invokevirtual 38, 3), (29, .checkcast 33, 3), (32, .getfield 32, 3), (35, .invokestatic 42, 3), (38, .ifCond .ne 9, 3), (41, .iinc 4 1, 3), (44, .goto (-35), 3), (47, .aload_n 3, 1), (48, .iload 4, 2), (50, .aload_n 2, 1), (51, .invokevirtual 46, 3), (54, .return_, 1)]
theorem TX2_queue_0 : Tab cX2_queue tX2_queue_0 = true := by decide +kernel
def tX2_isBetter_0 : Tb := [(0, .iload_n 0, 1), (1, .ifCond .eq 16, 3), (4, .iload_n 1, 1), (5, .iload_n 2, 1), (6, .if_icmp .le 7, 3), (9, .iconst 1, 1), (10, .goto 17, 3), (13, .iconst 0, 1), (14, .goto 13, 3), (17, .iload_n 1, 1), (18, .iload_n 2, 1), (19, .if_icmp .ge 7, 3), (22, .iconst 1, 1), (23, .goto 4, 3), (26, .iconst 0, 1), (27, .ireturn, 1)]
theorem TX2_isBetter_0 : Tab cX2_isBetter tX2_isBetter_0 = true := by decide +kernel
def tX2_lotsWaiting_0 : Tb := [(0, .aload_n 0, 1), (1, .iload_n 1, 1), (2, .invokevirtual 24, 3), (5, .astore_n 3, 1), (6, .iconst 0, 1), (7, .istore 4, 2), (9, .iconst 0, 1), (10, .istore 5, 2), (12, .iload 5, 2), (14, .aload_n 3, 1), (15, .invokevirtual 28, 3), (18, .if_icmp .ge 46, 3), (21, .iload 4, 2), (23, .aload_n 3, 1), (24, .iload 5, 2), (26, .invokevirtual 38, 3), (29, .checkcast 33, 3), (32, .getfield 50, 3), (35, .iload_n 2, 1), (36, .if_icmp .ne 18, 3), (39, .aload_n 3, 1), (40, .iload 5, 2), (42, .invokevirtual 38, 3), (45, .checkcast 33, 3), (48, .getfield 53, 3), (51, .goto 4, 3), (54, .iconst 0, 1), (55, .iadd, 1), (56, .istore 4, 2), (58, .iinc 5 1, 3), (61, .goto (-49), 3), (64, .iload 4, 2), (66, .ireturn, 1)]
theorem TX2_lotsWaiting_0 : Tab cX2_lotsWaiting tX2_lotsWaiting_0 = true := by decide +kernel
def tX2_dropAll_0 : Tb := [(0, .aload_n 0, 1), (1, .getfield 12, 3), (4, .invokevirtual 56, 3), (7, .aload_n 0, 1), (8, .getfield 18, 3), (11, .invokevirtual 56, 3), (14, .return_, 1)]
theorem TX2_dropAll_0 : Tab cX2_dropAll tX2_dropAll_0 = true := by decide +kernel
def tX2_dropLatest_0 : Tb := [(0, .aload_n 0, 1), (1, .getfield 12, 3), (4, .iload_n 1, 1), (5, .invokestatic 59, 3), (8, .istore_n 2, 1), (9, .aload_n 0, 1), (10, .getfield 18, 3), (13, .iload_n 1, 1), (14, .invokestatic 59, 3), (17, .istore_n 3, 1), (18, .aload_n 0, 1), (19, .getfield 12, 3), (22, .iload_n 2, 1), (23, .invokestatic 63, 3), (26, .aload_n 0, 1), (27, .getfield 18, 3), (30, .iload_n 3, 1), (31, .invokestatic 63, 3), (34, .if_icmp .le 7, 3), (37, .iconst 1, 1), (38, .goto 4, 3), (41, .iconst 0, 1), (42, .istore 4, 2), (44, .iload 4, 2), (46, .ifCond .eq 10, 3), (49, .aload_n 0, 1), (50, .getfield 12, 3), (53, .goto 7, 3), (56, .aload_n 0, 1), (57, .getfield 18, 3), (60, .astore 5, 2), (62, .iload 4, 2), (64, .ifCond .eq 7, 3), (67, .iload_n 2, 1), (68, .goto 4, 3), (71, .iload_n 3, 1), (72, .istore 6, 2), (74, .iload 6, 2), (76, .ifCond .lt 13, 3), (79, .iload 6, 2)]
theorem TX2_dropLatest_0 : Tab cX2_dropLatest tX2_dropLatest_0 = true := by decide +kernel
def tX2_dropLatest_1 : Tb := [(81, .aload 5, 2), (83, .invokevirtual 28, 3), (86, .if_icmp .lt 5, 3), (89, .iconst (-1), 1), (90, .ireturn, 1), (91, .aload 5, 2), (93, .iload 6, 2), (95, .invokevirtual 38, 3), (98, .checkcast 33, 3), (101, .getfield 53, 3), (104, .istore 7, 2), (106, .aload 5, 2), (108, .iload 6, 2), (110, .invokevirtual 66, 3), (113, .pop, 1), (114, .iload 7, 2), (116, .ireturn, 1)]
theorem TX2_dropLatest_1 : Tab cX2_dropLatest tX2_dropLatest_1 = true := by decide +kernel
def tX2_numberAt_0 : Tb := [(0, .iload_n 1, 1), (1, .ifCond .lt 25, 3), (4, .iload_n 1, 1), (5, .aload_n 0, 1), (6, .invokevirtual 28, 3), (9, .if_icmp .ge 17, 3), (12, .aload_n 0, 1), (13, .iload_n 1, 1), (14, .invokevirtual 38, 3), (17, .checkcast 33, 3), (20, .getfield 69, 3), (23, .goto 4, 3), (26, .iconst (-1), 1), (27, .ireturn, 1)]
theorem TX2_numberAt_0 : Tab cX2_numberAt tX2_numberAt_0 = true := by decide +kernel
def tX2_latestOf_0 : Tb := [(0, .iconst (-1), 1), (1, .istore_n 2, 1), (2, .iconst 0, 1), (3, .istore_n 3, 1), (4, .iload_n 3, 1), (5, .aload_n 0, 1), (6, .invokevirtual 28, 3), (9, .if_icmp .ge 45, 3), (12, .aload_n 0, 1), (13, .iload_n 3, 1), (14, .invokevirtual 38, 3), (17, .checkcast 33, 3), (20, .getfield 50, 3), (23, .iload_n 1, 1), (24, .if_icmp .ne 24, 3), (27, .aload_n 0, 1), (28, .iload_n 3, 1), (29, .invokevirtual 38, 3), (32, .checkcast 33, 3), (35, .getfield 69, 3), (38, .aload_n 0, 1), (39, .iload_n 2, 1), (40, .invokestatic 63, 3), (43, .if_icmp .le 5, 3), (46, .iload_n 3, 1), (47, .istore_n 2, 1), (48, .iinc 3 1, 3), (51, .goto (-47), 3), (54, .iload_n 2, 1), (55, .ireturn, 1)]
theorem TX2_latestOf_0 : Tab cX2_latestOf tX2_latestOf_0 = true := by decide +kernel
def tX2_takeLongs_0 : Tb := [(0, .iload_n 2, 1), (1, .istore_n 3, 1), (2, .iconst 0, 1), (3, .istore 4, 2), (5, .aload_n 0, 1), (6, .getfield 21, 3), (9, .invokevirtual 28, 3), (12, .istore 5, 2), (14, .iconst 0, 1), (15, .istore 6, 2), (17, .iload 6, 2), (19, .iload 5, 2), (21, .if_icmp .ge 92, 3), (24, .iload_n 3, 1), (25, .ifCond .le 88, 3), (28, .aload_n 0, 1), (29, .getfield 21, 3), (32, .iload 4, 2), (34, .invokevirtual 38, 3), (37, .checkcast 33, 3), (40, .astore 7, 2), (42, .aload 7, 2), (44, .getfield 50, 3), (47, .iload_n 1, 1), (48, .if_icmp .ne 15, 3), (51, .iload_n 3, 1), (52, .aload 7, 2), (54, .getfield 53, 3), (57, .invokestatic 72, 3), (60, .goto 4, 3), (63, .iconst 0, 1), (64, .istore 8, 2), (66, .iload_n 3, 1), (67, .iload 8, 2), (69, .isub, 1), (70, .istore_n 3, 1), (71, .aload 7, 2), (73, .dup, 1), (74, .getfield 53, 3), (77, .iload 8, 2)]
theorem TX2_takeLongs_0 : Tab cX2_takeLongs tX2_takeLongs_0 = true := by decide +kernel
def tX2_takeLongs_1 : Tb := [(79, .isub, 1), (80, .putfield 53, 3), (83, .aload 7, 2), (85, .getfield 53, 3), (88, .ifCond .ne 16, 3), (91, .aload_n 0, 1), (92, .getfield 21, 3), (95, .iload 4, 2), (97, .invokevirtual 66, 3), (100, .pop, 1), (101, .goto 6, 3), (104, .iinc 4 1, 3), (107, .iinc 6 1, 3), (110, .goto (-93), 3), (113, .return_, 1)]
theorem TX2_takeLongs_1 : Tab cX2_takeLongs tX2_takeLongs_1 = true := by decide +kernel
def tX2_firstLongOf_0 : Tb := [(0, .iconst 0, 1), (1, .istore_n 2, 1), (2, .iload_n 2, 1), (3, .aload_n 0, 1), (4, .getfield 21, 3), (7, .invokevirtual 28, 3), (10, .if_icmp .ge 29, 3), (13, .aload_n 0, 1), (14, .getfield 21, 3), (17, .iload_n 2, 1), (18, .invokevirtual 38, 3), (21, .checkcast 33, 3), (24, .getfield 50, 3), (27, .iload_n 1, 1), (28, .if_icmp .ne 5, 3), (31, .iload_n 2, 1), (32, .ireturn, 1), (33, .iinc 2 1, 3), (36, .goto (-34), 3), (39, .iconst (-1), 1), (40, .ireturn, 1)]
theorem TX2_firstLongOf_0 : Tab cX2_firstLongOf tX2_firstLongOf_0 = true := by decide +kernel
def tX3_init_0 : Tb := [(0, .aload_n 0, 1), (1, .invokespecial 3, 3), (4, .aload_n 0, 1), (5, .iconst 1, 1), (6, .putfield 9, 3), (9, .aload_n 0, 1), (10, .iload_n 1, 1), (11, .putfield 15, 3), (14, .aload_n 0, 1), (15, .iload_n 2, 1), (16, .putfield 18, 3), (19, .aload_n 0, 1), (20, .iload_n 3, 1), (21, .putfield 21, 3), (24, .aload_n 0, 1), (25, .iload 4, 2), (27, .putfield 24, 3), (30, .aload_n 0, 1), (31, .iconst 1, 1), (32, .iload 4, 2), (34, .ishl, 1), (35, .putfield 27, 3), (38, .return_, 1)]
theorem TX3_init_0 : Tab cX3_init tX3_init_0 = true := by decide +kernel
def tX3_wasWith_0 : Tb := [(0, .aload_n 0, 1), (1, .getfield 27, 3), (4, .iload_n 1, 1), (5, .ishr, 1), (6, .iconst 1, 1), (7, .iand, 1), (8, .iconst 1, 1), (9, .if_icmp .ne 7, 3), (12, .iconst 1, 1), (13, .goto 4, 3), (16, .iconst 0, 1), (17, .ireturn, 1)]
theorem TX3_wasWith_0 : Tab cX3_wasWith tX3_wasWith_0 = true := by decide +kernel
def tX3_handTo_0 : Tb := [(0, .aload_n 0, 1), (1, .iload_n 1, 1), (2, .putfield 24, 3), (5, .aload_n 0, 1), (6, .dup, 1), (7, .getfield 27, 3), (10, .iconst 1, 1), (11, .iload_n 1, 1), (12, .ishl, 1), (13, .ior, 1), (14, .putfield 27, 3), (17, .aload_n 0, 1), (18, .dup, 1), (19, .getfield 30, 3), (22, .iconst 1, 1), (23, .iadd, 1), (24, .putfield 30, 3), (27, .return_, 1)]
theorem TX3_handTo_0 : Tab cX3_handTo tX3_handTo_0 = true := by decide +kernel
def tX4_init_0 : Tb := [(0, .aload_n 0, 1), (1, .invokespecial 3, 3), (4, .aload_n 0, 1), (5, .sipush 600, 3), (8, .newarray .char, 2), (10, .putfield 11, 3), (13, .aload_n 0, 1), (14, .bipush 60, 2), (16, .newarray .int, 2), (18, .putfield 15, 3), (21, .return_, 1)]
theorem TX4_init_0 : Tab cX4_init tX4_init_0 = true := by decide +kernel
def tX4_hasRoomForFive_0 : Tb := [(0, .aload_n 0, 1), (1, .getfield 19, 3), (4, .bipush 20, 2), (6, .iadd, 1), (7, .sipush 600, 3), (10, .if_icmp .gt 7, 3), (13, .iconst 1, 1), (14, .goto 4, 3), (17, .iconst 0, 1), (18, .ireturn, 1)]
theorem TX4_hasRoomForFive_0 : Tab cX4_hasRoomForFive tX4_hasRoomForFive_0 = true := by decide +kernel
def tX4_append_0 : Tb := [(0, .bipush 24, 2), (2, .istore_n 2, 1), (3, .iload_n 2, 1), (4, .ifCond .lt 46, 3), (7, .aload_n 0, 1), (8, .getfield 19, 3), (11, .sipush 600, 3), (14, .if_icmp .ge 36, 3), (17, .aload_n 0, 1), (18, .getfield 11, 3), (21, .aload_n 0, 1), (22, .getfield 19, 3), (25, .iload_n 1, 1), (26, .iload_n 2, 1), (27, .ishr, 1), (28, .sipush 255, 3), (31, .iand, 1), (32, .i2c, 1), (33, .castore, 1), (34, .aload_n 0, 1), (35, .dup, 1), (36, .getfield 19, 3), (39, .iconst 1, 1), (40, .iadd, 1), (41, .putfield 19, 3), (44, .iinc 2 (-8), 3), (47, .goto (-44), 3), (50, .return_, 1)]
theorem TX4_append_0 : Tab cX4_append tX4_append_0 = true := by decide +kernel
def tX4_readText_0 : Tb := [(0, .aload_n 1, 1), (1, .invokevirtual 23, 3), (4, .istore_n 2, 1), (5, .aload_n 0, 1), (6, .iconst 0, 1), (7, .putfield 29, 3), (10, .aload_n 0, 1), (11, .iconst 0, 1), (12, .putfield 32, 3), (15, .aload_n 0, 1), (16, .iconst 0, 1), (17, .putfield 35, 3), (20, .aload_n 0, 1), (21, .bipush 17, 2), (23, .putfield 38, 3), (26, .aload_n 0, 1), (27, .invokevirtual 41, 3), (30, .iconst 0, 1), (31, .istore_n 3, 1), (32, .iload_n 3, 1), (33, .sipush 600, 3), (36, .if_icmp .ge 32, 3), (39, .aload_n 0, 1), (40, .getfield 38, 3), (43, .bipush 17, 2), (45, .if_icmp .eq 23, 3), (48, .aload_n 0, 1), (49, .getfield 38, 3), (52, .bipush 18, 2), (54, .if_icmp .eq 14, 3), (57, .aload_n 0, 1), (58, .aload_n 1, 1), (59, .invokevirtual 44, 3), (62, .iinc 3 1, 3), (65, .goto (-33), 3), (68, .aload_n 0, 1), (69, .iconst 0, 1), (70, .putfield 19, 3), (73, .aload_n 0, 1), (74, .getfield 29, 3)]
theorem TX4_readText_0 : Tab cX4_readText tX4_readText_0 = true := by decide +kernel
def tX4_readText_1 : Tb := [(77, .ifCond .ne 10, 3), (80, .aload_n 1, 1), (81, .invokevirtual 23, 3), (84, .iload_n 2, 1), (85, .isub, 1), (86, .ireturn, 1), (87, .aload_n 1, 1), (88, .invokevirtual 23, 3), (91, .iconst 1, 1), (92, .isub, 1), (93, .istore_n 3, 1), (94, .iload_n 3, 1), (95, .iload_n 2, 1), (96, .if_icmp .lt 15, 3), (99, .aload_n 1, 1), (100, .iload_n 3, 1), (101, .invokevirtual 48, 3), (104, .pop, 1), (105, .iinc 3 (-1), 3), (108, .goto (-14), 3), (111, .iconst (-1), 1), (112, .ireturn, 1)]
theorem TX4_readText_1 : Tab cX4_readText tX4_readText_1 = true := by decide +kernel
def tX4_readRule_0 : Tb := [(0, .aload_n 0, 1), (1, .getfield 38, 3), (4, .istore_n 2, 1), (5, .aload_n 0, 1), (6, .iload_n 2, 1), (7, .bipush 6, 2), (9, .if_icmp .lt 7, 3), (12, .iconst 1, 1), (13, .goto 4, 3), (16, .iconst 0, 1), (17, .iconst 2, 1), (18, .invokevirtual 52, 3), (21, .aload_n 0, 1), (22, .aload_n 1, 1), (23, .invokevirtual 23, 3), (26, .bipush 30, 2), (28, .if_icmp .lt 7, 3), (31, .iconst 1, 1), (32, .goto 4, 3), (35, .iconst 0, 1), (36, .iconst 4, 1), (37, .invokevirtual 52, 3), (40, .aload_n 0, 1), (41, .invokevirtual 41, 3), (44, .aload_n 0, 1), (45, .bipush 12, 2), (47, .invokevirtual 56, 3), (50, .aload_n 0, 1), (51, .getfield 60, 3), (54, .istore_n 3, 1), (55, .aload_n 0, 1), (56, .aload_n 0, 1), (57, .getfield 38, 3), (60, .bipush 16, 2), (62, .if_icmp .ne 10, 3), (65, .iload_n 3, 1), (66, .sipush 150, 3), (69, .if_icmp .le 7, 3), (72, .iconst 1, 1), (73, .goto 4, 3)]
theorem TX4_readRule_0 : Tab cX4_readRule tX4_readRule_0 = true := by decide +kernel
def tX4_readRule_1 : Tb := [(76, .iconst 0, 1), (77, .iconst 2, 1), (78, .invokevirtual 52, 3), (81, .aload_n 0, 1), (82, .invokevirtual 41, 3), (85, .aload_n 0, 1), (86, .bipush 13, 2), (88, .invokevirtual 56, 3), (91, .aload_n 0, 1), (92, .iconst 0, 1), (93, .putfield 63, 3), (96, .aload_n 0, 1), (97, .iconst 0, 1), (98, .putfield 66, 3), (101, .aload_n 0, 1), (102, .iconst 0, 1), (103, .invokevirtual 69, 3), (106, .aload_n 0, 1), (107, .bipush 59, 2), (109, .invokevirtual 56, 3), (112, .aload_n 0, 1), (113, .getfield 38, 3), (116, .bipush 18, 2), (118, .if_icmp .eq 28, 3), (121, .aload_n 1, 1), (122, .new 72, 3), (125, .dup, 1), (126, .iload_n 2, 1), (127, .iload_n 3, 1), (128, .aload_n 0, 1), (129, .getfield 15, 3), (132, .aload_n 0, 1), (133, .getfield 66, 3), (136, .invokestatic 74, 3), (139, .invokespecial 80, 3), (142, .invokevirtual 83, 3), (145, .pop, 1), (146, .return_, 1)]
theorem TX4_readRule_1 : Tab cX4_readRule tX4_readRule_1 = true := by decide +kernel
def tX4_readExpr_0 : Tb := [(0, .aload_n 0, 1), (1, .iload_n 1, 1), (2, .invokevirtual 87, 3), (5, .aload_n 0, 1), (6, .getfield 38, 3), (9, .bipush 63, 2), (11, .if_icmp .ne 66, 3), (14, .aload_n 0, 1), (15, .iload_n 1, 1), (16, .bipush 12, 2), (18, .if_icmp .lt 7, 3), (21, .iconst 1, 1), (22, .goto 4, 3), (25, .iconst 0, 1), (26, .iconst 3, 1), (27, .invokevirtual 52, 3), (30, .aload_n 0, 1), (31, .invokevirtual 90, 3), (34, .aload_n 0, 1), (35, .iload_n 1, 1), (36, .iconst 1, 1), (37, .iadd, 1), (38, .invokevirtual 69, 3), (41, .aload_n 0, 1), (42, .aload_n 0, 1), (43, .getfield 38, 3), (46, .bipush 58, 2), (48, .if_icmp .eq 7, 3), (51, .iconst 1, 1), (52, .goto 4, 3), (55, .iconst 0, 1), (56, .iconst 2, 1), (57, .invokevirtual 52, 3), (60, .aload_n 0, 1), (61, .invokevirtual 90, 3), (64, .aload_n 0, 1), (65, .iload_n 1, 1), (66, .iconst 1, 1), (67, .iadd, 1), (68, .invokevirtual 69, 3)]
theorem TX4_readExpr_0 : Tab cX4_readExpr tX4_readExpr_0 = true := by decide +kernel
def tX4_readExpr_1 : Tb := [(71, .aload_n 0, 1), (72, .bipush (-8), 2), (74, .invokevirtual 95, 3), (77, .return_, 1)]
theorem TX4_readExpr_1 : Tab cX4_readExpr tX4_readExpr_1 = true := by decide +kernel
def tX4_readCond_0 : Tb := [(0, .aload_n 0, 1), (1, .iload_n 1, 1), (2, .invokevirtual 98, 3), (5, .aload_n 0, 1), (6, .getfield 38, 3), (9, .bipush 60, 2), (11, .if_icmp .eq 21, 3), (14, .aload_n 0, 1), (15, .getfield 38, 3), (18, .bipush 62, 2), (20, .if_icmp .eq 12, 3), (23, .aload_n 0, 1), (24, .getfield 38, 3), (27, .bipush 61, 2), (29, .if_icmp .ne 23, 3), (32, .aload_n 0, 1), (33, .getfield 38, 3), (36, .istore_n 2, 1), (37, .aload_n 0, 1), (38, .invokevirtual 90, 3), (41, .aload_n 0, 1), (42, .iload_n 1, 1), (43, .invokevirtual 98, 3), (46, .aload_n 0, 1), (47, .iload_n 2, 1), (48, .ineg, 1), (49, .invokevirtual 95, 3), (52, .return_, 1)]
theorem TX4_readCond_0 : Tab cX4_readCond tX4_readCond_0 = true := by decide +kernel
def tX4_readSum_0 : Tb := [(0, .aload_n 0, 1), (1, .iload_n 1, 1), (2, .invokevirtual 101, 3), (5, .iconst 0, 1), (6, .istore_n 2, 1), (7, .iload_n 2, 1), (8, .bipush 60, 2), (10, .if_icmp .ge 47, 3), (13, .aload_n 0, 1), (14, .getfield 38, 3), (17, .bipush 43, 2), (19, .if_icmp .eq 12, 3), (22, .aload_n 0, 1), (23, .getfield 38, 3), (26, .bipush 45, 2), (28, .if_icmp .ne 29, 3), (31, .aload_n 0, 1), (32, .getfield 38, 3), (35, .istore_n 3, 1), (36, .aload_n 0, 1), (37, .invokevirtual 90, 3), (40, .aload_n 0, 1), (41, .iload_n 1, 1), (42, .invokevirtual 101, 3), (45, .aload_n 0, 1), (46, .iload_n 3, 1), (47, .ineg, 1), (48, .invokevirtual 95, 3), (51, .iinc 2 1, 3), (54, .goto (-47), 3), (57, .return_, 1)]
theorem TX4_readSum_0 : Tab cX4_readSum tX4_readSum_0 = true := by decide +kernel
def tX4_readPart_0 : Tb := [(0, .aload_n 0, 1), (1, .iload_n 1, 1), (2, .invokevirtual 104, 3), (5, .iconst 0, 1), (6, .istore_n 2, 1), (7, .iload_n 2, 1), (8, .bipush 60, 2), (10, .if_icmp .ge 47, 3), (13, .aload_n 0, 1), (14, .getfield 38, 3), (17, .bipush 42, 2), (19, .if_icmp .eq 12, 3), (22, .aload_n 0, 1), (23, .getfield 38, 3), (26, .bipush 47, 2), (28, .if_icmp .ne 29, 3), (31, .aload_n 0, 1), (32, .getfield 38, 3), (35, .istore_n 3, 1), (36, .aload_n 0, 1), (37, .invokevirtual 90, 3), (40, .aload_n 0, 1), (41, .iload_n 1, 1), (42, .invokevirtual 104, 3), (45, .aload_n 0, 1), (46, .iload_n 3, 1), (47, .ineg, 1), (48, .invokevirtual 95, 3), (51, .iinc 2 1, 3), (54, .goto (-47), 3), (57, .return_, 1)]
theorem TX4_readPart_0 : Tab cX4_readPart tX4_readPart_0 = true := by decide +kernel
def tX4_readFactor_0 : Tb := [(0, .aload_n 0, 1), (1, .getfield 38, 3), (4, .bipush 16, 2), (6, .if_icmp .ne 18, 3), (9, .aload_n 0, 1), (10, .aload_n 0, 1), (11, .getfield 60, 3), (14, .invokevirtual 95, 3), (17, .aload_n 0, 1), (18, .invokevirtual 90, 3), (21, .goto 171, 3), (24, .aload_n 0, 1), (25, .getfield 38, 3), (28, .bipush 6, 2), (30, .if_icmp .lt 32, 3), (33, .aload_n 0, 1), (34, .getfield 38, 3), (37, .bipush 12, 2), (39, .if_icmp .ge 23, 3), (42, .aload_n 0, 1), (43, .iconst (-1), 1), (44, .aload_n 0, 1), (45, .getfield 38, 3), (48, .bipush 6, 2), (50, .isub, 1), (51, .isub, 1), (52, .invokevirtual 95, 3), (55, .aload_n 0, 1), (56, .invokevirtual 90, 3), (59, .goto 133, 3), (62, .aload_n 0, 1), (63, .getfield 38, 3), (66, .bipush 45, 2), (68, .if_icmp .ne 39, 3), (71, .aload_n 0, 1), (72, .iload_n 1, 1), (73, .bipush 12, 2), (75, .if_icmp .lt 7, 3), (78, .iconst 1, 1), (79, .goto 4, 3)]
theorem TX4_readFactor_0 : Tab cX4_readFactor tX4_readFactor_0 = true := by decide +kernel
def tX4_readFactor_1 : Tb := [(82, .iconst 0, 1), (83, .iconst 3, 1), (84, .invokevirtual 52, 3), (87, .aload_n 0, 1), (88, .invokevirtual 90, 3), (91, .aload_n 0, 1), (92, .iload_n 1, 1), (93, .iconst 1, 1), (94, .iadd, 1), (95, .invokevirtual 104, 3), (98, .aload_n 0, 1), (99, .bipush (-7), 2), (101, .invokevirtual 95, 3), (104, .goto 88, 3), (107, .aload_n 0, 1), (108, .getfield 38, 3), (111, .bipush 40, 2), (113, .if_icmp .ne 12, 3), (116, .aload_n 0, 1), (117, .iload_n 1, 1), (118, .iconst 0, 1), (119, .invokevirtual 107, 3), (122, .goto 70, 3), (125, .aload_n 0, 1), (126, .getfield 38, 3), (129, .bipush 14, 2), (131, .if_icmp .eq 12, 3), (134, .aload_n 0, 1), (135, .getfield 38, 3), (138, .bipush 15, 2), (140, .if_icmp .ne 46, 3), (143, .aload_n 0, 1), (144, .getfield 38, 3), (147, .istore_n 2, 1), (148, .aload_n 0, 1), (149, .invokevirtual 90, 3), (152, .aload_n 0, 1), (153, .aload_n 0, 1), (154, .getfield 38, 3), (157, .bipush 40, 2)]
theorem TX4_readFactor_1 : Tab cX4_readFactor tX4_readFactor_1 = true := by decide +kernel
def tX4_readFactor_2 : Tb := [(159, .if_icmp .eq 7, 3), (162, .iconst 1, 1), (163, .goto 4, 3), (166, .iconst 0, 1), (167, .iconst 2, 1), (168, .invokevirtual 52, 3), (171, .aload_n 0, 1), (172, .iload_n 1, 1), (173, .iconst 1, 1), (174, .invokevirtual 107, 3), (177, .aload_n 0, 1), (178, .iload_n 2, 1), (179, .ineg, 1), (180, .invokevirtual 95, 3), (183, .goto 9, 3), (186, .aload_n 0, 1), (187, .iconst 1, 1), (188, .iconst 2, 1), (189, .invokevirtual 52, 3), (192, .return_, 1)]
theorem TX4_readFactor_2 : Tab cX4_readFactor tX4_readFactor_2 = true := by decide +kernel
def tX4_readBracket_0 : Tb := [(0, .aload_n 0, 1), (1, .iload_n 1, 1), (2, .bipush 12, 2), (4, .if_icmp .lt 7, 3), (7, .iconst 1, 1), (8, .goto 4, 3), (11, .iconst 0, 1), (12, .iconst 3, 1), (13, .invokevirtual 52, 3), (16, .aload_n 0, 1), (17, .invokevirtual 90, 3), (20, .aload_n 0, 1), (21, .iload_n 1, 1), (22, .iconst 1, 1), (23, .iadd, 1), (24, .invokevirtual 69, 3), (27, .iload_n 2, 1), (28, .ifCond .eq 33, 3), (31, .aload_n 0, 1), (32, .aload_n 0, 1), (33, .getfield 38, 3), (36, .bipush 44, 2), (38, .if_icmp .eq 7, 3), (41, .iconst 1, 1), (42, .goto 4, 3), (45, .iconst 0, 1), (46, .iconst 2, 1), (47, .invokevirtual 52, 3), (50, .aload_n 0, 1), (51, .invokevirtual 90, 3), (54, .aload_n 0, 1), (55, .iload_n 1, 1), (56, .iconst 1, 1), (57, .iadd, 1), (58, .invokevirtual 69, 3), (61, .aload_n 0, 1), (62, .aload_n 0, 1), (63, .getfield 38, 3), (66, .bipush 41, 2), (68, .if_icmp .eq 7, 3)]
theorem TX4_readBracket_0 : Tab cX4_readBracket tX4_readBracket_0 = true := by decide +kernel
def tX4_readBracket_1 : Tb := [(71, .iconst 1, 1), (72, .goto 4, 3), (75, .iconst 0, 1), (76, .iconst 2, 1), (77, .invokevirtual 52, 3), (80, .aload_n 0, 1), (81, .invokevirtual 90, 3), (84, .return_, 1)]
theorem TX4_readBracket_1 : Tab cX4_readBracket tX4_readBracket_1 = true := by decide +kernel
def tX4_emit_0 : Tb := [(0, .aload_n 0, 1), (1, .getfield 66, 3), (4, .aload_n 0, 1), (5, .getfield 15, 3), (8, .arraylength, 1), (9, .if_icmp .ge 23, 3), (12, .aload_n 0, 1), (13, .getfield 15, 3), (16, .aload_n 0, 1), (17, .getfield 66, 3), (20, .iload_n 1, 1), (21, .iastore, 1), (22, .aload_n 0, 1), (23, .dup, 1), (24, .getfield 66, 3), (27, .iconst 1, 1), (28, .iadd, 1), (29, .putfield 66, 3), (32, .return_, 1)]
theorem TX4_emit_0 : Tab cX4_emit tX4_emit_0 = true := by decide +kernel
def tX4_readOnly_0 : Tb := [(0, .aload_n 0, 1), (1, .aload_n 0, 1), (2, .getfield 38, 3), (5, .iload_n 1, 1), (6, .if_icmp .eq 7, 3), (9, .iconst 1, 1), (10, .goto 4, 3), (13, .iconst 0, 1), (14, .iconst 2, 1), (15, .invokevirtual 52, 3), (18, .aload_n 0, 1), (19, .invokevirtual 41, 3), (22, .return_, 1)]
theorem TX4_readOnly_0 : Tab cX4_readOnly tX4_readOnly_0 = true := by decide +kernel
def tX4_take_0 : Tb := [(0, .aload_n 0, 1), (1, .aload_n 0, 1), (2, .getfield 63, 3), (5, .bipush 60, 2), (7, .if_icmp .lt 7, 3), (10, .iconst 1, 1), (11, .goto 4, 3), (14, .iconst 0, 1), (15, .iconst 4, 1), (16, .invokevirtual 52, 3), (19, .aload_n 0, 1), (20, .dup, 1), (21, .getfield 63, 3), (24, .iconst 1, 1), (25, .iadd, 1), (26, .putfield 63, 3), (29, .aload_n 0, 1), (30, .invokevirtual 41, 3), (33, .return_, 1)]
theorem TX4_take_0 : Tab cX4_take tX4_take_0 = true := by decide +kernel
def tX4_refuseIf_0 : Tb := [(0, .iload_n 1, 1), (1, .ifCond .eq 31, 3), (4, .aload_n 0, 1), (5, .getfield 38, 3), (8, .bipush 18, 2), (10, .if_icmp .eq 22, 3), (13, .aload_n 0, 1), (14, .iload_n 2, 1), (15, .putfield 29, 3), (18, .aload_n 0, 1), (19, .aload_n 0, 1), (20, .getfield 111, 3), (23, .putfield 32, 3), (26, .aload_n 0, 1), (27, .bipush 18, 2), (29, .putfield 38, 3), (32, .return_, 1)]
theorem TX4_refuseIf_0 : Tab cX4_refuseIf tX4_refuseIf_0 = true := by decide +kernel
def tX4_advance_0 : Tb := [(0, .aload_n 0, 1), (1, .getfield 38, 3), (4, .bipush 18, 2), (6, .if_icmp .ne 4, 3), (9, .return_, 1), (10, .aload_n 0, 1), (11, .getfield 35, 3), (14, .aload_n 0, 1), (15, .getfield 19, 3), (18, .if_icmp .ge 44, 3), (21, .aload_n 0, 1), (22, .getfield 11, 3), (25, .aload_n 0, 1), (26, .getfield 35, 3), (29, .caload, 1), (30, .bipush 32, 2), (32, .if_icmp .eq 17, 3), (35, .aload_n 0, 1), (36, .getfield 11, 3), (39, .aload_n 0, 1), (40, .getfield 35, 3), (43, .caload, 1), (44, .bipush 10, 2), (46, .if_icmp .ne 16, 3), (49, .aload_n 0, 1), (50, .dup, 1), (51, .getfield 35, 3), (54, .iconst 1, 1), (55, .iadd, 1), (56, .putfield 35, 3), (59, .goto (-49), 3), (62, .aload_n 0, 1), (63, .aload_n 0, 1), (64, .getfield 35, 3), (67, .putfield 111, 3), (70, .aload_n 0, 1), (71, .getfield 35, 3), (74, .aload_n 0, 1), (75, .getfield 19, 3), (78, .if_icmp .lt 12, 3)]
theorem TX4_advance_0 : Tab cX4_advance tX4_advance_0 = true := by decide +kernel
def tX4_advance_1 : Tb := [(81, .aload_n 0, 1), (82, .bipush 17, 2), (84, .putfield 38, 3), (87, .goto 165, 3), (90, .aload_n 0, 1), (91, .getfield 11, 3), (94, .aload_n 0, 1), (95, .getfield 35, 3), (98, .caload, 1), (99, .invokestatic 114, 3), (102, .ifCond .eq 79, 3), (105, .aload_n 0, 1), (106, .getfield 35, 3), (109, .aload_n 0, 1), (110, .getfield 19, 3), (113, .if_icmp .ge 31, 3), (116, .aload_n 0, 1), (117, .getfield 11, 3), (120, .aload_n 0, 1), (121, .getfield 35, 3), (124, .caload, 1), (125, .invokestatic 114, 3), (128, .ifCond .eq 16, 3), (131, .aload_n 0, 1), (132, .dup, 1), (133, .getfield 35, 3), (136, .iconst 1, 1), (137, .iadd, 1), (138, .putfield 35, 3), (141, .goto (-36), 3), (144, .aload_n 0, 1), (145, .aload_n 0, 1), (146, .aload_n 0, 1), (147, .getfield 111, 3), (150, .aload_n 0, 1), (151, .getfield 35, 3), (154, .invokevirtual 118, 3), (157, .putfield 38, 3), (160, .aload_n 0, 1), (161, .aload_n 0, 1)]
theorem TX4_advance_1 : Tab cX4_advance tX4_advance_1 = true := by decide +kernel
def tX4_advance_2 : Tb := [(162, .getfield 38, 3), (165, .iconst (-1), 1), (166, .if_icmp .ne 7, 3), (169, .iconst 1, 1), (170, .goto 4, 3), (173, .iconst 0, 1), (174, .iconst 1, 1), (175, .invokevirtual 52, 3), (178, .goto 74, 3), (181, .aload_n 0, 1), (182, .getfield 11, 3), (185, .aload_n 0, 1), (186, .getfield 35, 3), (189, .caload, 1), (190, .invokestatic 122, 3), (193, .ifCond .eq 10, 3), (196, .aload_n 0, 1), (197, .invokevirtual 125, 3), (200, .goto 52, 3), (203, .ldc 128, 2), (205, .aload_n 0, 1), (206, .getfield 11, 3), (209, .aload_n 0, 1), (210, .getfield 35, 3), (213, .caload, 1), (214, .invokevirtual 130, 3), (217, .ifCond .lt 29, 3), (220, .aload_n 0, 1), (221, .aload_n 0, 1), (222, .getfield 11, 3), (225, .aload_n 0, 1), (226, .getfield 35, 3), (229, .caload, 1), (230, .putfield 38, 3), (233, .aload_n 0, 1), (234, .dup, 1), (235, .getfield 35, 3), (238, .iconst 1, 1), (239, .iadd, 1), (240, .putfield 35, 3)]
theorem TX4_advance_2 : Tab cX4_advance tX4_advance_2 = true := by decide +kernel
def tX4_advance_3 : Tb := [(243, .goto 9, 3), (246, .aload_n 0, 1), (247, .iconst 1, 1), (248, .iconst 1, 1), (249, .invokevirtual 52, 3), (252, .return_, 1)]
theorem TX4_advance_3 : Tab cX4_advance tX4_advance_3 = true := by decide +kernel
def tX4_readNumber_0 : Tb := [(0, .aload_n 0, 1), (1, .iconst 0, 1), (2, .putfield 60, 3), (5, .aload_n 0, 1), (6, .getfield 35, 3), (9, .aload_n 0, 1), (10, .getfield 19, 3), (13, .if_icmp .ge 60, 3), (16, .aload_n 0, 1), (17, .getfield 11, 3), (20, .aload_n 0, 1), (21, .getfield 35, 3), (24, .caload, 1), (25, .invokestatic 122, 3), (28, .ifCond .eq 45, 3), (31, .aload_n 0, 1), (32, .aload_n 0, 1), (33, .getfield 60, 3), (36, .bipush 10, 2), (38, .imul, 1), (39, .aload_n 0, 1), (40, .getfield 11, 3), (43, .aload_n 0, 1), (44, .getfield 35, 3), (47, .caload, 1), (48, .iadd, 1), (49, .bipush 48, 2), (51, .isub, 1), (52, .ldc 136, 2), (54, .invokestatic 137, 3), (57, .putfield 60, 3), (60, .aload_n 0, 1), (61, .dup, 1), (62, .getfield 35, 3), (65, .iconst 1, 1), (66, .iadd, 1), (67, .putfield 35, 3), (70, .goto (-65), 3), (73, .aload_n 0, 1), (74, .bipush 16, 2)]
theorem TX4_readNumber_0 : Tab cX4_readNumber tX4_readNumber_0 = true := by decide +kernel
def tX4_readNumber_1 : Tb := [(76, .putfield 38, 3), (79, .aload_n 0, 1), (80, .aload_n 0, 1), (81, .getfield 60, 3), (84, .ldc 142, 2), (86, .if_icmp .le 7, 3), (89, .iconst 1, 1), (90, .goto 4, 3), (93, .iconst 0, 1), (94, .iconst 1, 1), (95, .invokevirtual 52, 3), (98, .return_, 1)]
theorem TX4_readNumber_1 : Tab cX4_readNumber tX4_readNumber_1 = true := by decide +kernel
def tX4_wordFrom_0 : Tb := [(0, .iconst 0, 1), (1, .istore_n 3, 1), (2, .iload_n 1, 1), (3, .istore 4, 2), (5, .iconst 0, 1), (6, .istore 5, 2), (8, .iload 5, 2), (10, .ldc 143, 2), (12, .invokevirtual 145, 3), (15, .if_icmp .ge 75, 3), (18, .ldc 143, 2), (20, .iload 5, 2), (22, .invokevirtual 147, 3), (25, .istore 6, 2), (27, .iload 6, 2), (29, .bipush 32, 2), (31, .if_icmp .ne 20, 3), (34, .iload 4, 2), (36, .iload_n 2, 1), (37, .if_icmp .ne 5, 3), (40, .iload_n 3, 1), (41, .ireturn, 1), (42, .iinc 3 1, 3), (45, .iload_n 1, 1), (46, .istore 4, 2), (48, .goto 36, 3), (51, .iload 4, 2), (53, .iload_n 1, 1), (54, .if_icmp .lt 27, 3), (57, .iload 4, 2), (59, .iload_n 2, 1), (60, .if_icmp .ge 21, 3), (63, .aload_n 0, 1), (64, .getfield 11, 3), (67, .iload 4, 2), (69, .caload, 1), (70, .iload 6, 2), (72, .if_icmp .ne 9, 3), (75, .iinc 4 1, 3), (78, .goto 6, 3)]
theorem TX4_wordFrom_0 : Tab cX4_wordFrom tX4_wordFrom_0 = true := by decide +kernel
def tX4_wordFrom_1 : Tb := [(81, .iconst (-1), 1), (82, .istore 4, 2), (84, .iinc 5 1, 3), (87, .goto (-79), 3), (90, .iconst (-1), 1), (91, .ireturn, 1)]
theorem TX4_wordFrom_1 : Tab cX4_wordFrom tX4_wordFrom_1 = true := by decide +kernel
def tX4_isLetter_0 : Tb := [(0, .iload_n 0, 1), (1, .bipush 97, 2), (3, .if_icmp .lt 13, 3), (6, .iload_n 0, 1), (7, .bipush 122, 2), (9, .if_icmp .gt 7, 3), (12, .iconst 1, 1), (13, .goto 4, 3), (16, .iconst 0, 1), (17, .ireturn, 1)]
theorem TX4_isLetter_0 : Tab cX4_isLetter tX4_isLetter_0 = true := by decide +kernel
def tX4_isDigit_0 : Tb := [(0, .iload_n 0, 1), (1, .bipush 48, 2), (3, .if_icmp .lt 13, 3), (6, .iload_n 0, 1), (7, .bipush 57, 2), (9, .if_icmp .gt 7, 3), (12, .iconst 1, 1), (13, .goto 4, 3), (16, .iconst 0, 1), (17, .ireturn, 1)]
theorem TX4_isDigit_0 : Tab cX4_isDigit tX4_isDigit_0 = true := by decide +kernel
def tX5_init_0 : Tb := [(0, .aload_n 0, 1), (1, .invokespecial 1, 3), (4, .aload_n 0, 1), (5, .iconst 1, 1), (6, .putfield 7, 3), (9, .aload_n 0, 1), (10, .iload_n 1, 1), (11, .putfield 13, 3), (14, .aload_n 0, 1), (15, .iload_n 2, 1), (16, .putfield 17, 3), (19, .aload_n 0, 1), (20, .iload_n 3, 1), (21, .putfield 20, 3), (24, .return_, 1)]
theorem TX5_init_0 : Tab cX5_init tX5_init_0 = true := by decide +kernel
def tX6_init_0 : Tb := [(0, .aload_n 0, 1), (1, .invokespecial 1, 3), (4, .aload_n 0, 1), (5, .iload_n 1, 1), (6, .putfield 7, 3), (9, .aload_n 0, 1), (10, .iload_n 2, 1), (11, .putfield 13, 3), (14, .aload_n 0, 1), (15, .aload_n 3, 1), (16, .putfield 16, 3), (19, .return_, 1)]
theorem TX6_init_0 : Tab cX6_init tX6_init_0 = true := by decide +kernel
def tX7_init_0 : Tb := [(0, .aload_n 0, 1), (1, .invokespecial 3, 3), (4, .aload_n 0, 1), (5, .new 9, 3), (8, .dup, 1), (9, .invokespecial 11, 3), (12, .putfield 12, 3), (15, .aload_n 0, 1), (16, .bipush 6, 2), (18, .newarray .int, 2), (20, .putfield 18, 3), (23, .aload_n 0, 1), (24, .bipush 60, 2), (26, .newarray .int, 2), (28, .putfield 24, 3), (31, .return_, 1)]
theorem TX7_init_0 : Tab cX7_init tX7_init_0 = true := by decide +kernel
def tX7_valueOf_0 : Tb := [(0, .aload_n 0, 1), (1, .iload_n 1, 1), (2, .iload_n 2, 1), (3, .invokevirtual 27, 3), (6, .astore 8, 2), (8, .aload 8, 2), (10, .ifnonnull 20, 3), (13, .iload_n 1, 1), (14, .ifCond .eq 8, 3), (17, .iload_n 1, 1), (18, .iconst 3, 1), (19, .if_icmp .ne 9, 3), (22, .sipush 1000, 3), (25, .goto 4, 3), (28, .iconst 0, 1), (29, .ireturn, 1), (30, .aload_n 0, 1), (31, .getfield 18, 3), (34, .iconst 0, 1), (35, .iload_n 2, 1), (36, .iastore, 1), (37, .aload_n 0, 1), (38, .getfield 18, 3), (41, .iconst 1, 1), (42, .iload_n 3, 1), (43, .iastore, 1), (44, .aload_n 0, 1), (45, .getfield 18, 3), (48, .iconst 2, 1), (49, .iload 4, 2), (51, .iastore, 1), (52, .aload_n 0, 1), (53, .getfield 18, 3), (56, .iconst 3, 1), (57, .iload 5, 2), (59, .iastore, 1), (60, .aload_n 0, 1), (61, .getfield 18, 3), (64, .iconst 4, 1), (65, .iload 6, 2)]
theorem TX7_valueOf_0 : Tab cX7_valueOf tX7_valueOf_0 = true := by decide +kernel
def tX7_valueOf_1 : Tb := [(67, .iastore, 1), (68, .aload_n 0, 1), (69, .getfield 18, 3), (72, .iconst 5, 1), (73, .iload 7, 2), (75, .iastore, 1), (76, .aload_n 0, 1), (77, .aload 8, 2), (79, .getfield 31, 3), (82, .invokevirtual 36, 3), (85, .ireturn, 1)]
theorem TX7_valueOf_1 : Tab cX7_valueOf tX7_valueOf_1 = true := by decide +kernel
def tX7_inForce_0 : Tb := [(0, .aconst_null, 1), (1, .astore_n 3, 1), (2, .iconst 0, 1), (3, .istore 4, 2), (5, .iload 4, 2), (7, .aload_n 0, 1), (8, .getfield 12, 3), (11, .invokevirtual 40, 3), (14, .if_icmp .ge 72, 3), (17, .aload_n 0, 1), (18, .getfield 12, 3), (21, .iload 4, 2), (23, .invokevirtual 44, 3), (26, .checkcast 32, 3), (29, .astore 5, 2), (31, .aload 5, 2), (33, .getfield 48, 3), (36, .iload_n 1, 1), (37, .if_icmp .ne 16, 3), (40, .aload 5, 2), (42, .getfield 52, 3), (45, .iload_n 2, 1), (46, .if_icmp .gt 7, 3), (49, .iconst 1, 1), (50, .goto 4, 3), (53, .iconst 0, 1), (54, .istore 6, 2), (56, .iload 6, 2), (58, .ifCond .eq 22, 3), (61, .aload_n 3, 1), (62, .ifnull 15, 3), (65, .aload 5, 2), (67, .getfield 52, 3), (70, .aload_n 3, 1), (71, .getfield 52, 3), (74, .if_icmp .lt 6, 3), (77, .aload 5, 2), (79, .astore_n 3, 1), (80, .iinc 4 1, 3), (83, .goto (-78), 3)]
theorem TX7_inForce_0 : Tab cX7_inForce tX7_inForce_0 = true := by decide +kernel
def tX7_inForce_1 : Tb := [(86, .aload_n 3, 1), (87, .areturn, 1)]
theorem TX7_inForce_1 : Tab cX7_inForce tX7_inForce_1 = true := by decide +kernel
def tX7_work_0 : Tb := [(0, .aload_n 0, 1), (1, .iconst 0, 1), (2, .putfield 55, 3), (5, .iconst 0, 1), (6, .istore_n 2, 1), (7, .iload_n 2, 1), (8, .aload_n 1, 1), (9, .arraylength, 1), (10, .if_icmp .ge 51, 3), (13, .aload_n 1, 1), (14, .iload_n 2, 1), (15, .iaload, 1), (16, .istore_n 3, 1), (17, .iload_n 3, 1), (18, .ifCond .lt 11, 3), (21, .aload_n 0, 1), (22, .iload_n 3, 1), (23, .invokevirtual 58, 3), (26, .goto 29, 3), (29, .iload_n 3, 1), (30, .bipush (-6), 2), (32, .if_icmp .lt 18, 3), (35, .aload_n 0, 1), (36, .aload_n 0, 1), (37, .getfield 18, 3), (40, .iconst (-1), 1), (41, .iload_n 3, 1), (42, .isub, 1), (43, .iaload, 1), (44, .invokevirtual 58, 3), (47, .goto 8, 3), (50, .aload_n 0, 1), (51, .iload_n 3, 1), (52, .invokevirtual 62, 3), (55, .iinc 2 1, 3), (58, .goto (-51), 3), (61, .aload_n 0, 1), (62, .invokevirtual 65, 3), (65, .ireturn, 1)]
theorem TX7_work_0 : Tab cX7_work tX7_work_0 = true := by decide +kernel
def tX7_apply_0 : Tb := [(0, .aload_n 0, 1), (1, .invokevirtual 65, 3), (4, .istore_n 2, 1), (5, .iload_n 1, 1), (6, .bipush (-7), 2), (8, .if_icmp .ne 10, 3), (11, .aload_n 0, 1), (12, .iload_n 2, 1), (13, .ineg, 1), (14, .invokevirtual 58, 3), (17, .return_, 1), (18, .aload_n 0, 1), (19, .invokevirtual 65, 3), (22, .istore_n 3, 1), (23, .iload_n 1, 1), (24, .bipush (-8), 2), (26, .if_icmp .ne 22, 3), (29, .aload_n 0, 1), (30, .aload_n 0, 1), (31, .invokevirtual 65, 3), (34, .ifCond .eq 7, 3), (37, .iload_n 3, 1), (38, .goto 4, 3), (41, .iload_n 2, 1), (42, .invokevirtual 58, 3), (45, .goto 14, 3), (48, .aload_n 0, 1), (49, .iload_n 1, 1), (50, .ineg, 1), (51, .iload_n 3, 1), (52, .iload_n 2, 1), (53, .invokestatic 68, 3), (56, .invokevirtual 58, 3), (59, .return_, 1)]
theorem TX7_apply_0 : Tab cX7_apply tX7_apply_0 = true := by decide +kernel
def tX7_combine_0 : Tb := [(0, .iload_n 0, 1), (1, .lookupswitch 138 #[(14, 132), (42, 83), (43, 75), (45, 79), (47, 87), (60, 99), (61, 121), (62, 110)], 75), (76, .iload_n 1, 1), (77, .iload_n 2, 1), (78, .iadd, 1), (79, .ireturn, 1), (80, .iload_n 1, 1), (81, .iload_n 2, 1), (82, .isub, 1), (83, .ireturn, 1), (84, .iload_n 1, 1), (85, .iload_n 2, 1), (86, .imul, 1), (87, .ireturn, 1), (88, .iload_n 2, 1), (89, .ifCond .ne 7, 3), (92, .iconst 0, 1), (93, .goto 6, 3), (96, .iload_n 1, 1), (97, .iload_n 2, 1), (98, .idiv, 1), (99, .ireturn, 1), (100, .iload_n 1, 1), (101, .iload_n 2, 1), (102, .if_icmp .ge 7, 3), (105, .iconst 1, 1), (106, .goto 4, 3), (109, .iconst 0, 1), (110, .ireturn, 1), (111, .iload_n 1, 1), (112, .iload_n 2, 1), (113, .if_icmp .le 7, 3), (116, .iconst 1, 1), (117, .goto 4, 3), (120, .iconst 0, 1), (121, .ireturn, 1), (122, .iload_n 1, 1), (123, .iload_n 2, 1), (124, .if_icmp .ne 7, 3), (127, .iconst 1, 1)]
theorem TX7_combine_0 : Tab cX7_combine tX7_combine_0 = true := by decide +kernel
def tX7_combine_1 : Tb := [(128, .goto 4, 3), (131, .iconst 0, 1), (132, .ireturn, 1), (133, .iload_n 1, 1), (134, .iload_n 2, 1), (135, .invokestatic 72, 3), (138, .ireturn, 1), (139, .iload_n 1, 1), (140, .iload_n 2, 1), (141, .invokestatic 78, 3), (144, .ireturn, 1)]
theorem TX7_combine_1 : Tab cX7_combine tX7_combine_1 = true := by decide +kernel
def tX7_push_0 : Tb := [(0, .aload_n 0, 1), (1, .getfield 55, 3), (4, .aload_n 0, 1), (5, .getfield 24, 3), (8, .arraylength, 1), (9, .if_icmp .ge 23, 3), (12, .aload_n 0, 1), (13, .getfield 24, 3), (16, .aload_n 0, 1), (17, .getfield 55, 3), (20, .iload_n 1, 1), (21, .iastore, 1), (22, .aload_n 0, 1), (23, .dup, 1), (24, .getfield 55, 3), (27, .iconst 1, 1), (28, .iadd, 1), (29, .putfield 55, 3), (32, .return_, 1)]
theorem TX7_push_0 : Tab cX7_push tX7_push_0 = true := by decide +kernel
def tX7_pop_0 : Tb := [(0, .aload_n 0, 1), (1, .getfield 55, 3), (4, .ifCond .ne 5, 3), (7, .iconst 0, 1), (8, .ireturn, 1), (9, .aload_n 0, 1), (10, .dup, 1), (11, .getfield 55, 3), (14, .iconst 1, 1), (15, .isub, 1), (16, .putfield 55, 3), (19, .aload_n 0, 1), (20, .getfield 24, 3), (23, .aload_n 0, 1), (24, .getfield 55, 3), (27, .iaload, 1), (28, .ireturn, 1)]
theorem TX7_pop_0 : Tab cX7_pop tX7_pop_0 = true := by decide +kernel
def tX8_init_0 : Tb := [(0, .aload_n 0, 1), (1, .invokespecial 1, 3), (4, .aload_n 0, 1), (5, .iload_n 1, 1), (6, .putfield 7, 3), (9, .aload_n 0, 1), (10, .iload_n 2, 1), (11, .putfield 13, 3), (14, .aload_n 0, 1), (15, .aload_n 3, 1), (16, .putfield 16, 3), (19, .return_, 1)]
theorem TX8_init_0 : Tab cX8_init tX8_init_0 = true := by decide +kernel
def tX9_init_0 : Tb := [(0, .aload_n 0, 1), (1, .invokespecial 1, 3), (4, .aload_n 0, 1), (5, .iload_n 1, 1), (6, .putfield 7, 3), (9, .aload_n 0, 1), (10, .iload_n 2, 1), (11, .putfield 13, 3), (14, .aload_n 0, 1), (15, .iload_n 3, 1), (16, .putfield 16, 3), (19, .aload_n 0, 1), (20, .iload 4, 2), (22, .putfield 19, 3), (25, .return_, 1)]
theorem TX9_init_0 : Tab cX9_init tX9_init_0 = true := by decide +kernel
def tX10_init_0 : Tb := [(0, .aload_n 0, 1), (1, .invokespecial 1, 3), (4, .aload_n 0, 1), (5, .iload_n 1, 1), (6, .putfield 7, 3), (9, .aload_n 0, 1), (10, .iload_n 2, 1), (11, .putfield 13, 3), (14, .aload_n 0, 1), (15, .iload_n 3, 1), (16, .putfield 16, 3), (19, .aload_n 0, 1), (20, .iload 4, 2), (22, .putfield 19, 3), (25, .aload_n 0, 1), (26, .iload 5, 2), (28, .putfield 22, 3), (31, .aload_n 0, 1), (32, .iload 6, 2), (34, .putfield 25, 3), (37, .return_, 1)]
theorem TX10_init_0 : Tab cX10_init tX10_init_0 = true := by decide +kernel
def tX11_init_0 : Tb := [(0, .aload_n 0, 1), (1, .invokespecial 1, 3), (4, .aload_n 0, 1), (5, .new 7, 3), (8, .dup, 1), (9, .invokespecial 9, 3), (12, .putfield 10, 3), (15, .aload_n 0, 1), (16, .new 16, 3), (19, .dup, 1), (20, .invokespecial 18, 3), (23, .putfield 19, 3), (26, .aload_n 0, 1), (27, .bipush 6, 2), (29, .anewarray 23, 3), (32, .putfield 25, 3), (35, .iconst 0, 1), (36, .istore_n 1, 1), (37, .iload_n 1, 1), (38, .bipush 6, 2), (40, .if_icmp .ge 22, 3), (43, .aload_n 0, 1), (44, .getfield 25, 3), (47, .iload_n 1, 1), (48, .new 23, 3), (51, .dup, 1), (52, .invokespecial 29, 3), (55, .aastore, 1), (56, .iinc 1 1, 3), (59, .goto (-22), 3), (62, .aload_n 0, 1), (63, .new 30, 3), (66, .dup, 1), (67, .invokespecial 32, 3), (70, .putfield 33, 3), (73, .aload_n 0, 1), (74, .new 30, 3), (77, .dup, 1), (78, .invokespecial 32, 3), (81, .putfield 37, 3)]
theorem TX11_init_0 : Tab cX11_init tX11_init_0 = true := by decide +kernel
def tX11_init_1 : Tb := [(84, .aload_n 0, 1), (85, .new 30, 3), (88, .dup, 1), (89, .invokespecial 32, 3), (92, .putfield 40, 3), (95, .aload_n 0, 1), (96, .new 30, 3), (99, .dup, 1), (100, .invokespecial 32, 3), (103, .putfield 43, 3), (106, .aload_n 0, 1), (107, .new 30, 3), (110, .dup, 1), (111, .invokespecial 32, 3), (114, .putfield 46, 3), (117, .return_, 1)]
theorem TX11_init_1 : Tab cX11_init tX11_init_1 = true := by decide +kernel
def tX11_feed_0 : Tb := [(0, .aload_n 0, 1), (1, .getfield 10, 3), (4, .invokevirtual 49, 3), (7, .ifCond .ne 5, 3), (10, .iconst (-1), 1), (11, .ireturn, 1), (12, .aload_n 0, 1), (13, .getfield 10, 3), (16, .iload_n 1, 1), (17, .invokevirtual 53, 3), (20, .aload_n 0, 1), (21, .getfield 10, 3), (24, .iload_n 2, 1), (25, .invokevirtual 53, 3), (28, .aload_n 0, 1), (29, .getfield 10, 3), (32, .iload_n 3, 1), (33, .invokevirtual 53, 3), (36, .aload_n 0, 1), (37, .getfield 10, 3), (40, .iload 4, 2), (42, .invokevirtual 53, 3), (45, .aload_n 0, 1), (46, .getfield 10, 3), (49, .iload 5, 2), (51, .invokevirtual 53, 3), (54, .aload_n 0, 1), (55, .getfield 10, 3), (58, .getfield 57, 3), (61, .ireturn, 1)]
theorem TX11_feed_0 : Tab cX11_feed tX11_feed_0 = true := by decide +kernel
def tX11_end_0 : Tb := [(0, .iload_n 1, 1), (1, .ifCond .lt 14, 3), (4, .iload_n 1, 1), (5, .aload_n 0, 1), (6, .getfield 10, 3), (9, .getfield 57, 3), (12, .if_icmp .le 5, 3), (15, .iconst 0, 1), (16, .ireturn, 1), (17, .aload_n 0, 1), (18, .getfield 10, 3), (21, .iload_n 1, 1), (22, .putfield 57, 3), (25, .iconst 1, 1), (26, .ireturn, 1)]
theorem TX11_end_0 : Tab cX11_end tX11_end_0 = true := by decide +kernel
def tX11_rules_0 : Tb := [(0, .aload_n 0, 1), (1, .getfield 10, 3), (4, .aload_n 0, 1), (5, .getfield 19, 3), (8, .getfield 61, 3), (11, .invokevirtual 64, 3), (14, .ireturn, 1)]
theorem TX11_rules_0 : Tab cX11_rules tX11_rules_0 = true := by decide +kernel
def tX11_fault_0 : Tb := [(0, .iload_n 1, 1), (1, .lookupswitch 43 #[(0, 27), (1, 35)], 27), (28, .aload_n 0, 1), (29, .getfield 10, 3), (32, .getfield 68, 3), (35, .ireturn, 1), (36, .aload_n 0, 1), (37, .getfield 10, 3), (40, .getfield 71, 3), (43, .ireturn, 1), (44, .iconst (-1), 1), (45, .ireturn, 1)]
theorem TX11_fault_0 : Tab cX11_fault tX11_fault_0 = true := by decide +kernel
def tX11_rule_0 : Tb := [(0, .iload_n 1, 1), (1, .ifCond .lt 19, 3), (4, .iload_n 1, 1), (5, .iconst 5, 1), (6, .if_icmp .gt 14, 3), (9, .iload_n 2, 1), (10, .ifCond .lt 10, 3), (13, .iload_n 2, 1), (14, .sipush 150, 3), (17, .if_icmp .le 13, 3), (20, .new 74, 3), (23, .dup, 1), (24, .ldc 76, 2), (26, .invokespecial 78, 3), (29, .athrow, 1), (30, .aload_n 0, 1), (31, .getfield 19, 3), (34, .iload_n 1, 1), (35, .iload_n 2, 1), (36, .iload_n 3, 1), (37, .iload 4, 2), (39, .iload 5, 2), (41, .iload 6, 2), (43, .iload 7, 2), (45, .invokevirtual 81, 3), (48, .ireturn, 1)]
theorem TX11_rule_0 : Tab cX11_rule tX11_rule_0 = true := by decide +kernel
def tX11_member_0 : Tb := [(0, .aload_n 0, 1), (1, .getfield 33, 3), (4, .invokevirtual 85, 3), (7, .bipush 12, 2), (9, .if_icmp .lt 5, 3), (12, .iconst (-1), 1), (13, .ireturn, 1), (14, .aload_n 0, 1), (15, .getfield 33, 3), (18, .new 89, 3), (21, .dup, 1), (22, .invokespecial 91, 3), (25, .invokevirtual 92, 3), (28, .pop, 1), (29, .aload_n 0, 1), (30, .getfield 33, 3), (33, .invokevirtual 85, 3), (36, .iconst 1, 1), (37, .isub, 1), (38, .ireturn, 1)]
theorem TX11_member_0 : Tab cX11_member tX11_member_0 = true := by decide +kernel
def tX11_pay_0 : Tb := [(0, .aload_n 0, 1), (1, .iload_n 1, 1), (2, .invokevirtual 96, 3), (5, .astore_n 3, 1), (6, .aload_n 3, 1), (7, .ifnull 15, 3), (10, .iload_n 2, 1), (11, .ldc 100, 2), (13, .if_icmp .lt 9, 3), (16, .iload_n 2, 1), (17, .ldc 101, 2), (19, .if_icmp .le 13, 3), (22, .new 74, 3), (25, .dup, 1), (26, .ldc 102, 2), (28, .invokespecial 78, 3), (31, .athrow, 1), (32, .aload_n 3, 1), (33, .dup, 1), (34, .getfield 104, 3), (37, .iload_n 2, 1), (38, .i2l, 1), (39, .ladd, 1), (40, .putfield 104, 3), (43, .aload_n 3, 1), (44, .getfield 104, 3), (47, .lreturn, 1)]
theorem TX11_pay_0 : Tab cX11_pay tX11_pay_0 = true := by decide +kernel
def tX11_order_0 : Tb := [(0, .aload_n 0, 1), (1, .iload_n 1, 1), (2, .iload_n 2, 1), (3, .iload_n 3, 1), (4, .iload 4, 2), (6, .iload 5, 2), (8, .invokevirtual 108, 3), (11, .istore 6, 2), (13, .iload 6, 2), (15, .ifCond .eq 8, 3), (18, .iconst (-1), 1), (19, .iload 6, 2), (21, .isub, 1), (22, .ireturn, 1), (23, .aload_n 0, 1), (24, .iload_n 1, 1), (25, .iload_n 2, 1), (26, .iload_n 3, 1), (27, .iload 4, 2), (29, .iload 5, 2), (31, .invokevirtual 112, 3), (34, .istore 7, 2), (36, .iload 7, 2), (38, .ifCond .le 52, 3), (41, .aload_n 0, 1), (42, .getfield 37, 3), (45, .invokevirtual 85, 3), (48, .sipush 700, 3), (51, .if_icmp .ge 39, 3), (54, .aload_n 0, 1), (55, .getfield 25, 3), (58, .iload_n 3, 1), (59, .aaload, 1), (60, .iload_n 2, 1), (61, .new 115, 3), (64, .dup, 1), (65, .iload_n 1, 1), (66, .iload 7, 2), (68, .iload 4, 2), (70, .aload_n 0, 1)]
theorem TX11_order_0 : Tab cX11_order tX11_order_0 = true := by decide +kernel
def tX11_order_1 : Tb := [(71, .getfield 117, 3), (74, .invokespecial 120, 3), (77, .invokevirtual 123, 3), (80, .aload_n 0, 1), (81, .dup, 1), (82, .getfield 117, 3), (85, .iconst 1, 1), (86, .iadd, 1), (87, .putfield 117, 3), (90, .iload 5, 2), (92, .iload 7, 2), (94, .isub, 1), (95, .ireturn, 1)]
theorem TX11_order_1 : Tab cX11_order tX11_order_1 = true := by decide +kernel
def tX11_cancel_0 : Tb := [(0, .iload_n 2, 1), (1, .invokestatic 127, 3), (4, .ifCond .eq 16, 3), (7, .aload_n 0, 1), (8, .getfield 25, 3), (11, .iload_n 2, 1), (12, .aaload, 1), (13, .iload_n 1, 1), (14, .invokevirtual 131, 3), (17, .goto 4, 3), (20, .iconst (-1), 1), (21, .ireturn, 1)]
theorem TX11_cancel_0 : Tab cX11_cancel tX11_cancel_0 = true := by decide +kernel
def tX11_waiting_0 : Tb := [(0, .iload_n 2, 1), (1, .invokestatic 127, 3), (4, .ifCond .ne 5, 3), (7, .iconst (-1), 1), (8, .ireturn, 1), (9, .aload_n 0, 1), (10, .getfield 25, 3), (13, .iload_n 2, 1), (14, .aaload, 1), (15, .iload_n 1, 1), (16, .invokevirtual 135, 3), (19, .astore 5, 2), (21, .iload_n 3, 1), (22, .ifCond .lt 12, 3), (25, .iload_n 3, 1), (26, .aload 5, 2), (28, .invokevirtual 85, 3), (31, .if_icmp .lt 5, 3), (34, .iconst (-1), 1), (35, .ireturn, 1), (36, .aload 5, 2), (38, .iload_n 3, 1), (39, .invokevirtual 139, 3), (42, .checkcast 115, 3), (45, .astore 6, 2), (47, .iload 4, 2), (49, .tableswitch 45 0 2 #[27, 33, 39], 27), (76, .aload 6, 2), (78, .getfield 143, 3), (81, .ireturn, 1), (82, .aload 6, 2), (84, .getfield 146, 3), (87, .ireturn, 1), (88, .aload 6, 2), (90, .getfield 149, 3), (93, .ireturn, 1), (94, .iconst (-1), 1), (95, .ireturn, 1)]
theorem TX11_waiting_0 : Tab cX11_waiting tX11_waiting_0 = true := by decide +kernel
def tX11_trade_0 : Tb := [(0, .aload_n 0, 1), (1, .iload_n 1, 1), (2, .invokevirtual 152, 3), (5, .astore_n 3, 1), (6, .aload_n 3, 1), (7, .ifnonnull 5, 3), (10, .iconst (-1), 1), (11, .ireturn, 1), (12, .iload_n 2, 1), (13, .tableswitch 86 0 6 #[43, 48, 53, 58, 63, 68, 73], 43), (56, .aload_n 3, 1), (57, .getfield 156, 3), (60, .ireturn, 1), (61, .aload_n 3, 1), (62, .getfield 161, 3), (65, .ireturn, 1), (66, .aload_n 3, 1), (67, .getfield 162, 3), (70, .ireturn, 1), (71, .aload_n 3, 1), (72, .getfield 163, 3), (75, .ireturn, 1), (76, .aload_n 3, 1), (77, .getfield 166, 3), (80, .ireturn, 1), (81, .aload_n 3, 1), (82, .getfield 169, 3), (85, .ireturn, 1), (86, .aload_n 3, 1), (87, .getfield 172, 3), (90, .ifCond .eq 7, 3), (93, .iconst 1, 1), (94, .goto 4, 3), (97, .iconst 0, 1), (98, .ireturn, 1), (99, .iconst (-1), 1), (100, .ireturn, 1)]
theorem TX11_trade_0 : Tab cX11_trade tX11_trade_0 = true := by decide +kernel
def tX11_strike_0 : Tb := [(0, .aload_n 0, 1), (1, .iload_n 1, 1), (2, .invokevirtual 152, 3), (5, .astore_n 2, 1), (6, .aload_n 2, 1), (7, .ifnull 47, 3), (10, .aload_n 2, 1), (11, .getfield 172, 3), (14, .ifCond .ne 40, 3), (17, .aload_n 0, 1), (18, .getfield 25, 3), (21, .aload_n 2, 1), (22, .getfield 156, 3), (25, .aaload, 1), (26, .getfield 176, 3), (29, .ifCond .ne 25, 3), (32, .aload_n 0, 1), (33, .aload_n 2, 1), (34, .getfield 163, 3), (37, .invokevirtual 179, 3), (40, .ifCond .ne 14, 3), (43, .aload_n 0, 1), (44, .aload_n 2, 1), (45, .getfield 166, 3), (48, .invokevirtual 179, 3), (51, .ifCond .eq 5, 3), (54, .iconst 0, 1), (55, .ireturn, 1), (56, .aload_n 2, 1), (57, .iconst 1, 1), (58, .putfield 172, 3), (61, .aload_n 0, 1), (62, .aload_n 2, 1), (63, .getfield 166, 3), (66, .aload_n 2, 1), (67, .getfield 163, 3), (70, .aload_n 2, 1), (71, .getfield 156, 3), (74, .aload_n 2, 1), (75, .getfield 162, 3)]
theorem TX11_strike_0 : Tab cX11_strike tX11_strike_0 = true := by decide +kernel
def tX11_strike_1 : Tb := [(78, .aload_n 2, 1), (79, .getfield 161, 3), (82, .invokevirtual 182, 3), (85, .iconst 1, 1), (86, .ireturn, 1)]
theorem TX11_strike_1 : Tab cX11_strike tX11_strike_1 = true := by decide +kernel
def tX11_night_0 : Tb := [(0, .aload_n 0, 1), (1, .getfield 186, 3), (4, .sipush 150, 3), (7, .if_icmp .lt 5, 3), (10, .iconst (-1), 1), (11, .ireturn, 1), (12, .new 189, 3), (15, .dup, 1), (16, .aload_n 0, 1), (17, .getfield 33, 3), (20, .invokevirtual 85, 3), (23, .invokespecial 191, 3), (26, .astore_n 1, 1), (27, .iconst 0, 1), (28, .istore_n 2, 1), (29, .iload_n 2, 1), (30, .bipush 6, 2), (32, .if_icmp .ge 51, 3), (35, .aload_n 0, 1), (36, .getfield 25, 3), (39, .iload_n 2, 1), (40, .aaload, 1), (41, .invokevirtual 193, 3), (44, .aload_n 0, 1), (45, .iload_n 2, 1), (46, .invokevirtual 196, 3), (49, .istore_n 3, 1), (50, .aload_n 1, 1), (51, .getfield 199, 3), (54, .iload_n 2, 1), (55, .iload_n 3, 1), (56, .ifCond .ne 7, 3), (59, .aconst_null, 1), (60, .goto 16, 3), (63, .new 203, 3), (66, .dup, 1), (67, .iload_n 3, 1), (68, .aload_n 0, 1), (69, .getfield 186, 3), (72, .aconst_null, 1)]
theorem TX11_night_0 : Tab cX11_night tX11_night_0 = true := by decide +kernel
def tX11_night_1 : Tb := [(73, .invokespecial 205, 3), (76, .aastore, 1), (77, .iinc 2 1, 3), (80, .goto (-51), 3), (83, .aload_n 0, 1), (84, .getfield 46, 3), (87, .aload_n 1, 1), (88, .invokevirtual 92, 3), (91, .pop, 1), (92, .iconst 0, 1), (93, .istore_n 2, 1), (94, .iconst 0, 1), (95, .istore_n 3, 1), (96, .iload_n 3, 1), (97, .aload_n 0, 1), (98, .getfield 33, 3), (101, .invokevirtual 85, 3), (104, .if_icmp .ge 35, 3), (107, .aload_n 0, 1), (108, .aload_n 0, 1), (109, .getfield 33, 3), (112, .iload_n 3, 1), (113, .invokevirtual 139, 3), (116, .checkcast 89, 3), (119, .invokevirtual 208, 3), (122, .ifCond .eq 11, 3), (125, .aload_n 0, 1), (126, .iload_n 3, 1), (127, .invokevirtual 212, 3), (130, .iinc 2 1, 3), (133, .iinc 3 1, 3), (136, .goto (-40), 3), (139, .aload_n 0, 1), (140, .aload_n 1, 1), (141, .invokevirtual 215, 3), (144, .aload_n 0, 1), (145, .dup, 1), (146, .getfield 186, 3), (149, .iconst 1, 1), (150, .iadd, 1)]
theorem TX11_night_1 : Tab cX11_night tX11_night_1 = true := by decide +kernel
def tX11_night_2 : Tb := [(151, .putfield 186, 3), (154, .iload_n 2, 1), (155, .ireturn, 1)]
theorem TX11_night_2 : Tab cX11_night tX11_night_2 = true := by decide +kernel
def tX11_money_0 : Tb := [(0, .aload_n 0, 1), (1, .iload_n 1, 1), (2, .invokevirtual 96, 3), (5, .astore_n 3, 1), (6, .aload_n 3, 1), (7, .ifnull 13, 3), (10, .iload_n 2, 1), (11, .ifCond .lt 9, 3), (14, .iload_n 2, 1), (15, .bipush 6, 2), (17, .if_icmp .le 13, 3), (20, .new 74, 3), (23, .dup, 1), (24, .ldc 219, 2), (26, .invokespecial 78, 3), (29, .athrow, 1), (30, .iload_n 2, 1), (31, .tableswitch 88 0 5 #[37, 42, 48, 61, 74, 81], 37), (68, .aload_n 3, 1), (69, .getfield 104, 3), (72, .lreturn, 1), (73, .aload_n 0, 1), (74, .aload_n 3, 1), (75, .invokevirtual 221, 3), (78, .lreturn, 1), (79, .aload_n 3, 1), (80, .getfield 225, 3), (83, .ifCond .eq 7, 3), (86, .lconst 1, 1), (87, .goto 4, 3), (90, .lconst 0, 1), (91, .lreturn, 1), (92, .aload_n 3, 1), (93, .getfield 228, 3), (96, .ifCond .eq 7, 3), (99, .lconst 1, 1), (100, .goto 4, 3), (103, .lconst 0, 1), (104, .lreturn, 1), (105, .aload_n 0, 1)]
theorem TX11_money_0 : Tab cX11_money tX11_money_0 = true := by decide +kernel
def tX11_money_1 : Tb := [(106, .aload_n 3, 1), (107, .iconst 1, 1), (108, .invokevirtual 231, 3), (111, .lreturn, 1), (112, .aload_n 0, 1), (113, .aload_n 3, 1), (114, .iconst 2, 1), (115, .invokevirtual 231, 3), (118, .lreturn, 1), (119, .aload_n 0, 1), (120, .iload_n 1, 1), (121, .invokevirtual 235, 3), (124, .i2l, 1), (125, .lreturn, 1)]
theorem TX11_money_1 : Tab cX11_money tX11_money_1 = true := by decide +kernel
def tX11_position_0 : Tb := [(0, .aload_n 0, 1), (1, .iload_n 1, 1), (2, .invokevirtual 96, 3), (5, .astore_n 3, 1), (6, .aload_n 3, 1), (7, .ifnull 10, 3), (10, .iload_n 2, 1), (11, .invokestatic 127, 3), (14, .ifCond .ne 13, 3), (17, .new 74, 3), (20, .dup, 1), (21, .ldc 238, 2), (23, .invokespecial 78, 3), (26, .athrow, 1), (27, .aload_n 3, 1), (28, .getfield 240, 3), (31, .iload_n 2, 1), (32, .iaload, 1), (33, .ireturn, 1)]
theorem TX11_position_0 : Tab cX11_position tX11_position_0 = true := by decide +kernel
def tX11_longOf_0 : Tb := [(0, .iload_n 1, 1), (1, .invokestatic 127, 3), (4, .ifCond .eq 23, 3), (7, .iload_n 2, 1), (8, .ifCond .lt 19, 3), (11, .iload_n 2, 1), (12, .aload_n 0, 1), (13, .getfield 25, 3), (16, .iload_n 1, 1), (17, .aaload, 1), (18, .getfield 244, 3), (21, .invokevirtual 85, 3), (24, .if_icmp .lt 5, 3), (27, .iconst (-1), 1), (28, .ireturn, 1), (29, .aload_n 0, 1), (30, .getfield 25, 3), (33, .iload_n 1, 1), (34, .aaload, 1), (35, .getfield 244, 3), (38, .iload_n 2, 1), (39, .invokevirtual 139, 3), (42, .checkcast 115, 3), (45, .astore 4, 2), (47, .iload_n 3, 1), (48, .lookupswitch 40 #[(0, 28), (1, 34)], 28), (76, .aload 4, 2), (78, .getfield 143, 3), (81, .ireturn, 1), (82, .aload 4, 2), (84, .getfield 149, 3), (87, .ireturn, 1), (88, .iconst (-1), 1), (89, .ireturn, 1)]
theorem TX11_longOf_0 : Tab cX11_longOf tX11_longOf_0 = true := by decide +kernel
def tX11_count_0 : Tb := [(0, .iload_n 1, 1), (1, .tableswitch 117 0 8 #[51, 56, 64, 72, 77, 88, 96, 104, 109], 51), (52, .aload_n 0, 1), (53, .getfield 186, 3), (56, .ireturn, 1), (57, .aload_n 0, 1), (58, .getfield 33, 3), (61, .invokevirtual 85, 3), (64, .ireturn, 1), (65, .aload_n 0, 1), (66, .getfield 37, 3), (69, .invokevirtual 85, 3), (72, .ireturn, 1), (73, .aload_n 0, 1), (74, .invokevirtual 247, 3), (77, .ireturn, 1), (78, .aload_n 0, 1), (79, .getfield 19, 3), (82, .getfield 61, 3), (85, .invokevirtual 85, 3), (88, .ireturn, 1), (89, .aload_n 0, 1), (90, .getfield 40, 3), (93, .invokevirtual 85, 3), (96, .ireturn, 1), (97, .aload_n 0, 1), (98, .getfield 43, 3), (101, .invokevirtual 85, 3), (104, .ireturn, 1), (105, .aload_n 0, 1), (106, .invokevirtual 250, 3), (109, .ireturn, 1), (110, .aload_n 0, 1), (111, .getfield 10, 3), (114, .getfield 57, 3), (117, .ireturn, 1), (118, .iconst (-1), 1), (119, .ireturn, 1)]
theorem TX11_count_0 : Tab cX11_count tX11_count_0 = true := by decide +kernel
def tX11_deliver_0 : Tb := [(0, .iload_n 1, 1), (1, .invokestatic 127, 3), (4, .ifCond .eq 15, 3), (7, .aload_n 0, 1), (8, .getfield 25, 3), (11, .iload_n 1, 1), (12, .aaload, 1), (13, .getfield 176, 3), (16, .ifCond .eq 5, 3), (19, .iconst 0, 1), (20, .ireturn, 1), (21, .aload_n 0, 1), (22, .getfield 25, 3), (25, .iload_n 1, 1), (26, .aaload, 1), (27, .iconst 1, 1), (28, .putfield 176, 3), (31, .aload_n 0, 1), (32, .getfield 25, 3), (35, .iload_n 1, 1), (36, .aaload, 1), (37, .invokevirtual 193, 3), (40, .iconst 1, 1), (41, .ireturn, 1)]
theorem TX11_deliver_0 : Tab cX11_deliver tX11_deliver_0 = true := by decide +kernel
def tX11_receipt_0 : Tb := [(0, .aload_n 0, 1), (1, .iload_n 1, 1), (2, .invokevirtual 96, 3), (5, .ifnull 33, 3), (8, .iload_n 2, 1), (9, .ifCond .lt 29, 3), (12, .iload_n 2, 1), (13, .iconst 3, 1), (14, .if_icmp .gt 24, 3), (17, .iload_n 3, 1), (18, .ifCond .lt 20, 3), (21, .iload_n 3, 1), (22, .iconst 3, 1), (23, .if_icmp .gt 15, 3), (26, .aload_n 0, 1), (27, .getfield 40, 3), (30, .invokevirtual 85, 3), (33, .bipush 60, 2), (35, .if_icmp .lt 5, 3), (38, .iconst (-1), 1), (39, .ireturn, 1), (40, .aload_n 0, 1), (41, .getfield 40, 3), (44, .new 253, 3), (47, .dup, 1), (48, .iload_n 1, 1), (49, .iload_n 2, 1), (50, .iload_n 3, 1), (51, .invokespecial 255, 3), (54, .invokevirtual 92, 3), (57, .pop, 1), (58, .aload_n 0, 1), (59, .getfield 40, 3), (62, .invokevirtual 85, 3), (65, .iconst 1, 1), (66, .isub, 1), (67, .ireturn, 1)]
theorem TX11_receipt_0 : Tab cX11_receipt tX11_receipt_0 = true := by decide +kernel
def tX11_notice_0 : Tb := [(0, .aload_n 0, 1), (1, .iload_n 1, 1), (2, .invokevirtual 96, 3), (5, .astore 4, 2), (7, .aload_n 0, 1), (8, .iload_n 3, 1), (9, .invokevirtual 258, 3), (12, .astore 5, 2), (14, .aload 4, 2), (16, .ifnull 44, 3), (19, .iload_n 2, 1), (20, .invokestatic 127, 3), (23, .ifCond .eq 37, 3), (26, .aload 5, 2), (28, .ifnull 32, 3), (31, .aload 5, 2), (33, .getfield 262, 3), (36, .ifCond .eq 24, 3), (39, .aload 5, 2), (41, .getfield 265, 3), (44, .iload_n 1, 1), (45, .if_icmp .ne 15, 3), (48, .aload_n 0, 1), (49, .getfield 43, 3), (52, .invokevirtual 85, 3), (55, .bipush 80, 2), (57, .if_icmp .lt 5, 3), (60, .iconst (-1), 1), (61, .ireturn, 1), (62, .aload_n 0, 1), (63, .getfield 25, 3), (66, .iload_n 2, 1), (67, .aaload, 1), (68, .astore 6, 2), (70, .aload 6, 2), (72, .getfield 176, 3), (75, .ifCond .eq 39, 3), (78, .aload_n 0, 1), (79, .iload_n 2, 1), (80, .invokevirtual 268, 3)]
theorem TX11_notice_0 : Tab cX11_notice tX11_notice_0 = true := by decide +kernel
def tX11_notice_1 : Tb := [(83, .ifCond .eq 31, 3), (86, .aload 6, 2), (88, .getfield 244, 3), (91, .invokevirtual 271, 3), (94, .ifCond .ne 20, 3), (97, .aload_n 0, 1), (98, .iload_n 1, 1), (99, .iload_n 2, 1), (100, .invokevirtual 274, 3), (103, .aload 4, 2), (105, .getfield 240, 3), (108, .iload_n 2, 1), (109, .iaload, 1), (110, .ineg, 1), (111, .if_icmp .lt 5, 3), (114, .iconst (-1), 1), (115, .ireturn, 1), (116, .aload 5, 2), (118, .iconst 0, 1), (119, .putfield 262, 3), (122, .aload_n 0, 1), (123, .getfield 43, 3), (126, .new 278, 3), (129, .dup, 1), (130, .iload_n 1, 1), (131, .iload_n 2, 1), (132, .iload_n 3, 1), (133, .aload 6, 2), (135, .getfield 244, 3), (138, .iconst 0, 1), (139, .invokevirtual 139, 3), (142, .checkcast 115, 3), (145, .getfield 143, 3), (148, .invokespecial 280, 3), (151, .invokevirtual 92, 3), (154, .pop, 1), (155, .aload_n 0, 1), (156, .getfield 43, 3), (159, .invokevirtual 85, 3), (162, .iconst 1, 1)]
theorem TX11_notice_1 : Tab cX11_notice tX11_notice_1 = true := by decide +kernel
def tX11_notice_2 : Tb := [(163, .isub, 1), (164, .ireturn, 1)]
theorem TX11_notice_2 : Tab cX11_notice tX11_notice_2 = true := by decide +kernel
def tX11_pass_0 : Tb := [(0, .aload_n 0, 1), (1, .iload_n 1, 1), (2, .invokevirtual 281, 3), (5, .astore_n 2, 1), (6, .aload_n 2, 1), (7, .ifnonnull 5, 3), (10, .iconst (-1), 1), (11, .ireturn, 1), (12, .aload_n 0, 1), (13, .aload_n 2, 1), (14, .invokevirtual 285, 3), (17, .istore_n 3, 1), (18, .aload_n 0, 1), (19, .aload_n 2, 1), (20, .getfield 289, 3), (23, .invokevirtual 96, 3), (26, .astore 4, 2), (28, .aload_n 0, 1), (29, .iload_n 3, 1), (30, .invokevirtual 96, 3), (33, .astore 5, 2), (35, .aload 4, 2), (37, .ifnull 8, 3), (40, .aload 5, 2), (42, .ifnonnull 5, 3), (45, .iconst (-1), 1), (46, .ireturn, 1), (47, .aload_n 0, 1), (48, .getfield 19, 3), (51, .iconst 5, 1), (52, .aload_n 0, 1), (53, .getfield 186, 3), (56, .aload_n 2, 1), (57, .getfield 292, 3), (60, .iconst 0, 1), (61, .aload_n 2, 1), (62, .getfield 293, 3), (65, .iconst 0, 1), (66, .iconst 0, 1), (67, .invokevirtual 81, 3)]
theorem TX11_pass_0 : Tab cX11_pass tX11_pass_0 = true := by decide +kernel
def tX11_pass_1 : Tb := [(70, .i2l, 1), (71, .lstore 6, 2), (73, .aload 4, 2), (75, .dup, 1), (76, .getfield 104, 3), (79, .lload 6, 2), (81, .lsub, 1), (82, .putfield 104, 3), (85, .aload 5, 2), (87, .dup, 1), (88, .getfield 104, 3), (91, .lload 6, 2), (93, .ladd, 1), (94, .putfield 104, 3), (97, .aload_n 2, 1), (98, .iload_n 3, 1), (99, .invokevirtual 296, 3), (102, .iload_n 3, 1), (103, .ireturn, 1)]
theorem TX11_pass_1 : Tab cX11_pass tX11_pass_1 = true := by decide +kernel
def tX11_keep_0 : Tb := [(0, .aload_n 0, 1), (1, .iload_n 1, 1), (2, .invokevirtual 281, 3), (5, .astore_n 2, 1), (6, .aload_n 2, 1), (7, .ifnonnull 5, 3), (10, .iconst (-1), 1), (11, .ireturn, 1), (12, .aload_n 0, 1), (13, .aload_n 2, 1), (14, .getfield 289, 3), (17, .invokevirtual 96, 3), (20, .astore_n 3, 1), (21, .aload_n 0, 1), (22, .aload_n 2, 1), (23, .getfield 299, 3), (26, .invokevirtual 96, 3), (29, .astore 4, 2), (31, .aload_n 0, 1), (32, .aload_n 2, 1), (33, .getfield 302, 3), (36, .invokevirtual 258, 3), (39, .astore 5, 2), (41, .aload_n 3, 1), (42, .ifnull 13, 3), (45, .aload 4, 2), (47, .ifnull 8, 3), (50, .aload 5, 2), (52, .ifnonnull 5, 3), (55, .iconst (-1), 1), (56, .ireturn, 1), (57, .aload 5, 2), (59, .iconst 1, 1), (60, .putfield 262, 3), (63, .aload_n 3, 1), (64, .getfield 240, 3), (67, .aload_n 2, 1), (68, .getfield 292, 3), (71, .iaload, 1), (72, .ifCond .le 16, 3)]
theorem TX11_keep_0 : Tab cX11_keep tX11_keep_0 = true := by decide +kernel
def tX11_keep_1 : Tb := [(75, .aload 4, 2), (77, .getfield 240, 3), (80, .aload_n 2, 1), (81, .getfield 292, 3), (84, .iaload, 1), (85, .ifCond .lt 10, 3), (88, .aload_n 2, 1), (89, .iconst 3, 1), (90, .putfield 305, 3), (93, .iconst 0, 1), (94, .ireturn, 1), (95, .aload_n 2, 1), (96, .iconst 2, 1), (97, .putfield 305, 3), (100, .aload 5, 2), (102, .aload_n 2, 1), (103, .getfield 289, 3), (106, .putfield 265, 3), (109, .aload_n 0, 1), (110, .aload_n 2, 1), (111, .getfield 292, 3), (114, .invokevirtual 268, 3), (117, .istore 6, 2), (119, .aload_n 0, 1), (120, .aload_n 2, 1), (121, .getfield 299, 3), (124, .aload_n 2, 1), (125, .getfield 289, 3), (128, .aload_n 2, 1), (129, .getfield 292, 3), (132, .iconst 1, 1), (133, .iload 6, 2), (135, .invokevirtual 182, 3), (138, .iload 6, 2), (140, .i2l, 1), (141, .lstore 7, 2), (143, .lload 7, 2), (145, .aload_n 0, 1), (146, .getfield 19, 3), (149, .iconst 4, 1)]
theorem TX11_keep_1 : Tab cX11_keep tX11_keep_1 = true := by decide +kernel
def tX11_keep_2 : Tb := [(150, .aload_n 0, 1), (151, .getfield 186, 3), (154, .aload_n 2, 1), (155, .getfield 292, 3), (158, .iload 6, 2), (160, .iconst 0, 1), (161, .aload 5, 2), (163, .getfield 308, 3), (166, .aload 5, 2), (168, .getfield 311, 3), (171, .invokevirtual 81, 3), (174, .i2l, 1), (175, .ladd, 1), (176, .lstore 7, 2), (178, .aload_n 3, 1), (179, .dup, 1), (180, .getfield 104, 3), (183, .lload 7, 2), (185, .lsub, 1), (186, .putfield 104, 3), (189, .aload 4, 2), (191, .dup, 1), (192, .getfield 104, 3), (195, .lload 7, 2), (197, .ladd, 1), (198, .putfield 104, 3), (201, .iconst 1, 1), (202, .ireturn, 1)]
theorem TX11_keep_2 : Tab cX11_keep tX11_keep_2 = true := by decide +kernel
def tX11_told_0 : Tb := [(0, .aload_n 0, 1), (1, .iload_n 1, 1), (2, .invokevirtual 314, 3), (5, .astore_n 3, 1), (6, .aload_n 3, 1), (7, .ifnonnull 5, 3), (10, .iconst (-1), 1), (11, .ireturn, 1), (12, .iload_n 2, 1), (13, .tableswitch 69 0 5 #[39, 44, 49, 54, 59, 64], 39), (52, .aload_n 3, 1), (53, .getfield 305, 3), (56, .ireturn, 1), (57, .aload_n 3, 1), (58, .getfield 289, 3), (61, .ireturn, 1), (62, .aload_n 3, 1), (63, .getfield 299, 3), (66, .ireturn, 1), (67, .aload_n 3, 1), (68, .getfield 302, 3), (71, .ireturn, 1), (72, .aload_n 3, 1), (73, .getfield 293, 3), (76, .ireturn, 1), (77, .aload_n 3, 1), (78, .getfield 292, 3), (81, .ireturn, 1), (82, .iconst (-1), 1), (83, .ireturn, 1)]
theorem TX11_told_0 : Tab cX11_told tX11_told_0 = true := by decide +kernel
def tX11_stored_0 : Tb := [(0, .aload_n 0, 1), (1, .iload_n 1, 1), (2, .invokevirtual 258, 3), (5, .astore_n 3, 1), (6, .aload_n 3, 1), (7, .ifnonnull 5, 3), (10, .iconst (-1), 1), (11, .ireturn, 1), (12, .iload_n 2, 1), (13, .tableswitch 59 0 3 #[31, 36, 41, 46], 31), (44, .aload_n 3, 1), (45, .getfield 308, 3), (48, .ireturn, 1), (49, .aload_n 3, 1), (50, .getfield 311, 3), (53, .ireturn, 1), (54, .aload_n 3, 1), (55, .getfield 265, 3), (58, .ireturn, 1), (59, .aload_n 3, 1), (60, .getfield 262, 3), (63, .ifCond .eq 7, 3), (66, .iconst 1, 1), (67, .goto 4, 3), (70, .iconst 0, 1), (71, .ireturn, 1), (72, .iconst (-1), 1), (73, .ireturn, 1)]
theorem TX11_stored_0 : Tab cX11_stored tX11_stored_0 = true := by decide +kernel
def tX11_squeeze_0 : Tb := [(0, .iload_n 1, 1), (1, .invokestatic 127, 3), (4, .ifCond .ne 5, 3), (7, .iconst (-1), 1), (8, .ireturn, 1), (9, .iload_n 2, 1), (10, .tableswitch 88 0 4 #[34, 52, 58, 64, 74], 34), (44, .aload_n 0, 1), (45, .getfield 25, 3), (48, .iload_n 1, 1), (49, .aaload, 1), (50, .getfield 176, 3), (53, .ifCond .eq 7, 3), (56, .iconst 1, 1), (57, .goto 4, 3), (60, .iconst 0, 1), (61, .ireturn, 1), (62, .aload_n 0, 1), (63, .iload_n 1, 1), (64, .invokevirtual 317, 3), (67, .ireturn, 1), (68, .aload_n 0, 1), (69, .iload_n 1, 1), (70, .invokevirtual 320, 3), (73, .ireturn, 1), (74, .aload_n 0, 1), (75, .aload_n 0, 1), (76, .iload_n 1, 1), (77, .invokevirtual 320, 3), (80, .invokevirtual 323, 3), (83, .ireturn, 1), (84, .aload_n 0, 1), (85, .iload_n 1, 1), (86, .invokevirtual 326, 3), (89, .ifCond .eq 7, 3), (92, .iconst 1, 1), (93, .goto 4, 3), (96, .iconst 0, 1), (97, .ireturn, 1), (98, .iconst (-1), 1)]
theorem TX11_squeeze_0 : Tab cX11_squeeze tX11_squeeze_0 = true := by decide +kernel
def tX11_squeeze_1 : Tb := [(99, .ireturn, 1)]
theorem TX11_squeeze_1 : Tab cX11_squeeze tX11_squeeze_1 = true := by decide +kernel
def tX11_right_0 : Tb := [(0, .iload_n 1, 1), (1, .invokestatic 127, 3), (4, .ifCond .eq 27, 3), (7, .iload_n 3, 1), (8, .invokestatic 329, 3), (11, .ifCond .eq 20, 3), (14, .aload_n 0, 1), (15, .iload_n 2, 1), (16, .invokevirtual 332, 3), (19, .ifCond .eq 12, 3), (22, .aload_n 0, 1), (23, .getfield 335, 3), (26, .bipush 100, 2), (28, .if_icmp .lt 5, 3), (31, .iconst 0, 1), (32, .ireturn, 1), (33, .aload_n 0, 1), (34, .getfield 46, 3), (37, .iload_n 2, 1), (38, .invokevirtual 139, 3), (41, .checkcast 189, 3), (44, .getfield 199, 3), (47, .iload_n 1, 1), (48, .aaload, 1), (49, .astore 4, 2), (51, .aload 4, 2), (53, .ifnonnull 5, 3), (56, .iconst 0, 1), (57, .ireturn, 1), (58, .aload_n 0, 1), (59, .getfield 46, 3), (62, .iload_n 2, 1), (63, .invokevirtual 139, 3), (66, .checkcast 189, 3), (69, .getfield 199, 3), (72, .iload_n 1, 1), (73, .new 203, 3), (76, .dup, 1), (77, .iload_n 3, 1), (78, .aload_n 0, 1)]
theorem TX11_right_0 : Tab cX11_right tX11_right_0 = true := by decide +kernel
def tX11_right_1 : Tb := [(79, .getfield 186, 3), (82, .aload 4, 2), (84, .invokespecial 205, 3), (87, .aastore, 1), (88, .aload_n 0, 1), (89, .dup, 1), (90, .getfield 335, 3), (93, .iconst 1, 1), (94, .iadd, 1), (95, .putfield 335, 3), (98, .iconst 1, 1), (99, .ireturn, 1)]
theorem TX11_right_1 : Tab cX11_right tX11_right_1 = true := by decide +kernel
def tX11_settle_0 : Tb := [(0, .iload_n 1, 1), (1, .invokestatic 127, 3), (4, .ifCond .eq 12, 3), (7, .aload_n 0, 1), (8, .iload_n 2, 1), (9, .iload_n 3, 1), (10, .invokevirtual 338, 3), (13, .ifCond .ne 5, 3), (16, .iconst (-1), 1), (17, .ireturn, 1), (18, .aload_n 0, 1), (19, .iload_n 1, 1), (20, .iload_n 2, 1), (21, .iload_n 3, 1), (22, .invokevirtual 342, 3), (25, .istore 4, 2), (27, .iload 4, 2), (29, .ifCond .ne 7, 3), (32, .iconst (-1), 1), (33, .goto 5, 3), (36, .iload 4, 2), (38, .ireturn, 1)]
theorem TX11_settle_0 : Tab cX11_settle tX11_settle_0 = true := by decide +kernel
def tX11_equity_0 : Tb := [(0, .aload_n 0, 1), (1, .iload_n 1, 1), (2, .invokevirtual 96, 3), (5, .ifnull 12, 3), (8, .aload_n 0, 1), (9, .iload_n 2, 1), (10, .iload_n 3, 1), (11, .invokevirtual 338, 3), (14, .ifCond .ne 14, 3), (17, .new 74, 3), (20, .dup, 1), (21, .ldc_w 346, 3), (24, .invokespecial 78, 3), (27, .athrow, 1), (28, .aload_n 0, 1), (29, .getfield 46, 3), (32, .iload_n 2, 1), (33, .invokevirtual 139, 3), (36, .checkcast 189, 3), (39, .astore 4, 2), (41, .iload_n 1, 1), (42, .aload 4, 2), (44, .getfield 348, 3), (47, .arraylength, 1), (48, .if_icmp .lt 5, 3), (51, .lconst 0, 1), (52, .lreturn, 1), (53, .aload 4, 2), (55, .getfield 348, 3), (58, .iload_n 1, 1), (59, .laload, 1), (60, .lstore 5, 2), (62, .iconst 0, 1), (63, .istore 7, 2), (65, .iload 7, 2), (67, .bipush 6, 2), (69, .if_icmp .ge 38, 3), (72, .lload 5, 2), (74, .aload 4, 2), (76, .getfield 352, 3)]
theorem TX11_equity_0 : Tab cX11_equity tX11_equity_0 = true := by decide +kernel
def tX11_equity_1 : Tb := [(79, .iload_n 1, 1), (80, .bipush 6, 2), (82, .imul, 1), (83, .iload 7, 2), (85, .iadd, 1), (86, .iaload, 1), (87, .i2l, 1), (88, .aload_n 0, 1), (89, .iload 7, 2), (91, .iload_n 2, 1), (92, .iload_n 3, 1), (93, .invokevirtual 342, 3), (96, .i2l, 1), (97, .lmul, 1), (98, .ladd, 1), (99, .lstore 5, 2), (101, .iinc 7 1, 3), (104, .goto (-39), 3), (107, .lload 5, 2), (109, .lreturn, 1)]
theorem TX11_equity_1 : Tab cX11_equity tX11_equity_1 = true := by decide +kernel
def tX11_isMonth_0 : Tb := [(0, .iload_n 0, 1), (1, .ifCond .lt 13, 3), (4, .iload_n 0, 1), (5, .bipush 6, 2), (7, .if_icmp .ge 7, 3), (10, .iconst 1, 1), (11, .goto 4, 3), (14, .iconst 0, 1), (15, .ireturn, 1)]
theorem TX11_isMonth_0 : Tab cX11_isMonth tX11_isMonth_0 = true := by decide +kernel
def tX11_isPrice_0 : Tb := [(0, .iload_n 0, 1), (1, .iconst 1, 1), (2, .if_icmp .lt 14, 3), (5, .iload_n 0, 1), (6, .sipush 10000, 3), (9, .if_icmp .gt 7, 3), (12, .iconst 1, 1), (13, .goto 4, 3), (16, .iconst 0, 1), (17, .ireturn, 1)]
theorem TX11_isPrice_0 : Tab cX11_isPrice tX11_isPrice_0 = true := by decide +kernel
def tX11_isOver_0 : Tb := [(0, .iload_n 1, 1), (1, .ifCond .lt 18, 3), (4, .iload_n 1, 1), (5, .aload_n 0, 1), (6, .getfield 46, 3), (9, .invokevirtual 85, 3), (12, .if_icmp .ge 7, 3), (15, .iconst 1, 1), (16, .goto 4, 3), (19, .iconst 0, 1), (20, .ireturn, 1)]
theorem TX11_isOver_0 : Tab cX11_isOver tX11_isOver_0 = true := by decide +kernel
def tX11_isKnown_0 : Tb := [(0, .aload_n 0, 1), (1, .iload_n 1, 1), (2, .invokevirtual 332, 3), (5, .ifCond .eq 20, 3), (8, .iload_n 2, 1), (9, .iload_n 1, 1), (10, .if_icmp .lt 15, 3), (13, .iload_n 2, 1), (14, .aload_n 0, 1), (15, .getfield 186, 3), (18, .if_icmp .gt 7, 3), (21, .iconst 1, 1), (22, .goto 4, 3), (25, .iconst 0, 1), (26, .ireturn, 1)]
theorem TX11_isKnown_0 : Tab cX11_isKnown tX11_isKnown_0 = true := by decide +kernel
def tX11_memberOf_0 : Tb := [(0, .iload_n 1, 1), (1, .ifCond .lt 28, 3), (4, .iload_n 1, 1), (5, .aload_n 0, 1), (6, .getfield 33, 3), (9, .invokevirtual 85, 3), (12, .if_icmp .ge 17, 3), (15, .aload_n 0, 1), (16, .getfield 33, 3), (19, .iload_n 1, 1), (20, .invokevirtual 139, 3), (23, .checkcast 89, 3), (26, .goto 4, 3), (29, .aconst_null, 1), (30, .areturn, 1)]
theorem TX11_memberOf_0 : Tab cX11_memberOf tX11_memberOf_0 = true := by decide +kernel
def tX11_tradeOf_0 : Tb := [(0, .iload_n 1, 1), (1, .ifCond .lt 28, 3), (4, .iload_n 1, 1), (5, .aload_n 0, 1), (6, .getfield 37, 3), (9, .invokevirtual 85, 3), (12, .if_icmp .ge 17, 3), (15, .aload_n 0, 1), (16, .getfield 37, 3), (19, .iload_n 1, 1), (20, .invokevirtual 139, 3), (23, .checkcast 157, 3), (26, .goto 4, 3), (29, .aconst_null, 1), (30, .areturn, 1)]
theorem TX11_tradeOf_0 : Tab cX11_tradeOf tX11_tradeOf_0 = true := by decide +kernel
def tX11_receiptOf_0 : Tb := [(0, .iload_n 1, 1), (1, .ifCond .lt 28, 3), (4, .iload_n 1, 1), (5, .aload_n 0, 1), (6, .getfield 40, 3), (9, .invokevirtual 85, 3), (12, .if_icmp .ge 17, 3), (15, .aload_n 0, 1), (16, .getfield 40, 3), (19, .iload_n 1, 1), (20, .invokevirtual 139, 3), (23, .checkcast 253, 3), (26, .goto 4, 3), (29, .aconst_null, 1), (30, .areturn, 1)]
theorem TX11_receiptOf_0 : Tab cX11_receiptOf tX11_receiptOf_0 = true := by decide +kernel
def tX11_noticeOf_0 : Tb := [(0, .iload_n 1, 1), (1, .ifCond .lt 28, 3), (4, .iload_n 1, 1), (5, .aload_n 0, 1), (6, .getfield 43, 3), (9, .invokevirtual 85, 3), (12, .if_icmp .ge 17, 3), (15, .aload_n 0, 1), (16, .getfield 43, 3), (19, .iload_n 1, 1), (20, .invokevirtual 139, 3), (23, .checkcast 278, 3), (26, .goto 4, 3), (29, .aconst_null, 1), (30, .areturn, 1)]
theorem TX11_noticeOf_0 : Tab cX11_noticeOf tX11_noticeOf_0 = true := by decide +kernel
def tX11_heldNotice_0 : Tb := [(0, .aload_n 0, 1), (1, .iload_n 1, 1), (2, .invokevirtual 314, 3), (5, .astore_n 2, 1), (6, .aload_n 2, 1), (7, .ifnull 15, 3), (10, .aload_n 2, 1), (11, .getfield 305, 3), (14, .iconst 1, 1), (15, .if_icmp .ne 7, 3), (18, .aload_n 2, 1), (19, .goto 4, 3), (22, .aconst_null, 1), (23, .areturn, 1)]
theorem TX11_heldNotice_0 : Tab cX11_heldNotice tX11_heldNotice_0 = true := by decide +kernel
def tX11_inDefault_0 : Tb := [(0, .aload_n 0, 1), (1, .iload_n 1, 1), (2, .invokevirtual 96, 3), (5, .astore_n 2, 1), (6, .aload_n 2, 1), (7, .ifnull 14, 3), (10, .aload_n 2, 1), (11, .getfield 228, 3), (14, .ifCond .eq 7, 3), (17, .iconst 1, 1), (18, .goto 4, 3), (21, .iconst 0, 1), (22, .ireturn, 1)]
theorem TX11_inDefault_0 : Tab cX11_inDefault tX11_inDefault_0 = true := by decide +kernel
def tX11_allWaiting_0 : Tb := [(0, .iconst 0, 1), (1, .istore_n 1, 1), (2, .iconst 0, 1), (3, .istore_n 2, 1), (4, .iload_n 2, 1), (5, .bipush 6, 2), (7, .if_icmp .ge 37, 3), (10, .iload_n 1, 1), (11, .aload_n 0, 1), (12, .getfield 25, 3), (15, .iload_n 2, 1), (16, .aaload, 1), (17, .getfield 353, 3), (20, .invokevirtual 85, 3), (23, .aload_n 0, 1), (24, .getfield 25, 3), (27, .iload_n 2, 1), (28, .aaload, 1), (29, .getfield 356, 3), (32, .invokevirtual 85, 3), (35, .iadd, 1), (36, .iadd, 1), (37, .istore_n 1, 1), (38, .iinc 2 1, 3), (41, .goto (-37), 3), (44, .iload_n 1, 1), (45, .ireturn, 1)]
theorem TX11_allWaiting_0 : Tab cX11_allWaiting tX11_allWaiting_0 = true := by decide +kernel
def tX11_allHeld_0 : Tb := [(0, .iconst 0, 1), (1, .istore_n 1, 1), (2, .iconst 0, 1), (3, .istore_n 2, 1), (4, .iload_n 2, 1), (5, .aload_n 0, 1), (6, .getfield 43, 3), (9, .invokevirtual 85, 3), (12, .if_icmp .ge 35, 3), (15, .iload_n 1, 1), (16, .aload_n 0, 1), (17, .getfield 43, 3), (20, .iload_n 2, 1), (21, .invokevirtual 139, 3), (24, .checkcast 278, 3), (27, .getfield 305, 3), (30, .iconst 1, 1), (31, .if_icmp .ne 7, 3), (34, .iconst 1, 1), (35, .goto 4, 3), (38, .iconst 0, 1), (39, .iadd, 1), (40, .istore_n 1, 1), (41, .iinc 2 1, 3), (44, .goto (-40), 3), (47, .iload_n 1, 1), (48, .ireturn, 1)]
theorem TX11_allHeld_0 : Tab cX11_allHeld tX11_allHeld_0 = true := by decide +kernel
def tX11_latestPrice_0 : Tb := [(0, .aload_n 0, 1), (1, .getfield 46, 3), (4, .invokevirtual 271, 3), (7, .ifCond .eq 5, 3), (10, .iconst 0, 1), (11, .ireturn, 1), (12, .aload_n 0, 1), (13, .getfield 46, 3), (16, .aload_n 0, 1), (17, .getfield 46, 3), (20, .invokevirtual 85, 3), (23, .iconst 1, 1), (24, .isub, 1), (25, .invokevirtual 139, 3), (28, .checkcast 189, 3), (31, .getfield 199, 3), (34, .iload_n 1, 1), (35, .aaload, 1), (36, .astore_n 2, 1), (37, .aload_n 2, 1), (38, .ifnonnull 7, 3), (41, .iconst 0, 1), (42, .goto 7, 3), (45, .aload_n 2, 1), (46, .getfield 359, 3), (49, .ireturn, 1)]
theorem TX11_latestPrice_0 : Tab cX11_latestPrice tX11_latestPrice_0 = true := by decide +kernel
def tX11_priceOn_0 : Tb := [(0, .aload_n 0, 1), (1, .getfield 46, 3), (4, .iload_n 2, 1), (5, .invokevirtual 139, 3), (8, .checkcast 189, 3), (11, .getfield 199, 3), (14, .iload_n 1, 1), (15, .aaload, 1), (16, .astore 4, 2), (18, .aload 4, 2), (20, .ifnull 22, 3), (23, .aload 4, 2), (25, .getfield 360, 3), (28, .iload_n 3, 1), (29, .if_icmp .le 13, 3), (32, .aload 4, 2), (34, .getfield 363, 3), (37, .astore 4, 2), (39, .goto (-21), 3), (42, .aload 4, 2), (44, .ifnonnull 7, 3), (47, .iconst 0, 1), (48, .goto 8, 3), (51, .aload 4, 2), (53, .getfield 359, 3), (56, .ireturn, 1)]
theorem TX11_priceOn_0 : Tab cX11_priceOn tX11_priceOn_0 = true := by decide +kernel
def tX11_worthOf_0 : Tb := [(0, .aload_n 1, 1), (1, .getfield 104, 3), (4, .aload_n 1, 1), (5, .getfield 367, 3), (8, .lsub, 1), (9, .lstore_n 2, 1), (10, .iconst 0, 1), (11, .istore 4, 2), (13, .iload 4, 2), (15, .bipush 6, 2), (17, .if_icmp .ge 28, 3), (20, .lload_n 2, 1), (21, .aload_n 1, 1), (22, .getfield 240, 3), (25, .iload 4, 2), (27, .iaload, 1), (28, .i2l, 1), (29, .aload_n 0, 1), (30, .iload 4, 2), (32, .invokevirtual 268, 3), (35, .i2l, 1), (36, .lmul, 1), (37, .ladd, 1), (38, .lstore_n 2, 1), (39, .iinc 4 1, 3), (42, .goto (-29), 3), (45, .lload_n 2, 1), (46, .lreturn, 1)]
theorem TX11_worthOf_0 : Tab cX11_worthOf tX11_worthOf_0 = true := by decide +kernel
def tX11_needOf_0 : Tb := [(0, .lconst 0, 1), (1, .lstore_n 3, 1), (2, .iconst 0, 1), (3, .istore 5, 2), (5, .iload 5, 2), (7, .bipush 6, 2), (9, .if_icmp .ge 66, 3), (12, .aload_n 1, 1), (13, .getfield 240, 3), (16, .iload 5, 2), (18, .iaload, 1), (19, .invokestatic 370, 3), (22, .istore 6, 2), (24, .iload 6, 2), (26, .ifCond .le 43, 3), (29, .aload_n 0, 1), (30, .getfield 19, 3), (33, .iload_n 2, 1), (34, .aload_n 0, 1), (35, .getfield 186, 3), (38, .iload 5, 2), (40, .aload_n 0, 1), (41, .iload 5, 2), (43, .invokevirtual 268, 3), (46, .iload 6, 2), (48, .iconst 0, 1), (49, .iconst 0, 1), (50, .invokevirtual 81, 3), (53, .istore 7, 2), (55, .lload_n 3, 1), (56, .iload 6, 2), (58, .i2l, 1), (59, .iload 7, 2), (61, .iconst 0, 1), (62, .invokestatic 375, 3), (65, .i2l, 1), (66, .lmul, 1), (67, .ladd, 1), (68, .lstore_n 3, 1), (69, .iinc 5 1, 3)]
theorem TX11_needOf_0 : Tab cX11_needOf tX11_needOf_0 = true := by decide +kernel
def tX11_needOf_1 : Tb := [(72, .goto (-67), 3), (75, .lload_n 3, 1), (76, .lreturn, 1)]
theorem TX11_needOf_1 : Tab cX11_needOf tX11_needOf_1 = true := by decide +kernel
def tX11_reasonAgainst_0 : Tb := [(0, .aload_n 0, 1), (1, .iload_n 1, 1), (2, .invokevirtual 96, 3), (5, .astore 6, 2), (7, .aload 6, 2), (9, .ifnull 31, 3), (12, .iload_n 3, 1), (13, .invokestatic 127, 3), (16, .ifCond .eq 24, 3), (19, .iload 5, 2), (21, .iconst 1, 1), (22, .if_icmp .lt 18, 3), (25, .iload 5, 2), (27, .bipush 50, 2), (29, .if_icmp .gt 11, 3), (32, .iload 4, 2), (34, .invokestatic 329, 3), (37, .ifCond .ne 5, 3), (40, .iconst 1, 1), (41, .ireturn, 1), (42, .aload 6, 2), (44, .getfield 228, 3), (47, .ifCond .ne 15, 3), (50, .aload_n 0, 1), (51, .getfield 25, 3), (54, .iload_n 3, 1), (55, .aaload, 1), (56, .getfield 176, 3), (59, .ifCond .eq 5, 3), (62, .iconst 2, 1), (63, .ireturn, 1), (64, .aload_n 0, 1), (65, .iload_n 3, 1), (66, .iload 4, 2), (68, .invokevirtual 378, 3), (71, .ifCond .eq 5, 3), (74, .iconst 3, 1), (75, .ireturn, 1), (76, .iload_n 2, 1), (77, .ifCond .eq 13, 3)]
theorem TX11_reasonAgainst_0 : Tab cX11_reasonAgainst tX11_reasonAgainst_0 = true := by decide +kernel
def tX11_reasonAgainst_1 : Tb := [(80, .aload 6, 2), (82, .getfield 240, 3), (85, .iload_n 3, 1), (86, .iaload, 1), (87, .goto 11, 3), (90, .aload 6, 2), (92, .getfield 240, 3), (95, .iload_n 3, 1), (96, .iaload, 1), (97, .ineg, 1), (98, .istore 7, 2), (100, .iload 7, 2), (102, .aload_n 0, 1), (103, .getfield 25, 3), (106, .iload_n 3, 1), (107, .aaload, 1), (108, .iload_n 2, 1), (109, .iload_n 1, 1), (110, .invokevirtual 381, 3), (113, .iadd, 1), (114, .iload 5, 2), (116, .iadd, 1), (117, .istore 8, 2), (119, .iload 8, 2), (121, .aload_n 0, 1), (122, .getfield 19, 3), (125, .iconst 3, 1), (126, .aload_n 0, 1), (127, .getfield 186, 3), (130, .iload_n 3, 1), (131, .iconst 0, 1), (132, .iload 5, 2), (134, .iconst 0, 1), (135, .iconst 0, 1), (136, .invokevirtual 81, 3), (139, .if_icmp .le 5, 3), (142, .iconst 4, 1), (143, .ireturn, 1), (144, .aload_n 0, 1), (145, .invokevirtual 247, 3)]
theorem TX11_reasonAgainst_1 : Tab cX11_reasonAgainst tX11_reasonAgainst_1 = true := by decide +kernel
def tX11_reasonAgainst_2 : Tb := [(148, .bipush 120, 2), (150, .if_icmp .ge 16, 3), (153, .aload_n 0, 1), (154, .getfield 37, 3), (157, .invokevirtual 85, 3), (160, .sipush 700, 3), (163, .if_icmp .lt 7, 3), (166, .iconst 5, 1), (167, .goto 4, 3), (170, .iconst 0, 1), (171, .ireturn, 1)]
theorem TX11_reasonAgainst_2 : Tab cX11_reasonAgainst tX11_reasonAgainst_2 = true := by decide +kernel
def tX11_isTooFar_0 : Tb := [(0, .aload_n 0, 1), (1, .iload_n 1, 1), (2, .invokevirtual 268, 3), (5, .istore_n 3, 1), (6, .iload_n 3, 1), (7, .ifCond .eq 33, 3), (10, .iload_n 2, 1), (11, .iload_n 3, 1), (12, .isub, 1), (13, .invokestatic 370, 3), (16, .aload_n 0, 1), (17, .getfield 19, 3), (20, .iconst 0, 1), (21, .aload_n 0, 1), (22, .getfield 186, 3), (25, .iload_n 1, 1), (26, .iload_n 3, 1), (27, .iconst 0, 1), (28, .iconst 0, 1), (29, .iconst 0, 1), (30, .invokevirtual 81, 3), (33, .if_icmp .le 7, 3), (36, .iconst 1, 1), (37, .goto 4, 3), (40, .iconst 0, 1), (41, .ireturn, 1)]
theorem TX11_isTooFar_0 : Tab cX11_isTooFar tX11_isTooFar_0 = true := by decide +kernel
def tX11_fill_0 : Tb := [(0, .aload_n 0, 1), (1, .getfield 25, 3), (4, .iload_n 3, 1), (5, .aaload, 1), (6, .iload_n 2, 1), (7, .ifCond .ne 7, 3), (10, .iconst 1, 1), (11, .goto 4, 3), (14, .iconst 0, 1), (15, .invokevirtual 135, 3), (18, .astore 6, 2), (20, .iload 5, 2), (22, .istore 7, 2), (24, .iconst 0, 1), (25, .istore 8, 2), (27, .iload 8, 2), (29, .bipush 120, 2), (31, .if_icmp .ge 216, 3), (34, .iload 7, 2), (36, .ifCond .le 211, 3), (39, .aload 6, 2), (41, .invokevirtual 271, 3), (44, .ifCond .ne 203, 3), (47, .aload 6, 2), (49, .iconst 0, 1), (50, .invokevirtual 139, 3), (53, .checkcast 115, 3), (56, .astore 9, 2), (58, .iload_n 2, 1), (59, .ifCond .eq 21, 3), (62, .aload 9, 2), (64, .getfield 146, 3), (67, .iload 4, 2), (69, .if_icmp .gt 7, 3), (72, .iconst 1, 1), (73, .goto 22, 3), (76, .iconst 0, 1), (77, .goto 18, 3), (80, .aload 9, 2), (82, .getfield 146, 3)]
theorem TX11_fill_0 : Tab cX11_fill tX11_fill_0 = true := by decide +kernel
def tX11_fill_1 : Tb := [(85, .iload 4, 2), (87, .if_icmp .lt 7, 3), (90, .iconst 1, 1), (91, .goto 4, 3), (94, .iconst 0, 1), (95, .istore 10, 2), (97, .iload 10, 2), (99, .ifCond .eq 16, 3), (102, .aload_n 0, 1), (103, .getfield 37, 3), (106, .invokevirtual 85, 3), (109, .sipush 700, 3), (112, .if_icmp .lt 6, 3), (115, .iload 7, 2), (117, .ireturn, 1), (118, .iload 7, 2), (120, .aload 9, 2), (122, .getfield 149, 3), (125, .invokestatic 385, 3), (128, .istore 11, 2), (130, .iload_n 2, 1), (131, .ifCond .eq 7, 3), (134, .iload_n 1, 1), (135, .goto 8, 3), (138, .aload 9, 2), (140, .getfield 143, 3), (143, .istore 12, 2), (145, .iload_n 2, 1), (146, .ifCond .eq 11, 3), (149, .aload 9, 2), (151, .getfield 143, 3), (154, .goto 4, 3), (157, .iload_n 1, 1), (158, .istore 13, 2), (160, .aload_n 0, 1), (161, .getfield 37, 3), (164, .new 157, 3), (167, .dup, 1), (168, .iload_n 3, 1), (169, .aload 9, 2)]
theorem TX11_fill_1 : Tab cX11_fill tX11_fill_1 = true := by decide +kernel
def tX11_fill_2 : Tb := [(171, .getfield 146, 3), (174, .iload 11, 2), (176, .iload 12, 2), (178, .iload 13, 2), (180, .aload_n 0, 1), (181, .getfield 186, 3), (184, .invokespecial 388, 3), (187, .invokevirtual 92, 3), (190, .pop, 1), (191, .aload_n 0, 1), (192, .iload 12, 2), (194, .iload 13, 2), (196, .iload_n 3, 1), (197, .iload 11, 2), (199, .aload 9, 2), (201, .getfield 146, 3), (204, .invokevirtual 182, 3), (207, .iload 7, 2), (209, .iload 11, 2), (211, .isub, 1), (212, .istore 7, 2), (214, .aload 9, 2), (216, .dup, 1), (217, .getfield 149, 3), (220, .iload 11, 2), (222, .isub, 1), (223, .putfield 149, 3), (226, .aload 9, 2), (228, .getfield 149, 3), (231, .ifCond .ne 10, 3), (234, .aload 6, 2), (236, .iconst 0, 1), (237, .invokevirtual 391, 3), (240, .pop, 1), (241, .iinc 8 1, 3), (244, .goto (-217), 3), (247, .iload 7, 2), (249, .ireturn, 1)]
theorem TX11_fill_2 : Tab cX11_fill tX11_fill_2 = true := by decide +kernel
def tX11_exchange_0 : Tb := [(0, .aload_n 0, 1), (1, .iload_n 1, 1), (2, .invokevirtual 96, 3), (5, .astore 6, 2), (7, .aload_n 0, 1), (8, .iload_n 2, 1), (9, .invokevirtual 96, 3), (12, .astore 7, 2), (14, .aload 6, 2), (16, .ifnull 13, 3), (19, .aload 7, 2), (21, .ifnull 8, 3), (24, .iload_n 1, 1), (25, .iload_n 2, 1), (26, .if_icmp .ne 4, 3), (29, .return_, 1), (30, .aload_n 0, 1), (31, .getfield 25, 3), (34, .iload_n 3, 1), (35, .aaload, 1), (36, .iload_n 2, 1), (37, .iload 4, 2), (39, .invokevirtual 394, 3), (42, .iload 4, 2), (44, .iconst 0, 1), (45, .aload 6, 2), (47, .getfield 240, 3), (50, .iload_n 3, 1), (51, .iaload, 1), (52, .ineg, 1), (53, .invokestatic 375, 3), (56, .invokestatic 385, 3), (59, .istore 8, 2), (61, .iload 4, 2), (63, .iload 8, 2), (65, .if_icmp .le 31, 3), (68, .aload_n 0, 1), (69, .getfield 25, 3), (72, .iload_n 3, 1), (73, .aaload, 1)]
theorem TX11_exchange_0 : Tab cX11_exchange tX11_exchange_0 = true := by decide +kernel
def tX11_exchange_1 : Tb := [(74, .getfield 244, 3), (77, .new 115, 3), (80, .dup, 1), (81, .iload_n 1, 1), (82, .iload 4, 2), (84, .iload 8, 2), (86, .isub, 1), (87, .iconst 0, 1), (88, .iconst 0, 1), (89, .invokespecial 120, 3), (92, .invokevirtual 92, 3), (95, .pop, 1), (96, .aload 6, 2), (98, .iload_n 3, 1), (99, .iload 4, 2), (101, .iload 5, 2), (103, .invokevirtual 398, 3), (106, .aload 7, 2), (108, .iload_n 3, 1), (109, .iload 4, 2), (111, .ineg, 1), (112, .iload 5, 2), (114, .invokevirtual 398, 3), (117, .return_, 1)]
theorem TX11_exchange_1 : Tab cX11_exchange tX11_exchange_1 = true := by decide +kernel
def tX11_endPrice_0 : Tb := [(0, .aload_n 0, 1), (1, .getfield 37, 3), (4, .invokevirtual 85, 3), (7, .iconst 1, 1), (8, .isub, 1), (9, .istore_n 2, 1), (10, .iload_n 2, 1), (11, .ifCond .lt 62, 3), (14, .aload_n 0, 1), (15, .getfield 37, 3), (18, .iload_n 2, 1), (19, .invokevirtual 139, 3), (22, .checkcast 157, 3), (25, .getfield 169, 3), (28, .aload_n 0, 1), (29, .getfield 186, 3), (32, .if_icmp .ne 41, 3), (35, .aload_n 0, 1), (36, .getfield 37, 3), (39, .iload_n 2, 1), (40, .invokevirtual 139, 3), (43, .checkcast 157, 3), (46, .astore_n 3, 1), (47, .aload_n 3, 1), (48, .getfield 156, 3), (51, .iload_n 1, 1), (52, .if_icmp .ne 15, 3), (55, .aload_n 3, 1), (56, .getfield 172, 3), (59, .ifCond .ne 8, 3), (62, .aload_n 3, 1), (63, .getfield 161, 3), (66, .ireturn, 1), (67, .iinc 2 (-1), 3), (70, .goto (-60), 3), (73, .aload_n 0, 1), (74, .iload_n 1, 1), (75, .invokevirtual 268, 3), (78, .ireturn, 1)]
theorem TX11_endPrice_0 : Tab cX11_endPrice tX11_endPrice_0 = true := by decide +kernel
def tX11_fallsTonight_0 : Tb := [(0, .aload_n 1, 1), (1, .getfield 228, 3), (4, .ifCond .eq 5, 3), (7, .iconst 0, 1), (8, .ireturn, 1), (9, .aload_n 0, 1), (10, .aload_n 1, 1), (11, .invokevirtual 221, 3), (14, .lstore_n 2, 1), (15, .aload_n 1, 1), (16, .getfield 225, 3), (19, .ifCond .eq 25, 3), (22, .aload_n 1, 1), (23, .iconst 0, 1), (24, .putfield 225, 3), (27, .lload_n 2, 1), (28, .aload_n 0, 1), (29, .aload_n 1, 1), (30, .iconst 1, 1), (31, .invokevirtual 231, 3), (34, .lcmp, 1), (35, .ifCond .ge 7, 3), (38, .iconst 1, 1), (39, .goto 4, 3), (42, .iconst 0, 1), (43, .ireturn, 1), (44, .aload_n 1, 1), (45, .lload_n 2, 1), (46, .aload_n 0, 1), (47, .aload_n 1, 1), (48, .iconst 2, 1), (49, .invokevirtual 231, 3), (52, .lcmp, 1), (53, .ifCond .ge 7, 3), (56, .iconst 1, 1), (57, .goto 4, 3), (60, .iconst 0, 1), (61, .putfield 225, 3), (64, .iconst 0, 1), (65, .ireturn, 1)]
theorem TX11_fallsTonight_0 : Tab cX11_fallsTonight tX11_fallsTonight_0 = true := by decide +kernel
def tX11_closeOut_0 : Tb := [(0, .aload_n 0, 1), (1, .iload_n 1, 1), (2, .invokevirtual 96, 3), (5, .astore_n 2, 1), (6, .aload_n 2, 1), (7, .ifnonnull 4, 3), (10, .return_, 1), (11, .aload_n 2, 1), (12, .iconst 1, 1), (13, .putfield 228, 3), (16, .iconst 0, 1), (17, .istore_n 3, 1), (18, .iload_n 3, 1), (19, .bipush 6, 2), (21, .if_icmp .ge 103, 3), (24, .aload_n 2, 1), (25, .getfield 240, 3), (28, .iload_n 3, 1), (29, .iaload, 1), (30, .ifCond .le 7, 3), (33, .iconst 1, 1), (34, .goto 4, 3), (37, .iconst 0, 1), (38, .istore 4, 2), (40, .aload_n 2, 1), (41, .getfield 240, 3), (44, .iload_n 3, 1), (45, .iaload, 1), (46, .invokestatic 370, 3), (49, .istore 5, 2), (51, .aload_n 0, 1), (52, .iload_n 3, 1), (53, .invokevirtual 268, 3), (56, .istore 6, 2), (58, .iload_n 1, 1), (59, .istore 7, 2), (61, .iconst 0, 1), (62, .istore 8, 2), (64, .iload 8, 2), (66, .iload 5, 2)]
theorem TX11_closeOut_0 : Tab cX11_closeOut tX11_closeOut_0 = true := by decide +kernel
def tX11_closeOut_1 : Tb := [(68, .if_icmp .ge 50, 3), (71, .aload_n 0, 1), (72, .iload 7, 2), (74, .iload_n 3, 1), (75, .iload 4, 2), (77, .invokevirtual 401, 3), (80, .istore 7, 2), (82, .aload_n 0, 1), (83, .iload 4, 2), (85, .ifCond .eq 8, 3), (88, .iload 7, 2), (90, .goto 4, 3), (93, .iload_n 1, 1), (94, .iload 4, 2), (96, .ifCond .eq 7, 3), (99, .iload_n 1, 1), (100, .goto 5, 3), (103, .iload 7, 2), (105, .iload_n 3, 1), (106, .iconst 1, 1), (107, .iload 6, 2), (109, .invokevirtual 182, 3), (112, .iinc 8 1, 3), (115, .goto (-51), 3), (118, .iinc 3 1, 3), (121, .goto (-103), 3), (124, .return_, 1)]
theorem TX11_closeOut_1 : Tab cX11_closeOut tX11_closeOut_1 = true := by decide +kernel
def tX11_nextOpposite_0 : Tb := [(0, .aload_n 0, 1), (1, .getfield 33, 3), (4, .invokevirtual 85, 3), (7, .istore 4, 2), (9, .iload_n 1, 1), (10, .istore 5, 2), (12, .iconst 0, 1), (13, .istore 6, 2), (15, .iload 6, 2), (17, .iload 4, 2), (19, .if_icmp .ge 67, 3), (22, .iload 5, 2), (24, .iconst 1, 1), (25, .iadd, 1), (26, .iload 4, 2), (28, .if_icmp .ge 10, 3), (31, .iload 5, 2), (33, .iconst 1, 1), (34, .iadd, 1), (35, .goto 4, 3), (38, .iconst 0, 1), (39, .istore 5, 2), (41, .aload_n 0, 1), (42, .getfield 33, 3), (45, .iload 5, 2), (47, .invokevirtual 139, 3), (50, .checkcast 89, 3), (53, .getfield 240, 3), (56, .iload_n 2, 1), (57, .iaload, 1), (58, .istore 7, 2), (60, .iload_n 3, 1), (61, .ifCond .eq 11, 3), (64, .iload 7, 2), (66, .ifCond .ge 14, 3), (69, .goto 8, 3), (72, .iload 7, 2), (74, .ifCond .le 6, 3), (77, .iload 5, 2), (79, .ireturn, 1)]
theorem TX11_nextOpposite_0 : Tab cX11_nextOpposite tX11_nextOpposite_0 = true := by decide +kernel
def tX11_nextOpposite_1 : Tb := [(80, .iinc 6 1, 3), (83, .goto (-68), 3), (86, .iload_n 1, 1), (87, .ireturn, 1)]
theorem TX11_nextOpposite_1 : Tab cX11_nextOpposite tX11_nextOpposite_1 = true := by decide +kernel
def tX11_rememberMembers_0 : Tb := [(0, .iconst 0, 1), (1, .istore_n 2, 1), (2, .iload_n 2, 1), (3, .aload_n 0, 1), (4, .getfield 33, 3), (7, .invokevirtual 85, 3), (10, .if_icmp .ge 63, 3), (13, .iload_n 2, 1), (14, .aload_n 1, 1), (15, .getfield 348, 3), (18, .arraylength, 1), (19, .if_icmp .ge 54, 3), (22, .aload_n 0, 1), (23, .getfield 33, 3), (26, .iload_n 2, 1), (27, .invokevirtual 139, 3), (30, .checkcast 89, 3), (33, .astore_n 3, 1), (34, .aload_n 1, 1), (35, .getfield 348, 3), (38, .iload_n 2, 1), (39, .aload_n 3, 1), (40, .getfield 104, 3), (43, .aload_n 3, 1), (44, .getfield 367, 3), (47, .lsub, 1), (48, .lastore, 1), (49, .aload_n 3, 1), (50, .getfield 240, 3), (53, .iconst 0, 1), (54, .aload_n 1, 1), (55, .getfield 352, 3), (58, .iload_n 2, 1), (59, .bipush 6, 2), (61, .imul, 1), (62, .bipush 6, 2), (64, .invokestatic 405, 3), (67, .iinc 2 1, 3), (70, .goto (-68), 3), (73, .return_, 1)]
theorem TX11_rememberMembers_0 : Tab cX11_rememberMembers tX11_rememberMembers_0 = true := by decide +kernel
def tX11_freeReceiptsOf_0 : Tb := [(0, .iconst 0, 1), (1, .istore_n 2, 1), (2, .iconst 0, 1), (3, .istore_n 3, 1), (4, .iload_n 3, 1), (5, .aload_n 0, 1), (6, .getfield 40, 3), (9, .invokevirtual 85, 3), (12, .if_icmp .ge 47, 3), (15, .aload_n 0, 1), (16, .getfield 40, 3), (19, .iload_n 3, 1), (20, .invokevirtual 139, 3), (23, .checkcast 253, 3), (26, .astore 4, 2), (28, .iload_n 2, 1), (29, .aload 4, 2), (31, .getfield 262, 3), (34, .ifCond .eq 16, 3), (37, .aload 4, 2), (39, .getfield 265, 3), (42, .iload_n 1, 1), (43, .if_icmp .ne 7, 3), (46, .iconst 1, 1), (47, .goto 4, 3), (50, .iconst 0, 1), (51, .iadd, 1), (52, .istore_n 2, 1), (53, .iinc 3 1, 3), (56, .goto (-52), 3), (59, .iload_n 2, 1), (60, .ireturn, 1)]
theorem TX11_freeReceiptsOf_0 : Tab cX11_freeReceiptsOf tX11_freeReceiptsOf_0 = true := by decide +kernel
def tX11_receiptsBut_0 : Tb := [(0, .iconst 0, 1), (1, .istore_n 2, 1), (2, .iconst 0, 1), (3, .istore_n 3, 1), (4, .iload_n 3, 1), (5, .aload_n 0, 1), (6, .getfield 40, 3), (9, .invokevirtual 85, 3), (12, .if_icmp .ge 47, 3), (15, .aload_n 0, 1), (16, .getfield 40, 3), (19, .iload_n 3, 1), (20, .invokevirtual 139, 3), (23, .checkcast 253, 3), (26, .astore 4, 2), (28, .iload_n 2, 1), (29, .aload 4, 2), (31, .getfield 262, 3), (34, .ifCond .eq 16, 3), (37, .aload 4, 2), (39, .getfield 265, 3), (42, .iload_n 1, 1), (43, .if_icmp .eq 7, 3), (46, .iconst 1, 1), (47, .goto 4, 3), (50, .iconst 0, 1), (51, .iadd, 1), (52, .istore_n 2, 1), (53, .iinc 3 1, 3), (56, .goto (-52), 3), (59, .iload_n 2, 1), (60, .ireturn, 1)]
theorem TX11_receiptsBut_0 : Tab cX11_receiptsBut tX11_receiptsBut_0 = true := by decide +kernel
def tX11_heldOf_0 : Tb := [(0, .iconst 0, 1), (1, .istore_n 3, 1), (2, .iconst 0, 1), (3, .istore 4, 2), (5, .iload 4, 2), (7, .aload_n 0, 1), (8, .getfield 43, 3), (11, .invokevirtual 85, 3), (14, .if_icmp .ge 58, 3), (17, .aload_n 0, 1), (18, .getfield 43, 3), (21, .iload 4, 2), (23, .invokevirtual 139, 3), (26, .checkcast 278, 3), (29, .astore 5, 2), (31, .iload_n 3, 1), (32, .aload 5, 2), (34, .getfield 305, 3), (37, .iconst 1, 1), (38, .if_icmp .ne 25, 3), (41, .aload 5, 2), (43, .getfield 299, 3), (46, .iload_n 1, 1), (47, .if_icmp .ne 16, 3), (50, .aload 5, 2), (52, .getfield 292, 3), (55, .iload_n 2, 1), (56, .if_icmp .ne 7, 3), (59, .iconst 1, 1), (60, .goto 4, 3), (63, .iconst 0, 1), (64, .iadd, 1), (65, .istore_n 3, 1), (66, .iinc 4 1, 3), (69, .goto (-64), 3), (72, .iload_n 3, 1), (73, .ireturn, 1)]
theorem TX11_heldOf_0 : Tab cX11_heldOf tX11_heldOf_0 = true := by decide +kernel
def tX11_nextHolder_0 : Tb := [(0, .aload_n 0, 1), (1, .getfield 25, 3), (4, .aload_n 1, 1), (5, .getfield 292, 3), (8, .aaload, 1), (9, .getfield 244, 3), (12, .astore_n 2, 1), (13, .aload_n 0, 1), (14, .getfield 25, 3), (17, .aload_n 1, 1), (18, .getfield 292, 3), (21, .aaload, 1), (22, .aload_n 1, 1), (23, .getfield 289, 3), (26, .invokevirtual 411, 3), (29, .iconst 1, 1), (30, .iadd, 1), (31, .istore_n 3, 1), (32, .iload_n 3, 1), (33, .aload_n 2, 1), (34, .invokevirtual 85, 3), (37, .if_icmp .ge 34, 3), (40, .aload_n 2, 1), (41, .iload_n 3, 1), (42, .invokevirtual 139, 3), (45, .checkcast 115, 3), (48, .getfield 143, 3), (51, .istore 4, 2), (53, .aload_n 1, 1), (54, .iload 4, 2), (56, .invokevirtual 414, 3), (59, .ifCond .ne 6, 3), (62, .iload 4, 2), (64, .ireturn, 1), (65, .iinc 3 1, 3), (68, .goto (-36), 3), (71, .iconst (-1), 1), (72, .ireturn, 1)]
theorem TX11_nextHolder_0 : Tab cX11_nextHolder tX11_nextHolder_0 = true := by decide +kernel
def tX11_dueIn_0 : Tb := [(0, .iconst 0, 1), (1, .istore_n 2, 1), (2, .iconst 0, 1), (3, .istore_n 3, 1), (4, .iload_n 3, 1), (5, .aload_n 0, 1), (6, .getfield 33, 3), (9, .invokevirtual 85, 3), (12, .if_icmp .ge 33, 3), (15, .iload_n 2, 1), (16, .iconst 0, 1), (17, .aload_n 0, 1), (18, .getfield 33, 3), (21, .iload_n 3, 1), (22, .invokevirtual 139, 3), (25, .checkcast 89, 3), (28, .getfield 240, 3), (31, .iload_n 1, 1), (32, .iaload, 1), (33, .ineg, 1), (34, .invokestatic 375, 3), (37, .iadd, 1), (38, .istore_n 2, 1), (39, .iinc 3 1, 3), (42, .goto (-38), 3), (45, .iload_n 2, 1), (46, .ireturn, 1)]
theorem TX11_dueIn_0 : Tab cX11_dueIn tX11_dueIn_0 = true := by decide +kernel
def tX11_cornerOf_0 : Tb := [(0, .iconst (-1), 1), (1, .istore_n 2, 1), (2, .iconst 0, 1), (3, .istore_n 3, 1), (4, .iconst 0, 1), (5, .istore 4, 2), (7, .iload 4, 2), (9, .aload_n 0, 1), (10, .getfield 33, 3), (13, .invokevirtual 85, 3), (16, .if_icmp .ge 40, 3), (19, .aload_n 0, 1), (20, .getfield 33, 3), (23, .iload 4, 2), (25, .invokevirtual 139, 3), (28, .checkcast 89, 3), (31, .getfield 240, 3), (34, .iload_n 1, 1), (35, .iaload, 1), (36, .istore 5, 2), (38, .iload 5, 2), (40, .iload_n 3, 1), (41, .if_icmp .le 9, 3), (44, .iload 5, 2), (46, .istore_n 3, 1), (47, .iload 4, 2), (49, .istore_n 2, 1), (50, .iinc 4 1, 3), (53, .goto (-46), 3), (56, .iload_n 2, 1), (57, .ireturn, 1)]
theorem TX11_cornerOf_0 : Tab cX11_cornerOf tX11_cornerOf_0 = true := by decide +kernel
def tX11_isSqueezed_0 : Tb := [(0, .aload_n 0, 1), (1, .iload_n 1, 1), (2, .invokevirtual 320, 3), (5, .istore_n 2, 1), (6, .aload_n 0, 1), (7, .iload_n 2, 1), (8, .invokevirtual 96, 3), (11, .astore_n 3, 1), (12, .aload_n 0, 1), (13, .iload_n 1, 1), (14, .invokevirtual 317, 3), (17, .istore 4, 2), (19, .aload_n 3, 1), (20, .ifnull 30, 3), (23, .iload 4, 2), (25, .aload_n 0, 1), (26, .iload_n 2, 1), (27, .invokevirtual 323, 3), (30, .if_icmp .le 20, 3), (33, .iconst 2, 1), (34, .aload_n 3, 1), (35, .getfield 240, 3), (38, .iload_n 1, 1), (39, .iaload, 1), (40, .imul, 1), (41, .iload 4, 2), (43, .if_icmp .le 7, 3), (46, .iconst 1, 1), (47, .goto 4, 3), (50, .iconst 0, 1), (51, .ireturn, 1)]
theorem TX11_isSqueezed_0 : Tab cX11_isSqueezed tX11_isSqueezed_0 = true := by decide +kernel
def tX12_init_0 : Tb := [(0, .aload_n 0, 1), (1, .invokespecial 3, 3), (4, .aload_n 0, 1), (5, .sipush 600, 3), (8, .newarray .int, 2), (10, .putfield 9, 3), (13, .aload_n 0, 1), (14, .bipush 30, 2), (16, .newarray .int, 2), (18, .putfield 13, 3), (21, .aload_n 0, 1), (22, .bipush 30, 2), (24, .newarray .int, 2), (26, .putfield 16, 3), (29, .aload_n 0, 1), (30, .bipush 30, 2), (32, .newarray .int, 2), (34, .putfield 19, 3), (37, .aload_n 0, 1), (38, .sipush 1800, 3), (41, .newarray .int, 2), (43, .putfield 22, 3), (46, .aload_n 0, 1), (47, .sipush 1800, 3), (50, .newarray .int, 2), (52, .putfield 25, 3), (55, .aload_n 0, 1), (56, .bipush 12, 2), (58, .newarray .long, 2), (60, .putfield 28, 3), (63, .aload_n 0, 1), (64, .bipush 12, 2), (66, .newarray .boolean, 2), (68, .putfield 32, 3), (71, .aload_n 0, 1), (72, .bipush 12, 2), (74, .newarray .boolean, 2), (76, .putfield 36, 3), (79, .aload_n 0, 1), (80, .bipush 72, 2)]
theorem TX12_init_0 : Tab cX12_init tX12_init_0 = true := by decide +kernel
def tX12_init_1 : Tb := [(82, .newarray .int, 2), (84, .putfield 39, 3), (87, .aload_n 0, 1), (88, .bipush 72, 2), (90, .newarray .long, 2), (92, .putfield 42, 3), (95, .aload_n 0, 1), (96, .sipush 9600, 3), (99, .newarray .int, 2), (101, .putfield 45, 3), (104, .aload_n 0, 1), (105, .sipush 9600, 3), (108, .newarray .int, 2), (110, .putfield 48, 3), (113, .aload_n 0, 1), (114, .bipush 6, 2), (116, .newarray .int, 2), (118, .putfield 51, 3), (121, .aload_n 0, 1), (122, .bipush 6, 2), (124, .newarray .boolean, 2), (126, .putfield 54, 3), (129, .aload_n 0, 1), (130, .sipush 600, 3), (133, .newarray .int, 2), (135, .putfield 57, 3), (138, .aload_n 0, 1), (139, .sipush 4900, 3), (142, .newarray .int, 2), (144, .putfield 60, 3), (147, .aload_n 0, 1), (148, .sipush 906, 3), (151, .newarray .int, 2), (153, .putfield 63, 3), (156, .aload_n 0, 1), (157, .sipush 1812, 3), (160, .newarray .long, 2), (162, .putfield 66, 3), (165, .aload_n 0, 1), (166, .sipush 10872, 3)]
theorem TX12_init_1 : Tab cX12_init tX12_init_1 = true := by decide +kernel
def tX12_init_2 : Tb := [(169, .newarray .int, 2), (171, .putfield 69, 3), (174, .aload_n 0, 1), (175, .sipush 10872, 3), (178, .newarray .long, 2), (180, .putfield 72, 3), (183, .aload_n 0, 1), (184, .sipush 400, 3), (187, .newarray .int, 2), (189, .putfield 75, 3), (192, .aload_n 0, 1), (193, .sipush 240, 3), (196, .newarray .int, 2), (198, .putfield 78, 3), (201, .aload_n 0, 1), (202, .sipush 560, 3), (205, .newarray .int, 2), (207, .putfield 81, 3), (210, .aload_n 0, 1), (211, .bipush 6, 2), (213, .newarray .int, 2), (215, .putfield 84, 3), (218, .aload_n 0, 1), (219, .bipush 6, 2), (221, .newarray .int, 2), (223, .putfield 87, 3), (226, .return_, 1)]
theorem TX12_init_2 : Tab cX12_init tX12_init_2 = true := by decide +kernel
def tX12_thrown_0 : Tb := [(0, .aload_n 0, 1), (1, .getfield 90, 3), (4, .ireturn, 1)]
theorem TX12_thrown_0 : Tab cX12_thrown tX12_thrown_0 = true := by decide +kernel
def tX12_in_0 : Tb := [(0, .lload_n 0, 1), (1, .lload_n 2, 1), (2, .lcmp, 1), (3, .ifCond .lt 14, 3), (6, .lload_n 0, 1), (7, .lload 4, 2), (9, .lcmp, 1), (10, .ifCond .gt 7, 3), (13, .iconst 1, 1), (14, .goto 4, 3), (17, .iconst 0, 1), (18, .ireturn, 1)]
theorem TX12_in_0 : Tab cX12_in tX12_in_0 = true := by decide +kernel
def tX12_isMember_0 : Tb := [(0, .iload_n 1, 1), (1, .i2l, 1), (2, .lconst 0, 1), (3, .aload_n 0, 1), (4, .getfield 94, 3), (7, .iconst 1, 1), (8, .isub, 1), (9, .i2l, 1), (10, .invokestatic 97, 3), (13, .ireturn, 1)]
theorem TX12_isMember_0 : Tab cX12_isMember tX12_isMember_0 = true := by decide +kernel
def tX12_isMonth_0 : Tb := [(0, .iload_n 0, 1), (1, .i2l, 1), (2, .lconst 0, 1), (3, .ldc2_w 101, 3), (6, .invokestatic 97, 3), (9, .ireturn, 1)]
theorem TX12_isMonth_0 : Tab cX12_isMonth tX12_isMonth_0 = true := by decide +kernel
def tX12_lay_0 : Tb := [(0, .bipush 24, 2), (2, .istore_n 2, 1), (3, .iload_n 2, 1), (4, .ifCond .lt 35, 3), (7, .aload_n 0, 1), (8, .getfield 9, 3), (11, .aload_n 0, 1), (12, .getfield 103, 3), (15, .iload_n 1, 1), (16, .iload_n 2, 1), (17, .ishr, 1), (18, .sipush 255, 3), (21, .iand, 1), (22, .iastore, 1), (23, .aload_n 0, 1), (24, .dup, 1), (25, .getfield 103, 3), (28, .iconst 1, 1), (29, .iadd, 1), (30, .putfield 103, 3), (33, .iinc 2 (-8), 3), (36, .goto (-33), 3), (39, .return_, 1)]
theorem TX12_lay_0 : Tab cX12_lay tX12_lay_0 = true := by decide +kernel
def tX12_feed_0 : Tb := [(0, .aload_n 0, 1), (1, .iconst 0, 1), (2, .putfield 90, 3), (5, .aload_n 0, 1), (6, .getfield 103, 3), (9, .bipush 20, 2), (11, .iadd, 1), (12, .sipush 600, 3), (15, .if_icmp .le 5, 3), (18, .iconst (-1), 1), (19, .ireturn, 1), (20, .aload_n 0, 1), (21, .iload_n 1, 1), (22, .invokevirtual 106, 3), (25, .aload_n 0, 1), (26, .iload_n 2, 1), (27, .invokevirtual 106, 3), (30, .aload_n 0, 1), (31, .iload_n 3, 1), (32, .invokevirtual 106, 3), (35, .aload_n 0, 1), (36, .iload 4, 2), (38, .invokevirtual 106, 3), (41, .aload_n 0, 1), (42, .iload 5, 2), (44, .invokevirtual 106, 3), (47, .aload_n 0, 1), (48, .getfield 103, 3), (51, .ireturn, 1)]
theorem TX12_feed_0 : Tab cX12_feed tX12_feed_0 = true := by decide +kernel
def tX12_end_0 : Tb := [(0, .aload_n 0, 1), (1, .iconst 0, 1), (2, .putfield 90, 3), (5, .iload_n 1, 1), (6, .ifCond .lt 11, 3), (9, .iload_n 1, 1), (10, .aload_n 0, 1), (11, .getfield 103, 3), (14, .if_icmp .le 5, 3), (17, .iconst 0, 1), (18, .ireturn, 1), (19, .aload_n 0, 1), (20, .iload_n 1, 1), (21, .putfield 103, 3), (24, .iconst 1, 1), (25, .ireturn, 1)]
theorem TX12_end_0 : Tab cX12_end tX12_end_0 = true := by decide +kernel
def tX12_isLetter_0 : Tb := [(0, .iload_n 0, 1), (1, .bipush 97, 2), (3, .if_icmp .lt 13, 3), (6, .iload_n 0, 1), (7, .bipush 122, 2), (9, .if_icmp .gt 7, 3), (12, .iconst 1, 1), (13, .goto 4, 3), (16, .iconst 0, 1), (17, .ireturn, 1)]
theorem TX12_isLetter_0 : Tab cX12_isLetter tX12_isLetter_0 = true := by decide +kernel
def tX12_isDigit_0 : Tb := [(0, .iload_n 0, 1), (1, .bipush 48, 2), (3, .if_icmp .lt 13, 3), (6, .iload_n 0, 1), (7, .bipush 57, 2), (9, .if_icmp .gt 7, 3), (12, .iconst 1, 1), (13, .goto 4, 3), (16, .iconst 0, 1), (17, .ireturn, 1)]
theorem TX12_isDigit_0 : Tab cX12_isDigit tX12_isDigit_0 = true := by decide +kernel
def tX12_wordAt_0 : Tb := [(0, .iconst 0, 1), (1, .istore_n 3, 1), (2, .iconst 0, 1), (3, .istore 4, 2), (5, .iload 4, 2), (7, .ldc 110, 2), (9, .invokevirtual 112, 3), (12, .if_icmp .ge 102, 3), (15, .ldc 110, 2), (17, .bipush 32, 2), (19, .iload 4, 2), (21, .invokevirtual 118, 3), (24, .istore 5, 2), (26, .iload 5, 2), (28, .iload 4, 2), (30, .isub, 1), (31, .iload_n 2, 1), (32, .iload_n 1, 1), (33, .isub, 1), (34, .if_icmp .ne 7, 3), (37, .iconst 1, 1), (38, .goto 4, 3), (41, .iconst 0, 1), (42, .istore 6, 2), (44, .iconst 0, 1), (45, .istore 7, 2), (47, .iload 6, 2), (49, .ifCond .eq 46, 3), (52, .iload 7, 2), (54, .iload_n 2, 1), (55, .iload_n 1, 1), (56, .isub, 1), (57, .if_icmp .ge 38, 3), (60, .ldc 110, 2), (62, .iload 4, 2), (64, .iload 7, 2), (66, .iadd, 1), (67, .invokevirtual 122, 3), (70, .aload_n 0, 1), (71, .getfield 9, 3)]
theorem TX12_wordAt_0 : Tab cX12_wordAt tX12_wordAt_0 = true := by decide +kernel
def tX12_wordAt_1 : Tb := [(74, .iload_n 1, 1), (75, .iload 7, 2), (77, .iadd, 1), (78, .iaload, 1), (79, .if_icmp .ne 7, 3), (82, .iconst 1, 1), (83, .goto 4, 3), (86, .iconst 0, 1), (87, .istore 6, 2), (89, .iinc 7 1, 3), (92, .goto (-45), 3), (95, .iload 6, 2), (97, .ifCond .eq 5, 3), (100, .iload_n 3, 1), (101, .ireturn, 1), (102, .iinc 3 1, 3), (105, .iload 5, 2), (107, .iconst 1, 1), (108, .iadd, 1), (109, .istore 4, 2), (111, .goto (-106), 3), (114, .iconst (-1), 1), (115, .ireturn, 1)]
theorem TX12_wordAt_1 : Tab cX12_wordAt tX12_wordAt_1 = true := by decide +kernel
def tX12_next_0 : Tb := [(0, .aload_n 0, 1), (1, .aload_n 0, 1), (2, .getfield 126, 3), (5, .putfield 129, 3), (8, .aload_n 0, 1), (9, .getfield 129, 3), (12, .aload_n 0, 1), (13, .getfield 132, 3), (16, .if_icmp .ge 44, 3), (19, .aload_n 0, 1), (20, .getfield 9, 3), (23, .aload_n 0, 1), (24, .getfield 129, 3), (27, .iaload, 1), (28, .bipush 32, 2), (30, .if_icmp .eq 17, 3), (33, .aload_n 0, 1), (34, .getfield 9, 3), (37, .aload_n 0, 1), (38, .getfield 129, 3), (41, .iaload, 1), (42, .bipush 10, 2), (44, .if_icmp .ne 16, 3), (47, .aload_n 0, 1), (48, .dup, 1), (49, .getfield 129, 3), (52, .iconst 1, 1), (53, .iadd, 1), (54, .putfield 129, 3), (57, .goto (-49), 3), (60, .aload_n 0, 1), (61, .aload_n 0, 1), (62, .getfield 129, 3), (65, .putfield 126, 3), (68, .aload_n 0, 1), (69, .getfield 129, 3), (72, .aload_n 0, 1), (73, .getfield 132, 3), (76, .if_icmp .ne 9, 3), (79, .aload_n 0, 1)]
theorem TX12_next_0 : Tab cX12_next tX12_next_0 = true := by decide +kernel
def tX12_next_1 : Tb := [(80, .iconst 0, 1), (81, .putfield 134, 3), (84, .return_, 1), (85, .aload_n 0, 1), (86, .getfield 9, 3), (89, .aload_n 0, 1), (90, .getfield 129, 3), (93, .iaload, 1), (94, .istore_n 1, 1), (95, .iload_n 1, 1), (96, .invokestatic 137, 3), (99, .ifCond .eq 78, 3), (102, .aload_n 0, 1), (103, .getfield 126, 3), (106, .aload_n 0, 1), (107, .getfield 132, 3), (110, .if_icmp .ge 31, 3), (113, .aload_n 0, 1), (114, .getfield 9, 3), (117, .aload_n 0, 1), (118, .getfield 126, 3), (121, .iaload, 1), (122, .invokestatic 137, 3), (125, .ifCond .eq 16, 3), (128, .aload_n 0, 1), (129, .dup, 1), (130, .getfield 126, 3), (133, .iconst 1, 1), (134, .iadd, 1), (135, .putfield 126, 3), (138, .goto (-36), 3), (141, .aload_n 0, 1), (142, .aload_n 0, 1), (143, .aload_n 0, 1), (144, .getfield 129, 3), (147, .aload_n 0, 1), (148, .getfield 126, 3), (151, .invokevirtual 141, 3), (154, .putfield 144, 3), (157, .aload_n 0, 1)]
theorem TX12_next_1 : Tab cX12_next tX12_next_1 = true := by decide +kernel
def tX12_next_2 : Tb := [(158, .aload_n 0, 1), (159, .getfield 144, 3), (162, .iconst (-1), 1), (163, .if_icmp .ne 7, 3), (166, .iconst 4, 1), (167, .goto 4, 3), (170, .iconst 2, 1), (171, .putfield 134, 3), (174, .goto 148, 3), (177, .iload_n 1, 1), (178, .invokestatic 147, 3), (181, .ifCond .eq 108, 3), (184, .aload_n 0, 1), (185, .iconst 0, 1), (186, .putfield 144, 3), (189, .aload_n 0, 1), (190, .getfield 126, 3), (193, .aload_n 0, 1), (194, .getfield 132, 3), (197, .if_icmp .ge 71, 3), (200, .aload_n 0, 1), (201, .getfield 9, 3), (204, .aload_n 0, 1), (205, .getfield 126, 3), (208, .iaload, 1), (209, .invokestatic 147, 3), (212, .ifCond .eq 56, 3), (215, .aload_n 0, 1), (216, .aload_n 0, 1), (217, .getfield 144, 3), (220, .ldc 150, 2), (222, .if_icmp .le 10, 3), (225, .aload_n 0, 1), (226, .getfield 144, 3), (229, .goto 23, 3), (232, .bipush 10, 2), (234, .aload_n 0, 1), (235, .getfield 144, 3), (238, .imul, 1), (239, .aload_n 0, 1)]
theorem TX12_next_2 : Tab cX12_next tX12_next_2 = true := by decide +kernel
def tX12_next_3 : Tb := [(240, .getfield 9, 3), (243, .aload_n 0, 1), (244, .getfield 126, 3), (247, .iaload, 1), (248, .iadd, 1), (249, .bipush 48, 2), (251, .isub, 1), (252, .putfield 144, 3), (255, .aload_n 0, 1), (256, .dup, 1), (257, .getfield 126, 3), (260, .iconst 1, 1), (261, .iadd, 1), (262, .putfield 126, 3), (265, .goto (-76), 3), (268, .aload_n 0, 1), (269, .aload_n 0, 1), (270, .getfield 144, 3), (273, .ldc 150, 2), (275, .if_icmp .le 7, 3), (278, .iconst 4, 1), (279, .goto 4, 3), (282, .iconst 1, 1), (283, .putfield 134, 3), (286, .goto 36, 3), (289, .aload_n 0, 1), (290, .dup, 1), (291, .getfield 126, 3), (294, .iconst 1, 1), (295, .iadd, 1), (296, .putfield 126, 3), (299, .aload_n 0, 1), (300, .iload_n 1, 1), (301, .putfield 144, 3), (304, .aload_n 0, 1), (305, .ldc 151, 2), (307, .iload_n 1, 1), (308, .invokevirtual 153, 3), (311, .ifCond .lt 7, 3), (314, .iconst 3, 1)]
theorem TX12_next_3 : Tab cX12_next tX12_next_3 = true := by decide +kernel
def tX12_next_4 : Tb := [(315, .goto 4, 3), (318, .iconst 4, 1), (319, .putfield 134, 3), (322, .return_, 1)]
theorem TX12_next_4 : Tab cX12_next tX12_next_4 = true := by decide +kernel
def tX12_fails_0 : Tb := [(0, .aload_n 0, 1), (1, .getfield 156, 3), (4, .ifCond .ne 28, 3), (7, .aload_n 0, 1), (8, .aload_n 0, 1), (9, .getfield 134, 3), (12, .iconst 4, 1), (13, .if_icmp .ne 7, 3), (16, .iconst 1, 1), (17, .goto 4, 3), (20, .iload_n 1, 1), (21, .putfield 156, 3), (24, .aload_n 0, 1), (25, .aload_n 0, 1), (26, .getfield 129, 3), (29, .putfield 159, 3), (32, .iconst 0, 1), (33, .ireturn, 1)]
theorem TX12_fails_0 : Tab cX12_fails tX12_fails_0 = true := by decide +kernel
def tX12_isSign_0 : Tb := [(0, .aload_n 0, 1), (1, .getfield 134, 3), (4, .iconst 3, 1), (5, .if_icmp .ne 15, 3), (8, .aload_n 0, 1), (9, .getfield 144, 3), (12, .iload_n 1, 1), (13, .if_icmp .ne 7, 3), (16, .iconst 1, 1), (17, .goto 4, 3), (20, .iconst 0, 1), (21, .ireturn, 1)]
theorem TX12_isSign_0 : Tab cX12_isSign tX12_isSign_0 = true := by decide +kernel
def tX12_take_0 : Tb := [(0, .aload_n 0, 1), (1, .getfield 162, 3), (4, .bipush 60, 2), (6, .if_icmp .ne 9, 3), (9, .aload_n 0, 1), (10, .iconst 4, 1), (11, .invokevirtual 165, 3), (14, .ireturn, 1), (15, .aload_n 0, 1), (16, .getfield 22, 3), (19, .bipush 60, 2), (21, .aload_n 0, 1), (22, .getfield 168, 3), (25, .imul, 1), (26, .aload_n 0, 1), (27, .getfield 162, 3), (30, .iadd, 1), (31, .aload_n 0, 1), (32, .getfield 134, 3), (35, .iastore, 1), (36, .aload_n 0, 1), (37, .getfield 25, 3), (40, .bipush 60, 2), (42, .aload_n 0, 1), (43, .getfield 168, 3), (46, .imul, 1), (47, .aload_n 0, 1), (48, .getfield 162, 3), (51, .iadd, 1), (52, .aload_n 0, 1), (53, .getfield 144, 3), (56, .iastore, 1), (57, .aload_n 0, 1), (58, .dup, 1), (59, .getfield 162, 3), (62, .iconst 1, 1), (63, .iadd, 1), (64, .putfield 162, 3), (67, .aload_n 0, 1), (68, .invokevirtual 171, 3)]
theorem TX12_take_0 : Tab cX12_take tX12_take_0 = true := by decide +kernel
def tX12_take_1 : Tb := [(71, .iconst 1, 1), (72, .ireturn, 1)]
theorem TX12_take_1 : Tab cX12_take tX12_take_1 = true := by decide +kernel
def tX12_takeSign_0 : Tb := [(0, .aload_n 0, 1), (1, .iload_n 1, 1), (2, .invokevirtual 174, 3), (5, .ifCond .eq 10, 3), (8, .aload_n 0, 1), (9, .invokevirtual 177, 3), (12, .goto 8, 3), (15, .aload_n 0, 1), (16, .iconst 2, 1), (17, .invokevirtual 165, 3), (20, .ireturn, 1)]
theorem TX12_takeSign_0 : Tab cX12_takeSign tX12_takeSign_0 = true := by decide +kernel
def tX12_opens_0 : Tb := [(0, .aload_n 0, 1), (1, .getfield 181, 3), (4, .bipush 12, 2), (6, .if_icmp .ne 9, 3), (9, .aload_n 0, 1), (10, .iconst 3, 1), (11, .invokevirtual 165, 3), (14, .ireturn, 1), (15, .aload_n 0, 1), (16, .dup, 1), (17, .getfield 181, 3), (20, .iconst 1, 1), (21, .iadd, 1), (22, .putfield 181, 3), (25, .aload_n 0, 1), (26, .invokevirtual 177, 3), (29, .ireturn, 1)]
theorem TX12_opens_0 : Tab cX12_opens tX12_opens_0 = true := by decide +kernel
def tX12_readExpr_0 : Tb := [(0, .aload_n 0, 1), (1, .invokevirtual 184, 3), (4, .ifCond .ne 5, 3), (7, .iconst 0, 1), (8, .ireturn, 1), (9, .aload_n 0, 1), (10, .bipush 60, 2), (12, .invokevirtual 174, 3), (15, .ifCond .ne 21, 3), (18, .aload_n 0, 1), (19, .bipush 62, 2), (21, .invokevirtual 174, 3), (24, .ifCond .ne 12, 3), (27, .aload_n 0, 1), (28, .bipush 61, 2), (30, .invokevirtual 174, 3), (33, .ifCond .eq 19, 3), (36, .aload_n 0, 1), (37, .invokevirtual 177, 3), (40, .ifCond .eq 10, 3), (43, .aload_n 0, 1), (44, .invokevirtual 184, 3), (47, .ifCond .ne 5, 3), (50, .iconst 0, 1), (51, .ireturn, 1), (52, .aload_n 0, 1), (53, .bipush 63, 2), (55, .invokevirtual 174, 3), (58, .ifCond .ne 5, 3), (61, .iconst 1, 1), (62, .ireturn, 1), (63, .aload_n 0, 1), (64, .invokevirtual 187, 3), (67, .ifCond .eq 26, 3), (70, .aload_n 0, 1), (71, .invokevirtual 190, 3), (74, .ifCond .eq 19, 3), (77, .aload_n 0, 1), (78, .bipush 58, 2), (80, .invokevirtual 193, 3)]
theorem TX12_readExpr_0 : Tab cX12_readExpr tX12_readExpr_0 = true := by decide +kernel
def tX12_readExpr_1 : Tb := [(83, .ifCond .eq 10, 3), (86, .aload_n 0, 1), (87, .invokevirtual 190, 3), (90, .ifCond .ne 5, 3), (93, .iconst 0, 1), (94, .ireturn, 1), (95, .aload_n 0, 1), (96, .dup, 1), (97, .getfield 181, 3), (100, .iconst 1, 1), (101, .isub, 1), (102, .putfield 181, 3), (105, .iconst 1, 1), (106, .ireturn, 1)]
theorem TX12_readExpr_1 : Tab cX12_readExpr tX12_readExpr_1 = true := by decide +kernel
def tX12_readSum_0 : Tb := [(0, .aload_n 0, 1), (1, .invokevirtual 196, 3), (4, .ifCond .ne 5, 3), (7, .iconst 0, 1), (8, .ireturn, 1), (9, .aload_n 0, 1), (10, .bipush 43, 2), (12, .invokevirtual 174, 3), (15, .ifCond .ne 12, 3), (18, .aload_n 0, 1), (19, .bipush 45, 2), (21, .invokevirtual 174, 3), (24, .ifCond .eq 19, 3), (27, .aload_n 0, 1), (28, .invokevirtual 177, 3), (31, .ifCond .eq 10, 3), (34, .aload_n 0, 1), (35, .invokevirtual 196, 3), (38, .ifCond .ne (-29), 3), (41, .iconst 0, 1), (42, .ireturn, 1), (43, .iconst 1, 1), (44, .ireturn, 1)]
theorem TX12_readSum_0 : Tab cX12_readSum tX12_readSum_0 = true := by decide +kernel
def tX12_readPart_0 : Tb := [(0, .aload_n 0, 1), (1, .invokevirtual 199, 3), (4, .ifCond .ne 5, 3), (7, .iconst 0, 1), (8, .ireturn, 1), (9, .aload_n 0, 1), (10, .bipush 42, 2), (12, .invokevirtual 174, 3), (15, .ifCond .ne 12, 3), (18, .aload_n 0, 1), (19, .bipush 47, 2), (21, .invokevirtual 174, 3), (24, .ifCond .eq 19, 3), (27, .aload_n 0, 1), (28, .invokevirtual 177, 3), (31, .ifCond .eq 10, 3), (34, .aload_n 0, 1), (35, .invokevirtual 199, 3), (38, .ifCond .ne (-29), 3), (41, .iconst 0, 1), (42, .ireturn, 1), (43, .iconst 1, 1), (44, .ireturn, 1)]
theorem TX12_readPart_0 : Tab cX12_readPart tX12_readPart_0 = true := by decide +kernel
def tX12_readFactor_0 : Tb := [(0, .aload_n 0, 1), (1, .getfield 134, 3), (4, .iconst 1, 1), (5, .if_icmp .eq 20, 3), (8, .aload_n 0, 1), (9, .getfield 134, 3), (12, .iconst 2, 1), (13, .if_icmp .ne 17, 3), (16, .aload_n 0, 1), (17, .getfield 144, 3), (20, .bipush 10, 2), (22, .if_icmp .lt 8, 3), (25, .aload_n 0, 1), (26, .invokevirtual 177, 3), (29, .ireturn, 1), (30, .aload_n 0, 1), (31, .bipush 45, 2), (33, .invokevirtual 174, 3), (36, .ifCond .eq 31, 3), (39, .aload_n 0, 1), (40, .invokevirtual 187, 3), (43, .ifCond .eq 10, 3), (46, .aload_n 0, 1), (47, .invokevirtual 199, 3), (50, .ifCond .ne 5, 3), (53, .iconst 0, 1), (54, .ireturn, 1), (55, .aload_n 0, 1), (56, .dup, 1), (57, .getfield 181, 3), (60, .iconst 1, 1), (61, .isub, 1), (62, .putfield 181, 3), (65, .iconst 1, 1), (66, .ireturn, 1), (67, .aload_n 0, 1), (68, .getfield 134, 3), (71, .iconst 2, 1), (72, .if_icmp .ne 25, 3), (75, .aload_n 0, 1)]
theorem TX12_readFactor_0 : Tab cX12_readFactor tX12_readFactor_0 = true := by decide +kernel
def tX12_readFactor_1 : Tb := [(76, .getfield 144, 3), (79, .bipush 8, 2), (81, .if_icmp .eq 12, 3), (84, .aload_n 0, 1), (85, .getfield 144, 3), (88, .bipush 9, 2), (90, .if_icmp .ne 7, 3), (93, .iconst 1, 1), (94, .goto 4, 3), (97, .iconst 0, 1), (98, .istore_n 1, 1), (99, .iload_n 1, 1), (100, .ifCond .eq 12, 3), (103, .aload_n 0, 1), (104, .invokevirtual 177, 3), (107, .ifCond .ne 5, 3), (110, .iconst 0, 1), (111, .ireturn, 1), (112, .aload_n 0, 1), (113, .bipush 40, 2), (115, .invokevirtual 174, 3), (118, .ifCond .ne 9, 3), (121, .aload_n 0, 1), (122, .iconst 2, 1), (123, .invokevirtual 165, 3), (126, .ireturn, 1), (127, .aload_n 0, 1), (128, .invokevirtual 187, 3), (131, .ifCond .eq 10, 3), (134, .aload_n 0, 1), (135, .invokevirtual 190, 3), (138, .ifCond .ne 5, 3), (141, .iconst 0, 1), (142, .ireturn, 1), (143, .iload_n 1, 1), (144, .ifCond .eq 21, 3), (147, .aload_n 0, 1), (148, .bipush 44, 2), (150, .invokevirtual 193, 3), (153, .ifCond .eq 10, 3)]
theorem TX12_readFactor_1 : Tab cX12_readFactor tX12_readFactor_1 = true := by decide +kernel
def tX12_readFactor_2 : Tb := [(156, .aload_n 0, 1), (157, .invokevirtual 190, 3), (160, .ifCond .ne 5, 3), (163, .iconst 0, 1), (164, .ireturn, 1), (165, .aload_n 0, 1), (166, .bipush 41, 2), (168, .invokevirtual 193, 3), (171, .ifCond .ne 5, 3), (174, .iconst 0, 1), (175, .ireturn, 1), (176, .aload_n 0, 1), (177, .dup, 1), (178, .getfield 181, 3), (181, .iconst 1, 1), (182, .isub, 1), (183, .putfield 181, 3), (186, .iconst 1, 1), (187, .ireturn, 1)]
theorem TX12_readFactor_2 : Tab cX12_readFactor tX12_readFactor_2 = true := by decide +kernel
def tX12_readRule_0 : Tb := [(0, .aload_n 0, 1), (1, .getfield 134, 3), (4, .iconst 2, 1), (5, .if_icmp .ne 12, 3), (8, .aload_n 0, 1), (9, .getfield 144, 3), (12, .bipush 6, 2), (14, .if_icmp .lt 9, 3), (17, .aload_n 0, 1), (18, .iconst 2, 1), (19, .invokevirtual 165, 3), (22, .ireturn, 1), (23, .aload_n 0, 1), (24, .getfield 168, 3), (27, .bipush 30, 2), (29, .if_icmp .ne 9, 3), (32, .aload_n 0, 1), (33, .iconst 4, 1), (34, .invokevirtual 165, 3), (37, .ireturn, 1), (38, .aload_n 0, 1), (39, .getfield 13, 3), (42, .aload_n 0, 1), (43, .getfield 168, 3), (46, .aload_n 0, 1), (47, .getfield 144, 3), (50, .iastore, 1), (51, .aload_n 0, 1), (52, .invokevirtual 171, 3), (55, .aload_n 0, 1), (56, .getfield 134, 3), (59, .iconst 2, 1), (60, .if_icmp .ne 12, 3), (63, .aload_n 0, 1), (64, .getfield 144, 3), (67, .bipush 6, 2), (69, .if_icmp .eq 9, 3), (72, .aload_n 0, 1), (73, .iconst 2, 1), (74, .invokevirtual 165, 3)]
theorem TX12_readRule_0 : Tab cX12_readRule tX12_readRule_0 = true := by decide +kernel
def tX12_readRule_1 : Tb := [(77, .ireturn, 1), (78, .aload_n 0, 1), (79, .invokevirtual 171, 3), (82, .aload_n 0, 1), (83, .getfield 134, 3), (86, .iconst 1, 1), (87, .if_icmp .ne 13, 3), (90, .aload_n 0, 1), (91, .getfield 144, 3), (94, .sipush 150, 3), (97, .if_icmp .le 9, 3), (100, .aload_n 0, 1), (101, .iconst 2, 1), (102, .invokevirtual 165, 3), (105, .ireturn, 1), (106, .aload_n 0, 1), (107, .getfield 16, 3), (110, .aload_n 0, 1), (111, .getfield 168, 3), (114, .aload_n 0, 1), (115, .getfield 144, 3), (118, .iastore, 1), (119, .aload_n 0, 1), (120, .invokevirtual 171, 3), (123, .aload_n 0, 1), (124, .getfield 134, 3), (127, .iconst 2, 1), (128, .if_icmp .ne 12, 3), (131, .aload_n 0, 1), (132, .getfield 144, 3), (135, .bipush 7, 2), (137, .if_icmp .eq 9, 3), (140, .aload_n 0, 1), (141, .iconst 2, 1), (142, .invokevirtual 165, 3), (145, .ireturn, 1), (146, .aload_n 0, 1), (147, .invokevirtual 171, 3), (150, .aload_n 0, 1), (151, .iconst 0, 1)]
theorem TX12_readRule_1 : Tab cX12_readRule tX12_readRule_1 = true := by decide +kernel
def tX12_readRule_2 : Tb := [(152, .putfield 162, 3), (155, .aload_n 0, 1), (156, .iconst 0, 1), (157, .putfield 181, 3), (160, .aload_n 0, 1), (161, .invokevirtual 190, 3), (164, .ifCond .ne 5, 3), (167, .iconst 0, 1), (168, .ireturn, 1), (169, .aload_n 0, 1), (170, .getfield 19, 3), (173, .aload_n 0, 1), (174, .getfield 168, 3), (177, .aload_n 0, 1), (178, .getfield 162, 3), (181, .iastore, 1), (182, .aload_n 0, 1), (183, .bipush 59, 2), (185, .invokevirtual 174, 3), (188, .ifCond .ne 9, 3), (191, .aload_n 0, 1), (192, .iconst 2, 1), (193, .invokevirtual 165, 3), (196, .ireturn, 1), (197, .aload_n 0, 1), (198, .invokevirtual 171, 3), (201, .aload_n 0, 1), (202, .dup, 1), (203, .getfield 168, 3), (206, .iconst 1, 1), (207, .iadd, 1), (208, .putfield 168, 3), (211, .iconst 1, 1), (212, .ireturn, 1)]
theorem TX12_readRule_2 : Tab cX12_readRule tX12_readRule_2 = true := by decide +kernel
def tX12_rules_0 : Tb := [(0, .aload_n 0, 1), (1, .iconst 0, 1), (2, .putfield 90, 3), (5, .aload_n 0, 1), (6, .aload_n 0, 1), (7, .getfield 103, 3), (10, .putfield 132, 3), (13, .aload_n 0, 1), (14, .iconst 0, 1), (15, .putfield 103, 3), (18, .aload_n 0, 1), (19, .iconst 0, 1), (20, .putfield 156, 3), (23, .aload_n 0, 1), (24, .iconst 0, 1), (25, .putfield 159, 3), (28, .aload_n 0, 1), (29, .iconst 0, 1), (30, .putfield 126, 3), (33, .aload_n 0, 1), (34, .invokevirtual 171, 3), (37, .aload_n 0, 1), (38, .aload_n 0, 1), (39, .getfield 202, 3), (42, .putfield 168, 3), (45, .iconst 1, 1), (46, .istore_n 1, 1), (47, .iload_n 1, 1), (48, .ifCond .eq 18, 3), (51, .aload_n 0, 1), (52, .getfield 134, 3), (55, .ifCond .eq 11, 3), (58, .aload_n 0, 1), (59, .invokevirtual 205, 3), (62, .istore_n 1, 1), (63, .goto (-16), 3), (66, .iload_n 1, 1), (67, .ifCond .ne 5, 3), (70, .iconst (-1), 1), (71, .ireturn, 1)]
theorem TX12_rules_0 : Tab cX12_rules tX12_rules_0 = true := by decide +kernel
def tX12_rules_1 : Tb := [(72, .aload_n 0, 1), (73, .getfield 168, 3), (76, .aload_n 0, 1), (77, .getfield 202, 3), (80, .isub, 1), (81, .istore_n 2, 1), (82, .aload_n 0, 1), (83, .aload_n 0, 1), (84, .getfield 168, 3), (87, .putfield 202, 3), (90, .iload_n 2, 1), (91, .ireturn, 1)]
theorem TX12_rules_1 : Tab cX12_rules tX12_rules_1 = true := by decide +kernel
def tX12_fault_0 : Tb := [(0, .aload_n 0, 1), (1, .iconst 0, 1), (2, .putfield 90, 3), (5, .iload_n 1, 1), (6, .ifCond .ne 10, 3), (9, .aload_n 0, 1), (10, .getfield 156, 3), (13, .goto 16, 3), (16, .iload_n 1, 1), (17, .iconst 1, 1), (18, .if_icmp .ne 10, 3), (21, .aload_n 0, 1), (22, .getfield 159, 3), (25, .goto 4, 3), (28, .iconst (-1), 1), (29, .ireturn, 1)]
theorem TX12_fault_0 : Tab cX12_fault tX12_fault_0 = true := by decide +kernel
def tX12_isNext_0 : Tb := [(0, .bipush 60, 2), (2, .aload_n 0, 1), (3, .getfield 208, 3), (6, .imul, 1), (7, .aload_n 0, 1), (8, .getfield 211, 3), (11, .iadd, 1), (12, .istore_n 2, 1), (13, .aload_n 0, 1), (14, .getfield 211, 3), (17, .aload_n 0, 1), (18, .getfield 19, 3), (21, .aload_n 0, 1), (22, .getfield 208, 3), (25, .iaload, 1), (26, .if_icmp .ge 27, 3), (29, .aload_n 0, 1), (30, .getfield 22, 3), (33, .iload_n 2, 1), (34, .iaload, 1), (35, .iconst 3, 1), (36, .if_icmp .ne 17, 3), (39, .aload_n 0, 1), (40, .getfield 25, 3), (43, .iload_n 2, 1), (44, .iaload, 1), (45, .iload_n 1, 1), (46, .if_icmp .ne 7, 3), (49, .iconst 1, 1), (50, .goto 4, 3), (53, .iconst 0, 1), (54, .ireturn, 1)]
theorem TX12_isNext_0 : Tab cX12_isNext tX12_isNext_0 = true := by decide +kernel
def tX12_expr_0 : Tb := [(0, .aload_n 0, 1), (1, .invokevirtual 214, 3), (4, .istore_n 1, 1), (5, .aload_n 0, 1), (6, .bipush 60, 2), (8, .invokevirtual 217, 3), (11, .ifCond .ne 21, 3), (14, .aload_n 0, 1), (15, .bipush 62, 2), (17, .invokevirtual 217, 3), (20, .ifCond .ne 12, 3), (23, .aload_n 0, 1), (24, .bipush 61, 2), (26, .invokevirtual 217, 3), (29, .ifCond .eq 75, 3), (32, .aload_n 0, 1), (33, .getfield 25, 3), (36, .bipush 60, 2), (38, .aload_n 0, 1), (39, .getfield 208, 3), (42, .imul, 1), (43, .aload_n 0, 1), (44, .getfield 211, 3), (47, .iadd, 1), (48, .iaload, 1), (49, .istore_n 2, 1), (50, .aload_n 0, 1), (51, .dup, 1), (52, .getfield 211, 3), (55, .iconst 1, 1), (56, .iadd, 1), (57, .putfield 211, 3), (60, .aload_n 0, 1), (61, .invokevirtual 214, 3), (64, .istore_n 3, 1), (65, .iload_n 2, 1), (66, .bipush 60, 2), (68, .if_icmp .ne 11, 3), (71, .iload_n 1, 1), (72, .iload_n 3, 1)]
theorem TX12_expr_0 : Tab cX12_expr tX12_expr_0 = true := by decide +kernel
def tX12_expr_1 : Tb := [(73, .if_icmp .ge 29, 3), (76, .goto 22, 3), (79, .iload_n 2, 1), (80, .bipush 62, 2), (82, .if_icmp .ne 11, 3), (85, .iload_n 1, 1), (86, .iload_n 3, 1), (87, .if_icmp .le 15, 3), (90, .goto 8, 3), (93, .iload_n 1, 1), (94, .iload_n 3, 1), (95, .if_icmp .ne 7, 3), (98, .iconst 1, 1), (99, .goto 4, 3), (102, .iconst 0, 1), (103, .istore_n 1, 1), (104, .aload_n 0, 1), (105, .bipush 63, 2), (107, .invokevirtual 217, 3), (110, .ifCond .ne 5, 3), (113, .iload_n 1, 1), (114, .ireturn, 1), (115, .aload_n 0, 1), (116, .dup, 1), (117, .getfield 211, 3), (120, .iconst 1, 1), (121, .iadd, 1), (122, .putfield 211, 3), (125, .aload_n 0, 1), (126, .invokevirtual 220, 3), (129, .istore_n 2, 1), (130, .aload_n 0, 1), (131, .dup, 1), (132, .getfield 211, 3), (135, .iconst 1, 1), (136, .iadd, 1), (137, .putfield 211, 3), (140, .aload_n 0, 1), (141, .invokevirtual 220, 3), (144, .istore_n 3, 1)]
theorem TX12_expr_1 : Tab cX12_expr tX12_expr_1 = true := by decide +kernel
def tX12_expr_2 : Tb := [(145, .iload_n 1, 1), (146, .ifCond .eq 7, 3), (149, .iload_n 2, 1), (150, .goto 4, 3), (153, .iload_n 3, 1), (154, .ireturn, 1)]
theorem TX12_expr_2 : Tab cX12_expr tX12_expr_2 = true := by decide +kernel
def tX12_sum_0 : Tb := [(0, .aload_n 0, 1), (1, .invokevirtual 223, 3), (4, .istore_n 1, 1), (5, .aload_n 0, 1), (6, .bipush 43, 2), (8, .invokevirtual 217, 3), (11, .ifCond .ne 12, 3), (14, .aload_n 0, 1), (15, .bipush 45, 2), (17, .invokevirtual 217, 3), (20, .ifCond .eq 42, 3), (23, .aload_n 0, 1), (24, .bipush 43, 2), (26, .invokevirtual 217, 3), (29, .istore_n 2, 1), (30, .aload_n 0, 1), (31, .dup, 1), (32, .getfield 211, 3), (35, .iconst 1, 1), (36, .iadd, 1), (37, .putfield 211, 3), (40, .aload_n 0, 1), (41, .invokevirtual 223, 3), (44, .istore_n 3, 1), (45, .iload_n 2, 1), (46, .ifCond .eq 9, 3), (49, .iload_n 1, 1), (50, .iload_n 3, 1), (51, .iadd, 1), (52, .goto 6, 3), (55, .iload_n 1, 1), (56, .iload_n 3, 1), (57, .isub, 1), (58, .istore_n 1, 1), (59, .goto (-54), 3), (62, .iload_n 1, 1), (63, .ireturn, 1)]
theorem TX12_sum_0 : Tab cX12_sum tX12_sum_0 = true := by decide +kernel
def tX12_part_0 : Tb := [(0, .aload_n 0, 1), (1, .invokevirtual 226, 3), (4, .istore_n 1, 1), (5, .aload_n 0, 1), (6, .bipush 42, 2), (8, .invokevirtual 217, 3), (11, .ifCond .ne 12, 3), (14, .aload_n 0, 1), (15, .bipush 47, 2), (17, .invokevirtual 217, 3), (20, .ifCond .eq 50, 3), (23, .aload_n 0, 1), (24, .bipush 42, 2), (26, .invokevirtual 217, 3), (29, .istore_n 2, 1), (30, .aload_n 0, 1), (31, .dup, 1), (32, .getfield 211, 3), (35, .iconst 1, 1), (36, .iadd, 1), (37, .putfield 211, 3), (40, .aload_n 0, 1), (41, .invokevirtual 226, 3), (44, .istore_n 3, 1), (45, .iload_n 2, 1), (46, .ifCond .eq 9, 3), (49, .iload_n 1, 1), (50, .iload_n 3, 1), (51, .imul, 1), (52, .goto 14, 3), (55, .iload_n 3, 1), (56, .ifCond .ne 7, 3), (59, .iconst 0, 1), (60, .goto 6, 3), (63, .iload_n 1, 1), (64, .iload_n 3, 1), (65, .idiv, 1), (66, .istore_n 1, 1), (67, .goto (-62), 3), (70, .iload_n 1, 1)]
theorem TX12_part_0 : Tab cX12_part tX12_part_0 = true := by decide +kernel
def tX12_part_1 : Tb := [(71, .ireturn, 1)]
theorem TX12_part_1 : Tab cX12_part tX12_part_1 = true := by decide +kernel
def tX12_factor_0 : Tb := [(0, .bipush 60, 2), (2, .aload_n 0, 1), (3, .getfield 208, 3), (6, .imul, 1), (7, .aload_n 0, 1), (8, .getfield 211, 3), (11, .iadd, 1), (12, .istore_n 1, 1), (13, .aload_n 0, 1), (14, .getfield 22, 3), (17, .iload_n 1, 1), (18, .iaload, 1), (19, .istore_n 2, 1), (20, .aload_n 0, 1), (21, .getfield 25, 3), (24, .iload_n 1, 1), (25, .iaload, 1), (26, .istore_n 3, 1), (27, .aload_n 0, 1), (28, .dup, 1), (29, .getfield 211, 3), (32, .iconst 1, 1), (33, .iadd, 1), (34, .putfield 211, 3), (37, .iload_n 2, 1), (38, .iconst 1, 1), (39, .if_icmp .ne 5, 3), (42, .iload_n 3, 1), (43, .ireturn, 1), (44, .iload_n 2, 1), (45, .iconst 2, 1), (46, .if_icmp .ne 19, 3), (49, .iload_n 3, 1), (50, .bipush 10, 2), (52, .if_icmp .lt 13, 3), (55, .aload_n 0, 1), (56, .getfield 84, 3), (59, .iload_n 3, 1), (60, .bipush 10, 2), (62, .isub, 1)]
theorem TX12_factor_0 : Tab cX12_factor tX12_factor_0 = true := by decide +kernel
def tX12_factor_1 : Tb := [(63, .iaload, 1), (64, .ireturn, 1), (65, .iload_n 2, 1), (66, .iconst 3, 1), (67, .if_icmp .ne 15, 3), (70, .iload_n 3, 1), (71, .bipush 45, 2), (73, .if_icmp .ne 9, 3), (76, .aload_n 0, 1), (77, .invokevirtual 226, 3), (80, .ineg, 1), (81, .ireturn, 1), (82, .iload_n 2, 1), (83, .iconst 3, 1), (84, .if_icmp .ne 22, 3), (87, .aload_n 0, 1), (88, .invokevirtual 220, 3), (91, .istore 4, 2), (93, .aload_n 0, 1), (94, .dup, 1), (95, .getfield 211, 3), (98, .iconst 1, 1), (99, .iadd, 1), (100, .putfield 211, 3), (103, .iload 4, 2), (105, .ireturn, 1), (106, .aload_n 0, 1), (107, .dup, 1), (108, .getfield 211, 3), (111, .iconst 1, 1), (112, .iadd, 1), (113, .putfield 211, 3), (116, .aload_n 0, 1), (117, .invokevirtual 220, 3), (120, .istore 4, 2), (122, .aload_n 0, 1), (123, .dup, 1), (124, .getfield 211, 3), (127, .iconst 1, 1), (128, .iadd, 1)]
theorem TX12_factor_1 : Tab cX12_factor tX12_factor_1 = true := by decide +kernel
def tX12_factor_2 : Tb := [(129, .putfield 211, 3), (132, .aload_n 0, 1), (133, .invokevirtual 220, 3), (136, .istore 5, 2), (138, .aload_n 0, 1), (139, .dup, 1), (140, .getfield 211, 3), (143, .iconst 1, 1), (144, .iadd, 1), (145, .putfield 211, 3), (148, .iload_n 3, 1), (149, .bipush 8, 2), (151, .if_icmp .ne 7, 3), (154, .iconst 1, 1), (155, .goto 4, 3), (158, .iconst 0, 1), (159, .iload 4, 2), (161, .iload 5, 2), (163, .if_icmp .ge 7, 3), (166, .iconst 1, 1), (167, .goto 4, 3), (170, .iconst 0, 1), (171, .if_icmp .ne 8, 3), (174, .iload 4, 2), (176, .goto 5, 3), (179, .iload 5, 2), (181, .ireturn, 1)]
theorem TX12_factor_2 : Tab cX12_factor tX12_factor_2 = true := by decide +kernel
def tX12_ruleOf_0 : Tb := [(0, .iconst (-1), 1), (1, .istore 8, 2), (3, .iconst 0, 1), (4, .istore 9, 2), (6, .iload 9, 2), (8, .aload_n 0, 1), (9, .getfield 202, 3), (12, .if_icmp .ge 58, 3), (15, .aload_n 0, 1), (16, .getfield 13, 3), (19, .iload 9, 2), (21, .iaload, 1), (22, .iload_n 1, 1), (23, .if_icmp .ne 41, 3), (26, .aload_n 0, 1), (27, .getfield 16, 3), (30, .iload 9, 2), (32, .iaload, 1), (33, .iload_n 2, 1), (34, .if_icmp .gt 30, 3), (37, .iload 8, 2), (39, .iconst (-1), 1), (40, .if_icmp .eq 20, 3), (43, .aload_n 0, 1), (44, .getfield 16, 3), (47, .iload 9, 2), (49, .iaload, 1), (50, .aload_n 0, 1), (51, .getfield 16, 3), (54, .iload 8, 2), (56, .iaload, 1), (57, .if_icmp .lt 7, 3), (60, .iload 9, 2), (62, .istore 8, 2), (64, .iinc 9 1, 3), (67, .goto (-61), 3), (70, .iload 8, 2), (72, .iconst (-1), 1), (73, .if_icmp .ne 20, 3), (76, .iload_n 1, 1)]
theorem TX12_ruleOf_0 : Tab cX12_ruleOf tX12_ruleOf_0 = true := by decide +kernel
def tX12_ruleOf_1 : Tb := [(77, .ifCond .eq 8, 3), (80, .iload_n 1, 1), (81, .iconst 3, 1), (82, .if_icmp .ne 9, 3), (85, .sipush 1000, 3), (88, .goto 4, 3), (91, .iconst 0, 1), (92, .ireturn, 1), (93, .aload_n 0, 1), (94, .getfield 84, 3), (97, .iconst 0, 1), (98, .iload_n 2, 1), (99, .iastore, 1), (100, .aload_n 0, 1), (101, .getfield 84, 3), (104, .iconst 1, 1), (105, .iload_n 3, 1), (106, .iastore, 1), (107, .aload_n 0, 1), (108, .getfield 84, 3), (111, .iconst 2, 1), (112, .iload 4, 2), (114, .iastore, 1), (115, .aload_n 0, 1), (116, .getfield 84, 3), (119, .iconst 3, 1), (120, .iload 5, 2), (122, .iastore, 1), (123, .aload_n 0, 1), (124, .getfield 84, 3), (127, .iconst 4, 1), (128, .iload 6, 2), (130, .iastore, 1), (131, .aload_n 0, 1), (132, .getfield 84, 3), (135, .iconst 5, 1), (136, .iload 7, 2), (138, .iastore, 1), (139, .aload_n 0, 1), (140, .iload 8, 2)]
theorem TX12_ruleOf_1 : Tab cX12_ruleOf tX12_ruleOf_1 = true := by decide +kernel
def tX12_ruleOf_2 : Tb := [(142, .putfield 208, 3), (145, .aload_n 0, 1), (146, .iconst 0, 1), (147, .putfield 211, 3), (150, .aload_n 0, 1), (151, .invokevirtual 220, 3), (154, .ireturn, 1)]
theorem TX12_ruleOf_2 : Tab cX12_ruleOf tX12_ruleOf_2 = true := by decide +kernel
def tX12_rule_0 : Tb := [(0, .aload_n 0, 1), (1, .iconst 0, 1), (2, .putfield 90, 3), (5, .iload_n 1, 1), (6, .i2l, 1), (7, .lconst 0, 1), (8, .ldc2_w 101, 3), (11, .invokestatic 97, 3), (14, .ifCond .eq 15, 3), (17, .iload_n 2, 1), (18, .i2l, 1), (19, .lconst 0, 1), (20, .ldc2_w 229, 3), (23, .invokestatic 97, 3), (26, .ifCond .ne 10, 3), (29, .aload_n 0, 1), (30, .iconst 1, 1), (31, .putfield 90, 3), (34, .iconst 0, 1), (35, .ireturn, 1), (36, .aload_n 0, 1), (37, .iload_n 1, 1), (38, .iload_n 2, 1), (39, .iload_n 3, 1), (40, .iload 4, 2), (42, .iload 5, 2), (44, .iload 6, 2), (46, .iload 7, 2), (48, .invokevirtual 231, 3), (51, .ireturn, 1)]
theorem TX12_rule_0 : Tab cX12_rule tX12_rule_0 = true := by decide +kernel
def tX12_settleOf_0 : Tb := [(0, .aload_n 0, 1), (1, .getfield 63, 3), (4, .bipush 6, 2), (6, .iload_n 2, 1), (7, .imul, 1), (8, .iload_n 1, 1), (9, .iadd, 1), (10, .iaload, 1), (11, .istore 4, 2), (13, .iconst 0, 1), (14, .istore 5, 2), (16, .iload 5, 2), (18, .aload_n 0, 1), (19, .getfield 235, 3), (22, .if_icmp .ge 63, 3), (25, .iconst 4, 1), (26, .iload 5, 2), (28, .imul, 1), (29, .istore 6, 2), (31, .aload_n 0, 1), (32, .getfield 75, 3), (35, .iload 6, 2), (37, .iaload, 1), (38, .iload_n 1, 1), (39, .if_icmp .ne 40, 3), (42, .aload_n 0, 1), (43, .getfield 75, 3), (46, .iload 6, 2), (48, .iconst 1, 1), (49, .iadd, 1), (50, .iaload, 1), (51, .iload_n 2, 1), (52, .if_icmp .ne 27, 3), (55, .aload_n 0, 1), (56, .getfield 75, 3), (59, .iload 6, 2), (61, .iconst 3, 1), (62, .iadd, 1), (63, .iaload, 1), (64, .iload_n 3, 1)]
theorem TX12_settleOf_0 : Tab cX12_settleOf tX12_settleOf_0 = true := by decide +kernel
def tX12_settleOf_1 : Tb := [(65, .if_icmp .gt 14, 3), (68, .aload_n 0, 1), (69, .getfield 75, 3), (72, .iload 6, 2), (74, .iconst 2, 1), (75, .iadd, 1), (76, .iaload, 1), (77, .istore 4, 2), (79, .iinc 5 1, 3), (82, .goto (-66), 3), (85, .iload 4, 2), (87, .ireturn, 1)]
theorem TX12_settleOf_1 : Tab cX12_settleOf tX12_settleOf_1 = true := by decide +kernel
def tX12_latest_0 : Tb := [(0, .aload_n 0, 1), (1, .getfield 238, 3), (4, .ifCond .ne 7, 3), (7, .iconst (-1), 1), (8, .goto 18, 3), (11, .aload_n 0, 1), (12, .iload_n 1, 1), (13, .aload_n 0, 1), (14, .getfield 238, 3), (17, .iconst 1, 1), (18, .isub, 1), (19, .aload_n 0, 1), (20, .getfield 238, 3), (23, .invokevirtual 241, 3), (26, .ireturn, 1)]
theorem TX12_latest_0 : Tab cX12_latest tX12_latest_0 = true := by decide +kernel
def tX12_move_0 : Tb := [(0, .iload_n 1, 1), (1, .iload_n 2, 1), (2, .if_icmp .ne 4, 3), (5, .return_, 1), (6, .sipush 1600, 3), (9, .iload_n 3, 1), (10, .imul, 1), (11, .istore 6, 2), (13, .iload 5, 2), (15, .istore 7, 2), (17, .iconst 0, 1), (18, .istore 8, 2), (20, .iconst 0, 1), (21, .istore 9, 2), (23, .iload 9, 2), (25, .aload_n 0, 1), (26, .getfield 51, 3), (29, .iload_n 3, 1), (30, .iaload, 1), (31, .if_icmp .ge 109, 3), (34, .aload_n 0, 1), (35, .getfield 45, 3), (38, .iload 6, 2), (40, .iload 9, 2), (42, .iadd, 1), (43, .iaload, 1), (44, .istore 10, 2), (46, .aload_n 0, 1), (47, .getfield 48, 3), (50, .iload 6, 2), (52, .iload 9, 2), (54, .iadd, 1), (55, .iaload, 1), (56, .istore 11, 2), (58, .iload 10, 2), (60, .iload_n 2, 1), (61, .if_icmp .ne 38, 3), (64, .iload 7, 2), (66, .ifCond .le 33, 3), (69, .iload 11, 2)]
theorem TX12_move_0 : Tab cX12_move tX12_move_0 = true := by decide +kernel
def tX12_move_1 : Tb := [(71, .iload 7, 2), (73, .if_icmp .ge 8, 3), (76, .iload 11, 2), (78, .goto 5, 3), (81, .iload 7, 2), (83, .istore 12, 2), (85, .iload 11, 2), (87, .iload 12, 2), (89, .isub, 1), (90, .istore 11, 2), (92, .iload 7, 2), (94, .iload 12, 2), (96, .isub, 1), (97, .istore 7, 2), (99, .iload 11, 2), (101, .ifCond .ne 6, 3), (104, .goto 30, 3), (107, .aload_n 0, 1), (108, .getfield 45, 3), (111, .iload 6, 2), (113, .iload 8, 2), (115, .iadd, 1), (116, .iload 10, 2), (118, .iastore, 1), (119, .aload_n 0, 1), (120, .getfield 48, 3), (123, .iload 6, 2), (125, .iload 8, 2), (127, .iadd, 1), (128, .iload 11, 2), (130, .iastore, 1), (131, .iinc 8 1, 3), (134, .iinc 9 1, 3), (137, .goto (-114), 3), (140, .bipush 6, 2), (142, .iload_n 1, 1), (143, .imul, 1), (144, .iload_n 3, 1), (145, .iadd, 1), (146, .istore 9, 2)]
theorem TX12_move_1 : Tab cX12_move tX12_move_1 = true := by decide +kernel
def tX12_move_2 : Tb := [(148, .bipush 6, 2), (150, .iload_n 2, 1), (151, .imul, 1), (152, .iload_n 3, 1), (153, .iadd, 1), (154, .istore 10, 2), (156, .iload 5, 2), (158, .aload_n 0, 1), (159, .getfield 39, 3), (162, .iload 9, 2), (164, .iaload, 1), (165, .ifCond .ge 13, 3), (168, .aload_n 0, 1), (169, .getfield 39, 3), (172, .iload 9, 2), (174, .iaload, 1), (175, .goto 4, 3), (178, .iconst 0, 1), (179, .iadd, 1), (180, .istore 11, 2), (182, .iload 11, 2), (184, .ifCond .le 29, 3), (187, .aload_n 0, 1), (188, .getfield 45, 3), (191, .iload 6, 2), (193, .iload 8, 2), (195, .iadd, 1), (196, .iload_n 1, 1), (197, .iastore, 1), (198, .aload_n 0, 1), (199, .getfield 48, 3), (202, .iload 6, 2), (204, .iload 8, 2), (206, .iadd, 1), (207, .iload 11, 2), (209, .iastore, 1), (210, .iinc 8 1, 3), (213, .aload_n 0, 1), (214, .getfield 51, 3), (217, .iload_n 3, 1)]
theorem TX12_move_2 : Tab cX12_move tX12_move_2 = true := by decide +kernel
def tX12_move_3 : Tb := [(218, .iload 8, 2), (220, .iastore, 1), (221, .aload_n 0, 1), (222, .getfield 39, 3), (225, .iload 9, 2), (227, .dup2, 1), (228, .iaload, 1), (229, .iload 5, 2), (231, .iadd, 1), (232, .iastore, 1), (233, .aload_n 0, 1), (234, .getfield 39, 3), (237, .iload 10, 2), (239, .dup2, 1), (240, .iaload, 1), (241, .iload 5, 2), (243, .isub, 1), (244, .iastore, 1), (245, .aload_n 0, 1), (246, .getfield 42, 3), (249, .iload 9, 2), (251, .dup2, 1), (252, .laload, 1), (253, .iload 5, 2), (255, .i2l, 1), (256, .iload 4, 2), (258, .i2l, 1), (259, .lmul, 1), (260, .ladd, 1), (261, .lastore, 1), (262, .aload_n 0, 1), (263, .getfield 42, 3), (266, .iload 10, 2), (268, .dup2, 1), (269, .laload, 1), (270, .iload 5, 2), (272, .i2l, 1), (273, .iload 4, 2), (275, .i2l, 1), (276, .lmul, 1)]
theorem TX12_move_3 : Tab cX12_move tX12_move_3 = true := by decide +kernel
def tX12_move_4 : Tb := [(277, .lsub, 1), (278, .lastore, 1), (279, .return_, 1)]
theorem TX12_move_4 : Tab cX12_move tX12_move_4 = true := by decide +kernel
def tX12_dropOrder_0 : Tb := [(0, .aload_n 0, 1), (1, .dup, 1), (2, .getfield 245, 3), (5, .iconst 1, 1), (6, .isub, 1), (7, .putfield 245, 3), (10, .iconst 5, 1), (11, .iload_n 1, 1), (12, .imul, 1), (13, .istore_n 2, 1), (14, .iload_n 2, 1), (15, .iconst 5, 1), (16, .aload_n 0, 1), (17, .getfield 245, 3), (20, .imul, 1), (21, .if_icmp .ge 23, 3), (24, .aload_n 0, 1), (25, .getfield 57, 3), (28, .iload_n 2, 1), (29, .aload_n 0, 1), (30, .getfield 57, 3), (33, .iload_n 2, 1), (34, .iconst 5, 1), (35, .iadd, 1), (36, .iaload, 1), (37, .iastore, 1), (38, .iinc 2 1, 3), (41, .goto (-27), 3), (44, .return_, 1)]
theorem TX12_dropOrder_0 : Tab cX12_dropOrder tX12_dropOrder_0 = true := by decide +kernel
def tX12_ranked_0 : Tb := [(0, .iconst (-1), 1), (1, .istore 4, 2), (3, .iconst 0, 1), (4, .istore 5, 2), (6, .iload 5, 2), (8, .iload_n 3, 1), (9, .if_icmp .gt 126, 3), (12, .iconst (-1), 1), (13, .istore 6, 2), (15, .iconst 0, 1), (16, .istore 7, 2), (18, .iload 7, 2), (20, .aload_n 0, 1), (21, .getfield 245, 3), (24, .if_icmp .ge 93, 3), (27, .aload_n 0, 1), (28, .getfield 57, 3), (31, .iconst 5, 1), (32, .iload 7, 2), (34, .imul, 1), (35, .iconst 1, 1), (36, .iadd, 1), (37, .iaload, 1), (38, .iload_n 1, 1), (39, .ifCond .eq 7, 3), (42, .iconst 1, 1), (43, .goto 4, 3), (46, .iconst 0, 1), (47, .if_icmp .ne 64, 3), (50, .aload_n 0, 1), (51, .getfield 57, 3), (54, .iconst 5, 1), (55, .iload 7, 2), (57, .imul, 1), (58, .iconst 2, 1), (59, .iadd, 1), (60, .iaload, 1), (61, .iload_n 2, 1), (62, .if_icmp .eq 6, 3), (65, .goto 46, 3)]
theorem TX12_ranked_0 : Tab cX12_ranked tX12_ranked_0 = true := by decide +kernel
def tX12_ranked_1 : Tb := [(68, .iload 4, 2), (70, .iconst (-1), 1), (71, .if_icmp .eq 18, 3), (74, .aload_n 0, 1), (75, .iload 7, 2), (77, .iload 4, 2), (79, .iload_n 1, 1), (80, .invokevirtual 248, 3), (83, .ifCond .ne 6, 3), (86, .goto 25, 3), (89, .iload 6, 2), (91, .iconst (-1), 1), (92, .if_icmp .eq 15, 3), (95, .aload_n 0, 1), (96, .iload 6, 2), (98, .iload 7, 2), (100, .iload_n 1, 1), (101, .invokevirtual 248, 3), (104, .ifCond .eq 7, 3), (107, .iload 7, 2), (109, .istore 6, 2), (111, .iinc 7 1, 3), (114, .goto (-96), 3), (117, .iload 6, 2), (119, .iconst (-1), 1), (120, .if_icmp .ne 5, 3), (123, .iconst (-1), 1), (124, .ireturn, 1), (125, .iload 6, 2), (127, .istore 4, 2), (129, .iinc 5 1, 3), (132, .goto (-126), 3), (135, .iload 4, 2), (137, .ireturn, 1)]
theorem TX12_ranked_1 : Tab cX12_ranked tX12_ranked_1 = true := by decide +kernel
def tX12_isBehind_0 : Tb := [(0, .aload_n 0, 1), (1, .getfield 57, 3), (4, .iconst 5, 1), (5, .iload_n 1, 1), (6, .imul, 1), (7, .iconst 3, 1), (8, .iadd, 1), (9, .iaload, 1), (10, .istore 4, 2), (12, .aload_n 0, 1), (13, .getfield 57, 3), (16, .iconst 5, 1), (17, .iload_n 2, 1), (18, .imul, 1), (19, .iconst 3, 1), (20, .iadd, 1), (21, .iaload, 1), (22, .istore 5, 2), (24, .iload 4, 2), (26, .iload 5, 2), (28, .if_icmp .eq 35, 3), (31, .iload_n 3, 1), (32, .ifCond .eq 18, 3), (35, .iload 4, 2), (37, .iload 5, 2), (39, .if_icmp .ge 7, 3), (42, .iconst 1, 1), (43, .goto 19, 3), (46, .iconst 0, 1), (47, .goto 15, 3), (50, .iload 4, 2), (52, .iload 5, 2), (54, .if_icmp .le 7, 3), (57, .iconst 1, 1), (58, .goto 4, 3), (61, .iconst 0, 1), (62, .ireturn, 1), (63, .iload_n 1, 1), (64, .iload_n 2, 1), (65, .if_icmp .le 7, 3)]
theorem TX12_isBehind_0 : Tab cX12_isBehind tX12_isBehind_0 = true := by decide +kernel
def tX12_isBehind_1 : Tb := [(68, .iconst 1, 1), (69, .goto 4, 3), (72, .iconst 0, 1), (73, .ireturn, 1)]
theorem TX12_isBehind_1 : Tab cX12_isBehind tX12_isBehind_1 = true := by decide +kernel
def tX12_reason_0 : Tb := [(0, .aload_n 0, 1), (1, .iload_n 1, 1), (2, .invokevirtual 252, 3), (5, .ifCond .eq 36, 3), (8, .iload_n 3, 1), (9, .invokestatic 255, 3), (12, .ifCond .eq 29, 3), (15, .iload 5, 2), (17, .i2l, 1), (18, .lconst 1, 1), (19, .ldc2_w 258, 3), (22, .invokestatic 97, 3), (25, .ifCond .eq 16, 3), (28, .iload 4, 2), (30, .i2l, 1), (31, .lconst 1, 1), (32, .ldc2_w 260, 3), (35, .invokestatic 97, 3), (38, .ifCond .ne 5, 3), (41, .iconst 1, 1), (42, .ireturn, 1), (43, .aload_n 0, 1), (44, .getfield 36, 3), (47, .iload_n 1, 1), (48, .baload, 1), (49, .ifCond .ne 12, 3), (52, .aload_n 0, 1), (53, .getfield 54, 3), (56, .iload_n 3, 1), (57, .baload, 1), (58, .ifCond .eq 5, 3), (61, .iconst 2, 1), (62, .ireturn, 1), (63, .aload_n 0, 1), (64, .iload_n 3, 1), (65, .invokevirtual 262, 3), (68, .istore 6, 2), (70, .iload 6, 2), (72, .iconst (-1), 1), (73, .if_icmp .eq 31, 3)]
theorem TX12_reason_0 : Tab cX12_reason tX12_reason_0 = true := by decide +kernel
def tX12_reason_1 : Tb := [(76, .iload 4, 2), (78, .iload 6, 2), (80, .isub, 1), (81, .invokestatic 265, 3), (84, .aload_n 0, 1), (85, .iconst 0, 1), (86, .aload_n 0, 1), (87, .getfield 238, 3), (90, .iload_n 3, 1), (91, .iload 6, 2), (93, .iconst 0, 1), (94, .iconst 0, 1), (95, .iconst 0, 1), (96, .invokevirtual 231, 3), (99, .if_icmp .le 5, 3), (102, .iconst 3, 1), (103, .ireturn, 1), (104, .aload_n 0, 1), (105, .getfield 39, 3), (108, .bipush 6, 2), (110, .iload_n 1, 1), (111, .imul, 1), (112, .iload_n 3, 1), (113, .iadd, 1), (114, .iaload, 1), (115, .istore 7, 2), (117, .iload_n 2, 1), (118, .ifCond .eq 8, 3), (121, .iload 7, 2), (123, .goto 6, 3), (126, .iload 7, 2), (128, .ineg, 1), (129, .iload 5, 2), (131, .iadd, 1), (132, .i2l, 1), (133, .lstore 8, 2), (135, .iconst 0, 1), (136, .istore 10, 2), (138, .iload 10, 2), (140, .aload_n 0, 1)]
theorem TX12_reason_1 : Tab cX12_reason tX12_reason_1 = true := by decide +kernel
def tX12_reason_2 : Tb := [(141, .getfield 245, 3), (144, .if_icmp .ge 75, 3), (147, .iconst 5, 1), (148, .iload 10, 2), (150, .imul, 1), (151, .istore 11, 2), (153, .aload_n 0, 1), (154, .getfield 57, 3), (157, .iload 11, 2), (159, .iaload, 1), (160, .iload_n 1, 1), (161, .if_icmp .ne 52, 3), (164, .aload_n 0, 1), (165, .getfield 57, 3), (168, .iload 11, 2), (170, .iconst 1, 1), (171, .iadd, 1), (172, .iaload, 1), (173, .iload_n 2, 1), (174, .ifCond .eq 7, 3), (177, .iconst 1, 1), (178, .goto 4, 3), (181, .iconst 0, 1), (182, .if_icmp .ne 31, 3), (185, .aload_n 0, 1), (186, .getfield 57, 3), (189, .iload 11, 2), (191, .iconst 2, 1), (192, .iadd, 1), (193, .iaload, 1), (194, .iload_n 3, 1), (195, .if_icmp .ne 18, 3), (198, .lload 8, 2), (200, .aload_n 0, 1), (201, .getfield 57, 3), (204, .iload 11, 2), (206, .iconst 4, 1), (207, .iadd, 1), (208, .iaload, 1), (209, .i2l, 1)]
theorem TX12_reason_2 : Tab cX12_reason tX12_reason_2 = true := by decide +kernel
def tX12_reason_3 : Tb := [(210, .ladd, 1), (211, .lstore 8, 2), (213, .iinc 10 1, 3), (216, .goto (-78), 3), (219, .lload 8, 2), (221, .aload_n 0, 1), (222, .iconst 3, 1), (223, .aload_n 0, 1), (224, .getfield 238, 3), (227, .iload_n 3, 1), (228, .iconst 0, 1), (229, .iload 5, 2), (231, .iconst 0, 1), (232, .iconst 0, 1), (233, .invokevirtual 231, 3), (236, .i2l, 1), (237, .lcmp, 1), (238, .ifCond .le 5, 3), (241, .iconst 4, 1), (242, .ireturn, 1), (243, .aload_n 0, 1), (244, .getfield 245, 3), (247, .bipush 120, 2), (249, .if_icmp .eq 13, 3), (252, .aload_n 0, 1), (253, .getfield 270, 3), (256, .sipush 700, 3), (259, .if_icmp .ne 7, 3), (262, .iconst 5, 1), (263, .goto 4, 3), (266, .iconst 0, 1), (267, .ireturn, 1)]
theorem TX12_reason_3 : Tab cX12_reason tX12_reason_3 = true := by decide +kernel
def tX12_order_0 : Tb := [(0, .aload_n 0, 1), (1, .iconst 0, 1), (2, .putfield 90, 3), (5, .aload_n 0, 1), (6, .iload_n 1, 1), (7, .iload_n 2, 1), (8, .iload_n 3, 1), (9, .iload 4, 2), (11, .iload 5, 2), (13, .invokevirtual 273, 3), (16, .istore 6, 2), (18, .iload 6, 2), (20, .ifCond .le 8, 3), (23, .iconst (-1), 1), (24, .iload 6, 2), (26, .isub, 1), (27, .ireturn, 1), (28, .iload 5, 2), (30, .istore 7, 2), (32, .iconst 1, 1), (33, .istore 8, 2), (35, .iload 8, 2), (37, .ifCond .eq 337, 3), (40, .iload 7, 2), (42, .ifCond .le 332, 3), (45, .aload_n 0, 1), (46, .getfield 270, 3), (49, .sipush 700, 3), (52, .if_icmp .ge 322, 3), (55, .aload_n 0, 1), (56, .iload_n 2, 1), (57, .ifCond .ne 7, 3), (60, .iconst 1, 1), (61, .goto 4, 3), (64, .iconst 0, 1), (65, .iload_n 3, 1), (66, .iconst 0, 1), (67, .invokevirtual 277, 3), (70, .istore 9, 2), (72, .iload 9, 2)]
theorem TX12_order_0 : Tab cX12_order tX12_order_0 = true := by decide +kernel
def tX12_order_1 : Tb := [(74, .iconst (-1), 1), (75, .if_icmp .eq 46, 3), (78, .iload_n 2, 1), (79, .ifCond .eq 22, 3), (82, .aload_n 0, 1), (83, .getfield 57, 3), (86, .iconst 5, 1), (87, .iload 9, 2), (89, .imul, 1), (90, .iconst 3, 1), (91, .iadd, 1), (92, .iaload, 1), (93, .iload 4, 2), (95, .if_icmp .gt 26, 3), (98, .goto 19, 3), (101, .aload_n 0, 1), (102, .getfield 57, 3), (105, .iconst 5, 1), (106, .iload 9, 2), (108, .imul, 1), (109, .iconst 3, 1), (110, .iadd, 1), (111, .iaload, 1), (112, .iload 4, 2), (114, .if_icmp .lt 7, 3), (117, .iconst 1, 1), (118, .goto 4, 3), (121, .iconst 0, 1), (122, .istore 8, 2), (124, .iload 8, 2), (126, .ifCond .ne 6, 3), (129, .goto (-94), 3), (132, .aload_n 0, 1), (133, .getfield 57, 3), (136, .iconst 5, 1), (137, .iload 9, 2), (139, .imul, 1), (140, .iconst 4, 1), (141, .iadd, 1), (142, .iaload, 1)]
theorem TX12_order_1 : Tab cX12_order tX12_order_1 = true := by decide +kernel
def tX12_order_2 : Tb := [(143, .iload 7, 2), (145, .if_icmp .ge 17, 3), (148, .aload_n 0, 1), (149, .getfield 57, 3), (152, .iconst 5, 1), (153, .iload 9, 2), (155, .imul, 1), (156, .iconst 4, 1), (157, .iadd, 1), (158, .iaload, 1), (159, .goto 5, 3), (162, .iload 7, 2), (164, .istore 10, 2), (166, .aload_n 0, 1), (167, .getfield 57, 3), (170, .iconst 5, 1), (171, .iload 9, 2), (173, .imul, 1), (174, .iaload, 1), (175, .istore 11, 2), (177, .aload_n 0, 1), (178, .getfield 57, 3), (181, .iconst 5, 1), (182, .iload 9, 2), (184, .imul, 1), (185, .iconst 3, 1), (186, .iadd, 1), (187, .iaload, 1), (188, .istore 12, 2), (190, .bipush 7, 2), (192, .aload_n 0, 1), (193, .getfield 270, 3), (196, .imul, 1), (197, .istore 13, 2), (199, .aload_n 0, 1), (200, .getfield 60, 3), (203, .iload 13, 2), (205, .iload_n 3, 1), (206, .iastore, 1), (207, .aload_n 0, 1)]
theorem TX12_order_2 : Tab cX12_order tX12_order_2 = true := by decide +kernel
def tX12_order_3 : Tb := [(208, .getfield 60, 3), (211, .iload 13, 2), (213, .iconst 1, 1), (214, .iadd, 1), (215, .iload 12, 2), (217, .iastore, 1), (218, .aload_n 0, 1), (219, .getfield 60, 3), (222, .iload 13, 2), (224, .iconst 2, 1), (225, .iadd, 1), (226, .iload 10, 2), (228, .iastore, 1), (229, .aload_n 0, 1), (230, .getfield 60, 3), (233, .iload 13, 2), (235, .iconst 3, 1), (236, .iadd, 1), (237, .iload_n 2, 1), (238, .ifCond .eq 7, 3), (241, .iload_n 1, 1), (242, .goto 5, 3), (245, .iload 11, 2), (247, .iastore, 1), (248, .aload_n 0, 1), (249, .getfield 60, 3), (252, .iload 13, 2), (254, .iconst 4, 1), (255, .iadd, 1), (256, .iload_n 2, 1), (257, .ifCond .eq 8, 3), (260, .iload 11, 2), (262, .goto 4, 3), (265, .iload_n 1, 1), (266, .iastore, 1), (267, .aload_n 0, 1), (268, .getfield 60, 3), (271, .iload 13, 2), (273, .iconst 5, 1), (274, .iadd, 1)]
theorem TX12_order_3 : Tab cX12_order tX12_order_3 = true := by decide +kernel
def tX12_order_4 : Tb := [(275, .aload_n 0, 1), (276, .getfield 238, 3), (279, .iastore, 1), (280, .aload_n 0, 1), (281, .getfield 60, 3), (284, .iload 13, 2), (286, .bipush 6, 2), (288, .iadd, 1), (289, .iconst 0, 1), (290, .iastore, 1), (291, .aload_n 0, 1), (292, .dup, 1), (293, .getfield 270, 3), (296, .iconst 1, 1), (297, .iadd, 1), (298, .putfield 270, 3), (301, .aload_n 0, 1), (302, .aload_n 0, 1), (303, .getfield 60, 3), (306, .iload 13, 2), (308, .iconst 3, 1), (309, .iadd, 1), (310, .iaload, 1), (311, .aload_n 0, 1), (312, .getfield 60, 3), (315, .iload 13, 2), (317, .iconst 4, 1), (318, .iadd, 1), (319, .iaload, 1), (320, .iload_n 3, 1), (321, .iload 12, 2), (323, .iload 10, 2), (325, .invokevirtual 281, 3), (328, .iload 7, 2), (330, .iload 10, 2), (332, .isub, 1), (333, .istore 7, 2), (335, .aload_n 0, 1), (336, .getfield 57, 3), (339, .iconst 5, 1)]
theorem TX12_order_4 : Tab cX12_order tX12_order_4 = true := by decide +kernel
def tX12_order_5 : Tb := [(340, .iload 9, 2), (342, .imul, 1), (343, .iconst 4, 1), (344, .iadd, 1), (345, .dup2, 1), (346, .iaload, 1), (347, .iload 10, 2), (349, .isub, 1), (350, .iastore, 1), (351, .aload_n 0, 1), (352, .getfield 57, 3), (355, .iconst 5, 1), (356, .iload 9, 2), (358, .imul, 1), (359, .iconst 4, 1), (360, .iadd, 1), (361, .iaload, 1), (362, .ifCond .ne 9, 3), (365, .aload_n 0, 1), (366, .iload 9, 2), (368, .invokevirtual 285, 3), (371, .goto (-336), 3), (374, .iload 7, 2), (376, .ifCond .le 89, 3), (379, .aload_n 0, 1), (380, .getfield 270, 3), (383, .sipush 700, 3), (386, .if_icmp .ge 79, 3), (389, .iconst 5, 1), (390, .aload_n 0, 1), (391, .getfield 245, 3), (394, .imul, 1), (395, .istore 9, 2), (397, .aload_n 0, 1), (398, .getfield 57, 3), (401, .iload 9, 2), (403, .iload_n 1, 1), (404, .iastore, 1), (405, .aload_n 0, 1), (406, .getfield 57, 3)]
theorem TX12_order_5 : Tab cX12_order tX12_order_5 = true := by decide +kernel
def tX12_order_6 : Tb := [(409, .iload 9, 2), (411, .iconst 1, 1), (412, .iadd, 1), (413, .iload_n 2, 1), (414, .ifCond .eq 7, 3), (417, .iconst 1, 1), (418, .goto 4, 3), (421, .iconst 0, 1), (422, .iastore, 1), (423, .aload_n 0, 1), (424, .getfield 57, 3), (427, .iload 9, 2), (429, .iconst 2, 1), (430, .iadd, 1), (431, .iload_n 3, 1), (432, .iastore, 1), (433, .aload_n 0, 1), (434, .getfield 57, 3), (437, .iload 9, 2), (439, .iconst 3, 1), (440, .iadd, 1), (441, .iload 4, 2), (443, .iastore, 1), (444, .aload_n 0, 1), (445, .getfield 57, 3), (448, .iload 9, 2), (450, .iconst 4, 1), (451, .iadd, 1), (452, .iload 7, 2), (454, .iastore, 1), (455, .aload_n 0, 1), (456, .dup, 1), (457, .getfield 245, 3), (460, .iconst 1, 1), (461, .iadd, 1), (462, .putfield 245, 3), (465, .iload 5, 2), (467, .iload 7, 2), (469, .isub, 1), (470, .ireturn, 1)]
theorem TX12_order_6 : Tab cX12_order tX12_order_6 = true := by decide +kernel
def tX12_cancel_0 : Tb := [(0, .aload_n 0, 1), (1, .iconst 0, 1), (2, .putfield 90, 3), (5, .aload_n 0, 1), (6, .getfield 245, 3), (9, .iconst 1, 1), (10, .isub, 1), (11, .istore_n 3, 1), (12, .iload_n 3, 1), (13, .ifCond .lt 58, 3), (16, .aload_n 0, 1), (17, .getfield 57, 3), (20, .iconst 5, 1), (21, .iload_n 3, 1), (22, .imul, 1), (23, .iaload, 1), (24, .iload_n 1, 1), (25, .if_icmp .ne 40, 3), (28, .aload_n 0, 1), (29, .getfield 57, 3), (32, .iconst 5, 1), (33, .iload_n 3, 1), (34, .imul, 1), (35, .iconst 2, 1), (36, .iadd, 1), (37, .iaload, 1), (38, .iload_n 2, 1), (39, .if_icmp .eq 6, 3), (42, .goto 23, 3), (45, .aload_n 0, 1), (46, .getfield 57, 3), (49, .iconst 5, 1), (50, .iload_n 3, 1), (51, .imul, 1), (52, .iconst 4, 1), (53, .iadd, 1), (54, .iaload, 1), (55, .istore 4, 2), (57, .aload_n 0, 1), (58, .iload_n 3, 1)]
theorem TX12_cancel_0 : Tab cX12_cancel tX12_cancel_0 = true := by decide +kernel
def tX12_cancel_1 : Tb := [(59, .invokevirtual 285, 3), (62, .iload 4, 2), (64, .ireturn, 1), (65, .iinc 3 (-1), 3), (68, .goto (-56), 3), (71, .iconst (-1), 1), (72, .ireturn, 1)]
theorem TX12_cancel_1 : Tab cX12_cancel tX12_cancel_1 = true := by decide +kernel
def tX12_waiting_0 : Tb := [(0, .aload_n 0, 1), (1, .iconst 0, 1), (2, .putfield 90, 3), (5, .iload_n 2, 1), (6, .invokestatic 255, 3), (9, .ifCond .eq 28, 3), (12, .iload_n 3, 1), (13, .ifCond .lt 24, 3), (16, .iload_n 3, 1), (17, .aload_n 0, 1), (18, .getfield 245, 3), (21, .if_icmp .ge 16, 3), (24, .iload 4, 2), (26, .i2l, 1), (27, .lconst 0, 1), (28, .ldc2_w 288, 3), (31, .invokestatic 97, 3), (34, .ifCond .ne 5, 3), (37, .iconst (-1), 1), (38, .ireturn, 1), (39, .aload_n 0, 1), (40, .iload_n 1, 1), (41, .iload_n 2, 1), (42, .iload_n 3, 1), (43, .invokevirtual 277, 3), (46, .istore 5, 2), (48, .iload 5, 2), (50, .iconst (-1), 1), (51, .if_icmp .ne 7, 3), (54, .iconst (-1), 1), (55, .goto 26, 3), (58, .aload_n 0, 1), (59, .getfield 57, 3), (62, .iconst 5, 1), (63, .iload 5, 2), (65, .imul, 1), (66, .iload 4, 2), (68, .ifCond .ne 7, 3), (71, .iconst 0, 1), (72, .goto 7, 3)]
theorem TX12_waiting_0 : Tab cX12_waiting tX12_waiting_0 = true := by decide +kernel
def tX12_waiting_1 : Tb := [(75, .iconst 2, 1), (76, .iload 4, 2), (78, .iadd, 1), (79, .iadd, 1), (80, .iaload, 1), (81, .ireturn, 1)]
theorem TX12_waiting_1 : Tab cX12_waiting tX12_waiting_1 = true := by decide +kernel
def tX12_trade_0 : Tb := [(0, .aload_n 0, 1), (1, .iconst 0, 1), (2, .putfield 90, 3), (5, .iload_n 1, 1), (6, .i2l, 1), (7, .lconst 0, 1), (8, .aload_n 0, 1), (9, .getfield 270, 3), (12, .iconst 1, 1), (13, .isub, 1), (14, .i2l, 1), (15, .invokestatic 97, 3), (18, .ifCond .eq 29, 3), (21, .iload_n 2, 1), (22, .i2l, 1), (23, .lconst 0, 1), (24, .ldc2_w 290, 3), (27, .invokestatic 97, 3), (30, .ifCond .eq 17, 3), (33, .aload_n 0, 1), (34, .getfield 60, 3), (37, .bipush 7, 2), (39, .iload_n 1, 1), (40, .imul, 1), (41, .iload_n 2, 1), (42, .iadd, 1), (43, .iaload, 1), (44, .goto 4, 3), (47, .iconst (-1), 1), (48, .ireturn, 1)]
theorem TX12_trade_0 : Tab cX12_trade tX12_trade_0 = true := by decide +kernel
def tX12_strike_0 : Tb := [(0, .aload_n 0, 1), (1, .iconst 0, 1), (2, .putfield 90, 3), (5, .iload_n 1, 1), (6, .i2l, 1), (7, .lconst 0, 1), (8, .aload_n 0, 1), (9, .getfield 270, 3), (12, .iconst 1, 1), (13, .isub, 1), (14, .i2l, 1), (15, .invokestatic 97, 3), (18, .ifCond .ne 5, 3), (21, .iconst 0, 1), (22, .ireturn, 1), (23, .bipush 7, 2), (25, .iload_n 1, 1), (26, .imul, 1), (27, .istore_n 2, 1), (28, .aload_n 0, 1), (29, .getfield 60, 3), (32, .iload_n 2, 1), (33, .bipush 6, 2), (35, .iadd, 1), (36, .iaload, 1), (37, .iconst 1, 1), (38, .if_icmp .eq 49, 3), (41, .aload_n 0, 1), (42, .getfield 36, 3), (45, .aload_n 0, 1), (46, .getfield 60, 3), (49, .iload_n 2, 1), (50, .iconst 3, 1), (51, .iadd, 1), (52, .iaload, 1), (53, .baload, 1), (54, .ifCond .ne 33, 3), (57, .aload_n 0, 1), (58, .getfield 36, 3), (61, .aload_n 0, 1)]
theorem TX12_strike_0 : Tab cX12_strike tX12_strike_0 = true := by decide +kernel
def tX12_strike_1 : Tb := [(62, .getfield 60, 3), (65, .iload_n 2, 1), (66, .iconst 4, 1), (67, .iadd, 1), (68, .iaload, 1), (69, .baload, 1), (70, .ifCond .ne 17, 3), (73, .aload_n 0, 1), (74, .getfield 54, 3), (77, .aload_n 0, 1), (78, .getfield 60, 3), (81, .iload_n 2, 1), (82, .iaload, 1), (83, .baload, 1), (84, .ifCond .eq 5, 3), (87, .iconst 0, 1), (88, .ireturn, 1), (89, .aload_n 0, 1), (90, .getfield 60, 3), (93, .iload_n 2, 1), (94, .bipush 6, 2), (96, .iadd, 1), (97, .iconst 1, 1), (98, .iastore, 1), (99, .aload_n 0, 1), (100, .aload_n 0, 1), (101, .getfield 60, 3), (104, .iload_n 2, 1), (105, .iconst 4, 1), (106, .iadd, 1), (107, .iaload, 1), (108, .aload_n 0, 1), (109, .getfield 60, 3), (112, .iload_n 2, 1), (113, .iconst 3, 1), (114, .iadd, 1), (115, .iaload, 1), (116, .aload_n 0, 1), (117, .getfield 60, 3), (120, .iload_n 2, 1)]
theorem TX12_strike_1 : Tab cX12_strike tX12_strike_1 = true := by decide +kernel
def tX12_strike_2 : Tb := [(121, .iaload, 1), (122, .aload_n 0, 1), (123, .getfield 60, 3), (126, .iload_n 2, 1), (127, .iconst 1, 1), (128, .iadd, 1), (129, .iaload, 1), (130, .aload_n 0, 1), (131, .getfield 60, 3), (134, .iload_n 2, 1), (135, .iconst 2, 1), (136, .iadd, 1), (137, .iaload, 1), (138, .invokevirtual 281, 3), (141, .iconst 1, 1), (142, .ireturn, 1)]
theorem TX12_strike_2 : Tab cX12_strike tX12_strike_2 = true := by decide +kernel
def tX12_equityOf_0 : Tb := [(0, .aload_n 0, 1), (1, .getfield 28, 3), (4, .iload_n 1, 1), (5, .laload, 1), (6, .lstore_n 2, 1), (7, .iconst 0, 1), (8, .istore 4, 2), (10, .iload 4, 2), (12, .bipush 6, 2), (14, .if_icmp .ge 47, 3), (17, .lload_n 2, 1), (18, .aload_n 0, 1), (19, .getfield 39, 3), (22, .bipush 6, 2), (24, .iload_n 1, 1), (25, .imul, 1), (26, .iload 4, 2), (28, .iadd, 1), (29, .iaload, 1), (30, .i2l, 1), (31, .aload_n 0, 1), (32, .getfield 87, 3), (35, .iload 4, 2), (37, .iaload, 1), (38, .i2l, 1), (39, .lmul, 1), (40, .aload_n 0, 1), (41, .getfield 42, 3), (44, .bipush 6, 2), (46, .iload_n 1, 1), (47, .imul, 1), (48, .iload 4, 2), (50, .iadd, 1), (51, .laload, 1), (52, .lsub, 1), (53, .ladd, 1), (54, .lstore_n 2, 1), (55, .iinc 4 1, 3), (58, .goto (-48), 3), (61, .lload_n 2, 1)]
theorem TX12_equityOf_0 : Tab cX12_equityOf tX12_equityOf_0 = true := by decide +kernel
def tX12_equityOf_1 : Tb := [(62, .lreturn, 1)]
theorem TX12_equityOf_1 : Tab cX12_equityOf tX12_equityOf_1 = true := by decide +kernel
def tX12_need_0 : Tb := [(0, .lconst 0, 1), (1, .lstore_n 3, 1), (2, .iconst 0, 1), (3, .istore 5, 2), (5, .iload 5, 2), (7, .bipush 6, 2), (9, .if_icmp .ge 65, 3), (12, .aload_n 0, 1), (13, .getfield 39, 3), (16, .bipush 6, 2), (18, .iload_n 1, 1), (19, .imul, 1), (20, .iload 5, 2), (22, .iadd, 1), (23, .iaload, 1), (24, .invokestatic 265, 3), (27, .istore 6, 2), (29, .aload_n 0, 1), (30, .iload_n 2, 1), (31, .aload_n 0, 1), (32, .getfield 238, 3), (35, .iload 5, 2), (37, .aload_n 0, 1), (38, .getfield 87, 3), (41, .iload 5, 2), (43, .iaload, 1), (44, .iload 6, 2), (46, .iconst 0, 1), (47, .iconst 0, 1), (48, .invokevirtual 231, 3), (51, .istore 7, 2), (53, .iload 7, 2), (55, .ifCond .le 13, 3), (58, .lload_n 3, 1), (59, .iload 6, 2), (61, .i2l, 1), (62, .iload 7, 2), (64, .i2l, 1), (65, .lmul, 1), (66, .ladd, 1)]
theorem TX12_need_0 : Tab cX12_need tX12_need_0 = true := by decide +kernel
def tX12_need_1 : Tb := [(67, .lstore_n 3, 1), (68, .iinc 5 1, 3), (71, .goto (-66), 3), (74, .lload_n 3, 1), (75, .lreturn, 1)]
theorem TX12_need_1 : Tab cX12_need tX12_need_1 = true := by decide +kernel
def tX12_latestPrices_0 : Tb := [(0, .iconst 0, 1), (1, .istore_n 1, 1), (2, .iload_n 1, 1), (3, .bipush 6, 2), (5, .if_icmp .ge 33, 3), (8, .aload_n 0, 1), (9, .getfield 87, 3), (12, .iload_n 1, 1), (13, .aload_n 0, 1), (14, .iload_n 1, 1), (15, .invokevirtual 262, 3), (18, .iconst (-1), 1), (19, .if_icmp .ne 7, 3), (22, .iconst 0, 1), (23, .goto 8, 3), (26, .aload_n 0, 1), (27, .iload_n 1, 1), (28, .invokevirtual 262, 3), (31, .iastore, 1), (32, .iinc 1 1, 3), (35, .goto (-33), 3), (38, .return_, 1)]
theorem TX12_latestPrices_0 : Tab cX12_latestPrices tX12_latestPrices_0 = true := by decide +kernel
def tX12_fail_0 : Tb := [(0, .aload_n 0, 1), (1, .getfield 36, 3), (4, .iload_n 1, 1), (5, .iconst 1, 1), (6, .bastore, 1), (7, .aload_n 0, 1), (8, .getfield 32, 3), (11, .iload_n 1, 1), (12, .iconst 0, 1), (13, .bastore, 1), (14, .iconst 0, 1), (15, .istore_n 2, 1), (16, .iload_n 2, 1), (17, .bipush 6, 2), (19, .if_icmp .ge 163, 3), (22, .iload_n 1, 1), (23, .istore_n 3, 1), (24, .bipush 6, 2), (26, .iload_n 1, 1), (27, .imul, 1), (28, .iload_n 2, 1), (29, .iadd, 1), (30, .istore 4, 2), (32, .aload_n 0, 1), (33, .getfield 39, 3), (36, .iload 4, 2), (38, .iaload, 1), (39, .ifCond .eq 137, 3), (42, .aload_n 0, 1), (43, .getfield 39, 3), (46, .iload 4, 2), (48, .iaload, 1), (49, .ifCond .le 7, 3), (52, .iconst 1, 1), (53, .goto 4, 3), (56, .iconst 0, 1), (57, .istore 5, 2), (59, .iload_n 3, 1), (60, .iconst 1, 1), (61, .iadd, 1)]
theorem TX12_fail_0 : Tab cX12_fail tX12_fail_0 = true := by decide +kernel
def tX12_fail_1 : Tb := [(62, .aload_n 0, 1), (63, .getfield 94, 3), (66, .irem, 1), (67, .istore 6, 2), (69, .iconst 0, 1), (70, .istore 7, 2), (72, .iload 7, 2), (74, .aload_n 0, 1), (75, .getfield 94, 3), (78, .if_icmp .ge 58, 3), (81, .iload 5, 2), (83, .ifCond .eq 21, 3), (86, .aload_n 0, 1), (87, .getfield 39, 3), (90, .bipush 6, 2), (92, .iload 6, 2), (94, .imul, 1), (95, .iload_n 2, 1), (96, .iadd, 1), (97, .iaload, 1), (98, .ifCond .lt 38, 3), (101, .goto 18, 3), (104, .aload_n 0, 1), (105, .getfield 39, 3), (108, .bipush 6, 2), (110, .iload 6, 2), (112, .imul, 1), (113, .iload_n 2, 1), (114, .iadd, 1), (115, .iaload, 1), (116, .ifCond .gt 20, 3), (119, .iload 6, 2), (121, .iconst 1, 1), (122, .iadd, 1), (123, .aload_n 0, 1), (124, .getfield 94, 3), (127, .irem, 1), (128, .istore 6, 2), (130, .iinc 7 1, 3), (133, .goto (-61), 3)]
theorem TX12_fail_1 : Tab cX12_fail tX12_fail_1 = true := by decide +kernel
def tX12_fail_2 : Tb := [(136, .iload 6, 2), (138, .istore_n 3, 1), (139, .aload_n 0, 1), (140, .iload 5, 2), (142, .ifCond .eq 8, 3), (145, .iload 6, 2), (147, .goto 4, 3), (150, .iload_n 1, 1), (151, .iload 5, 2), (153, .ifCond .eq 7, 3), (156, .iload_n 1, 1), (157, .goto 5, 3), (160, .iload 6, 2), (162, .iload_n 2, 1), (163, .aload_n 0, 1), (164, .getfield 87, 3), (167, .iload_n 2, 1), (168, .iaload, 1), (169, .iconst 1, 1), (170, .invokevirtual 281, 3), (173, .goto (-141), 3), (176, .iinc 2 1, 3), (179, .goto (-163), 3), (182, .return_, 1)]
theorem TX12_fail_2 : Tab cX12_fail tX12_fail_2 = true := by decide +kernel
def tX12_night_0 : Tb := [(0, .aload_n 0, 1), (1, .iconst 0, 1), (2, .putfield 90, 3), (5, .aload_n 0, 1), (6, .getfield 238, 3), (9, .sipush 150, 3), (12, .if_icmp .ne 5, 3), (15, .iconst (-1), 1), (16, .ireturn, 1), (17, .aload_n 0, 1), (18, .iconst 0, 1), (19, .putfield 245, 3), (22, .iconst 0, 1), (23, .istore_n 1, 1), (24, .iload_n 1, 1), (25, .bipush 6, 2), (27, .if_icmp .ge 118, 3), (30, .aload_n 0, 1), (31, .iload_n 1, 1), (32, .invokevirtual 262, 3), (35, .istore_n 2, 1), (36, .iconst 0, 1), (37, .istore_n 3, 1), (38, .iload_n 3, 1), (39, .aload_n 0, 1), (40, .getfield 270, 3), (43, .if_icmp .ge 65, 3), (46, .bipush 7, 2), (48, .iload_n 3, 1), (49, .imul, 1), (50, .istore 4, 2), (52, .aload_n 0, 1), (53, .getfield 60, 3), (56, .iload 4, 2), (58, .iaload, 1), (59, .iload_n 1, 1), (60, .if_icmp .ne 42, 3), (63, .aload_n 0, 1), (64, .getfield 60, 3), (67, .iload 4, 2)]
theorem TX12_night_0 : Tab cX12_night tX12_night_0 = true := by decide +kernel
def tX12_night_1 : Tb := [(69, .iconst 5, 1), (70, .iadd, 1), (71, .iaload, 1), (72, .aload_n 0, 1), (73, .getfield 238, 3), (76, .if_icmp .ne 26, 3), (79, .aload_n 0, 1), (80, .getfield 60, 3), (83, .iload 4, 2), (85, .bipush 6, 2), (87, .iadd, 1), (88, .iaload, 1), (89, .ifCond .ne 13, 3), (92, .aload_n 0, 1), (93, .getfield 60, 3), (96, .iload 4, 2), (98, .iconst 1, 1), (99, .iadd, 1), (100, .iaload, 1), (101, .istore_n 2, 1), (102, .iinc 3 1, 3), (105, .goto (-67), 3), (108, .aload_n 0, 1), (109, .getfield 63, 3), (112, .bipush 6, 2), (114, .aload_n 0, 1), (115, .getfield 238, 3), (118, .imul, 1), (119, .iload_n 1, 1), (120, .iadd, 1), (121, .iload_n 2, 1), (122, .iastore, 1), (123, .aload_n 0, 1), (124, .getfield 87, 3), (127, .iload_n 1, 1), (128, .iload_n 2, 1), (129, .iconst (-1), 1), (130, .if_icmp .ne 7, 3), (133, .iconst 0, 1), (134, .goto 4, 3)]
theorem TX12_night_1 : Tab cX12_night tX12_night_1 = true := by decide +kernel
def tX12_night_2 : Tb := [(137, .iload_n 2, 1), (138, .iastore, 1), (139, .iinc 1 1, 3), (142, .goto (-118), 3), (145, .iconst 0, 1), (146, .istore_n 1, 1), (147, .iconst 0, 1), (148, .istore_n 2, 1), (149, .iload_n 2, 1), (150, .aload_n 0, 1), (151, .getfield 94, 3), (154, .if_icmp .ge 101, 3), (157, .aload_n 0, 1), (158, .getfield 36, 3), (161, .iload_n 2, 1), (162, .baload, 1), (163, .ifCond .eq 6, 3), (166, .goto 83, 3), (169, .aload_n 0, 1), (170, .iload_n 2, 1), (171, .invokevirtual 292, 3), (174, .lstore_n 3, 1), (175, .lload_n 3, 1), (176, .aload_n 0, 1), (177, .iload_n 2, 1), (178, .iconst 1, 1), (179, .invokevirtual 296, 3), (182, .lcmp, 1), (183, .ifCond .ge 7, 3), (186, .iconst 1, 1), (187, .goto 4, 3), (190, .iconst 0, 1), (191, .istore 5, 2), (193, .aload_n 0, 1), (194, .getfield 32, 3), (197, .iload_n 2, 1), (198, .baload, 1), (199, .ifCond .eq 19, 3), (202, .iload 5, 2), (204, .ifCond .eq 14, 3)]
theorem TX12_night_2 : Tab cX12_night tX12_night_2 = true := by decide +kernel
def tX12_night_3 : Tb := [(207, .aload_n 0, 1), (208, .iload_n 2, 1), (209, .invokevirtual 300, 3), (212, .iinc 1 1, 3), (215, .goto 34, 3), (218, .aload_n 0, 1), (219, .getfield 32, 3), (222, .iload_n 2, 1), (223, .aload_n 0, 1), (224, .getfield 32, 3), (227, .iload_n 2, 1), (228, .baload, 1), (229, .ifCond .ne 18, 3), (232, .lload_n 3, 1), (233, .aload_n 0, 1), (234, .iload_n 2, 1), (235, .iconst 2, 1), (236, .invokevirtual 296, 3), (239, .lcmp, 1), (240, .ifCond .ge 7, 3), (243, .iconst 1, 1), (244, .goto 4, 3), (247, .iconst 0, 1), (248, .bastore, 1), (249, .iinc 2 1, 3), (252, .goto (-103), 3), (255, .iconst 0, 1), (256, .istore_n 2, 1), (257, .iload_n 2, 1), (258, .bipush 12, 2), (260, .if_icmp .ge 29, 3), (263, .aload_n 0, 1), (264, .getfield 66, 3), (267, .bipush 12, 2), (269, .aload_n 0, 1), (270, .getfield 238, 3), (273, .imul, 1), (274, .iload_n 2, 1), (275, .iadd, 1), (276, .aload_n 0, 1)]
theorem TX12_night_3 : Tab cX12_night tX12_night_3 = true := by decide +kernel
def tX12_night_4 : Tb := [(277, .getfield 28, 3), (280, .iload_n 2, 1), (281, .laload, 1), (282, .lastore, 1), (283, .iinc 2 1, 3), (286, .goto (-29), 3), (289, .iconst 0, 1), (290, .istore_n 2, 1), (291, .iload_n 2, 1), (292, .bipush 72, 2), (294, .if_icmp .ge 49, 3), (297, .aload_n 0, 1), (298, .getfield 69, 3), (301, .bipush 72, 2), (303, .aload_n 0, 1), (304, .getfield 238, 3), (307, .imul, 1), (308, .iload_n 2, 1), (309, .iadd, 1), (310, .aload_n 0, 1), (311, .getfield 39, 3), (314, .iload_n 2, 1), (315, .iaload, 1), (316, .iastore, 1), (317, .aload_n 0, 1), (318, .getfield 72, 3), (321, .bipush 72, 2), (323, .aload_n 0, 1), (324, .getfield 238, 3), (327, .imul, 1), (328, .iload_n 2, 1), (329, .iadd, 1), (330, .aload_n 0, 1), (331, .getfield 42, 3), (334, .iload_n 2, 1), (335, .laload, 1), (336, .lastore, 1), (337, .iinc 2 1, 3), (340, .goto (-49), 3), (343, .aload_n 0, 1)]
theorem TX12_night_4 : Tab cX12_night tX12_night_4 = true := by decide +kernel
def tX12_night_5 : Tb := [(344, .dup, 1), (345, .getfield 238, 3), (348, .iconst 1, 1), (349, .iadd, 1), (350, .putfield 238, 3), (353, .iload_n 1, 1), (354, .ireturn, 1)]
theorem TX12_night_5 : Tab cX12_night tX12_night_5 = true := by decide +kernel
def tX12_member_0 : Tb := [(0, .aload_n 0, 1), (1, .iconst 0, 1), (2, .putfield 90, 3), (5, .aload_n 0, 1), (6, .getfield 94, 3), (9, .bipush 12, 2), (11, .if_icmp .ne 5, 3), (14, .iconst (-1), 1), (15, .ireturn, 1), (16, .aload_n 0, 1), (17, .dup, 1), (18, .getfield 94, 3), (21, .iconst 1, 1), (22, .iadd, 1), (23, .putfield 94, 3), (26, .aload_n 0, 1), (27, .getfield 94, 3), (30, .iconst 1, 1), (31, .isub, 1), (32, .ireturn, 1)]
theorem TX12_member_0 : Tab cX12_member tX12_member_0 = true := by decide +kernel
def tX12_pay_0 : Tb := [(0, .aload_n 0, 1), (1, .iconst 0, 1), (2, .putfield 90, 3), (5, .aload_n 0, 1), (6, .iload_n 1, 1), (7, .invokevirtual 252, 3), (10, .ifCond .eq 17, 3), (13, .iload_n 2, 1), (14, .i2l, 1), (15, .ldc2_w 303, 3), (18, .ldc2_w 305, 3), (21, .invokestatic 97, 3), (24, .ifCond .ne 10, 3), (27, .aload_n 0, 1), (28, .iconst 1, 1), (29, .putfield 90, 3), (32, .lconst 0, 1), (33, .lreturn, 1), (34, .aload_n 0, 1), (35, .getfield 28, 3), (38, .iload_n 1, 1), (39, .dup2, 1), (40, .laload, 1), (41, .iload_n 2, 1), (42, .i2l, 1), (43, .ladd, 1), (44, .lastore, 1), (45, .aload_n 0, 1), (46, .getfield 28, 3), (49, .iload_n 1, 1), (50, .laload, 1), (51, .lreturn, 1)]
theorem TX12_pay_0 : Tab cX12_pay tX12_pay_0 = true := by decide +kernel
def tX12_money_0 : Tb := [(0, .aload_n 0, 1), (1, .iconst 0, 1), (2, .putfield 90, 3), (5, .aload_n 0, 1), (6, .iload_n 1, 1), (7, .invokevirtual 252, 3), (10, .ifCond .eq 15, 3), (13, .iload_n 2, 1), (14, .i2l, 1), (15, .lconst 0, 1), (16, .ldc2_w 290, 3), (19, .invokestatic 97, 3), (22, .ifCond .ne 10, 3), (25, .aload_n 0, 1), (26, .iconst 1, 1), (27, .putfield 90, 3), (30, .lconst 0, 1), (31, .lreturn, 1), (32, .aload_n 0, 1), (33, .invokevirtual 307, 3), (36, .lconst 0, 1), (37, .lstore_n 3, 1), (38, .iload_n 2, 1), (39, .tableswitch 94 0 5 #[37, 44, 50, 65, 80, 87], 37), (76, .aload_n 0, 1), (77, .getfield 28, 3), (80, .iload_n 1, 1), (81, .laload, 1), (82, .lreturn, 1), (83, .aload_n 0, 1), (84, .iload_n 1, 1), (85, .invokevirtual 292, 3), (88, .lreturn, 1), (89, .aload_n 0, 1), (90, .getfield 32, 3), (93, .iload_n 1, 1), (94, .baload, 1), (95, .ifCond .eq 7, 3), (98, .lconst 1, 1), (99, .goto 4, 3)]
theorem TX12_money_0 : Tab cX12_money tX12_money_0 = true := by decide +kernel
def tX12_money_1 : Tb := [(102, .lconst 0, 1), (103, .lreturn, 1), (104, .aload_n 0, 1), (105, .getfield 36, 3), (108, .iload_n 1, 1), (109, .baload, 1), (110, .ifCond .eq 7, 3), (113, .lconst 1, 1), (114, .goto 4, 3), (117, .lconst 0, 1), (118, .lreturn, 1), (119, .aload_n 0, 1), (120, .iload_n 1, 1), (121, .iconst 1, 1), (122, .invokevirtual 296, 3), (125, .lreturn, 1), (126, .aload_n 0, 1), (127, .iload_n 1, 1), (128, .iconst 2, 1), (129, .invokevirtual 296, 3), (132, .lreturn, 1), (133, .iconst 0, 1), (134, .istore 5, 2), (136, .iload 5, 2), (138, .aload_n 0, 1), (139, .getfield 310, 3), (142, .if_icmp .ge 43, 3), (145, .aload_n 0, 1), (146, .getfield 78, 3), (149, .iconst 4, 1), (150, .iload 5, 2), (152, .imul, 1), (153, .iconst 2, 1), (154, .iadd, 1), (155, .iaload, 1), (156, .iload_n 1, 1), (157, .if_icmp .ne 22, 3), (160, .aload_n 0, 1), (161, .getfield 78, 3), (164, .iconst 4, 1)]
theorem TX12_money_1 : Tab cX12_money tX12_money_1 = true := by decide +kernel
def tX12_money_2 : Tb := [(165, .iload 5, 2), (167, .imul, 1), (168, .iconst 3, 1), (169, .iadd, 1), (170, .iaload, 1), (171, .iconst 1, 1), (172, .if_icmp .ne 7, 3), (175, .lload_n 3, 1), (176, .lconst 1, 1), (177, .ladd, 1), (178, .lstore_n 3, 1), (179, .iinc 5 1, 3), (182, .goto (-46), 3), (185, .lload_n 3, 1), (186, .lreturn, 1)]
theorem TX12_money_2 : Tab cX12_money tX12_money_2 = true := by decide +kernel
def tX12_position_0 : Tb := [(0, .aload_n 0, 1), (1, .iconst 0, 1), (2, .putfield 90, 3), (5, .aload_n 0, 1), (6, .iload_n 1, 1), (7, .invokevirtual 252, 3), (10, .ifCond .eq 10, 3), (13, .iload_n 2, 1), (14, .invokestatic 255, 3), (17, .ifCond .ne 10, 3), (20, .aload_n 0, 1), (21, .iconst 1, 1), (22, .putfield 90, 3), (25, .iconst 0, 1), (26, .ireturn, 1), (27, .aload_n 0, 1), (28, .getfield 39, 3), (31, .bipush 6, 2), (33, .iload_n 1, 1), (34, .imul, 1), (35, .iload_n 2, 1), (36, .iadd, 1), (37, .iaload, 1), (38, .ireturn, 1)]
theorem TX12_position_0 : Tab cX12_position tX12_position_0 = true := by decide +kernel
def tX12_longOf_0 : Tb := [(0, .aload_n 0, 1), (1, .iconst 0, 1), (2, .putfield 90, 3), (5, .iload_n 1, 1), (6, .invokestatic 255, 3), (9, .ifCond .eq 31, 3), (12, .iload_n 2, 1), (13, .i2l, 1), (14, .lconst 0, 1), (15, .aload_n 0, 1), (16, .getfield 51, 3), (19, .iload_n 1, 1), (20, .iaload, 1), (21, .iconst 1, 1), (22, .isub, 1), (23, .i2l, 1), (24, .invokestatic 97, 3), (27, .ifCond .eq 13, 3), (30, .iload_n 3, 1), (31, .i2l, 1), (32, .lconst 0, 1), (33, .lconst 1, 1), (34, .invokestatic 97, 3), (37, .ifCond .ne 5, 3), (40, .iconst (-1), 1), (41, .ireturn, 1), (42, .iload_n 3, 1), (43, .ifCond .ne 18, 3), (46, .aload_n 0, 1), (47, .getfield 45, 3), (50, .sipush 1600, 3), (53, .iload_n 1, 1), (54, .imul, 1), (55, .iload_n 2, 1), (56, .iadd, 1), (57, .iaload, 1), (58, .goto 15, 3), (61, .aload_n 0, 1), (62, .getfield 48, 3), (65, .sipush 1600, 3)]
theorem TX12_longOf_0 : Tab cX12_longOf tX12_longOf_0 = true := by decide +kernel
def tX12_longOf_1 : Tb := [(68, .iload_n 1, 1), (69, .imul, 1), (70, .iload_n 2, 1), (71, .iadd, 1), (72, .iaload, 1), (73, .ireturn, 1)]
theorem TX12_longOf_1 : Tab cX12_longOf tX12_longOf_1 = true := by decide +kernel
def tX12_count_0 : Tb := [(0, .aload_n 0, 1), (1, .iconst 0, 1), (2, .putfield 90, 3), (5, .iconst 0, 1), (6, .istore_n 2, 1), (7, .iload_n 1, 1), (8, .tableswitch 126 0 8 #[52, 57, 62, 67, 72, 77, 82, 87, 121], 52), (60, .aload_n 0, 1), (61, .getfield 238, 3), (64, .ireturn, 1), (65, .aload_n 0, 1), (66, .getfield 94, 3), (69, .ireturn, 1), (70, .aload_n 0, 1), (71, .getfield 270, 3), (74, .ireturn, 1), (75, .aload_n 0, 1), (76, .getfield 245, 3), (79, .ireturn, 1), (80, .aload_n 0, 1), (81, .getfield 202, 3), (84, .ireturn, 1), (85, .aload_n 0, 1), (86, .getfield 310, 3), (89, .ireturn, 1), (90, .aload_n 0, 1), (91, .getfield 313, 3), (94, .ireturn, 1), (95, .iconst 0, 1), (96, .istore_n 3, 1), (97, .iload_n 3, 1), (98, .aload_n 0, 1), (99, .getfield 313, 3), (102, .if_icmp .ge 25, 3), (105, .aload_n 0, 1), (106, .getfield 81, 3), (109, .bipush 7, 2), (111, .iload_n 3, 1), (112, .imul, 1), (113, .iaload, 1)]
theorem TX12_count_0 : Tab cX12_count tX12_count_0 = true := by decide +kernel
def tX12_count_1 : Tb := [(114, .iconst 1, 1), (115, .if_icmp .ne 6, 3), (118, .iinc 2 1, 3), (121, .iinc 3 1, 3), (124, .goto (-27), 3), (127, .iload_n 2, 1), (128, .ireturn, 1), (129, .aload_n 0, 1), (130, .getfield 103, 3), (133, .ireturn, 1), (134, .iconst (-1), 1), (135, .ireturn, 1)]
theorem TX12_count_1 : Tab cX12_count tX12_count_1 = true := by decide +kernel
def tX12_deliver_0 : Tb := [(0, .aload_n 0, 1), (1, .iconst 0, 1), (2, .putfield 90, 3), (5, .iload_n 1, 1), (6, .invokestatic 255, 3), (9, .ifCond .eq 12, 3), (12, .aload_n 0, 1), (13, .getfield 54, 3), (16, .iload_n 1, 1), (17, .baload, 1), (18, .ifCond .eq 5, 3), (21, .iconst 0, 1), (22, .ireturn, 1), (23, .aload_n 0, 1), (24, .getfield 54, 3), (27, .iload_n 1, 1), (28, .iconst 1, 1), (29, .bastore, 1), (30, .aload_n 0, 1), (31, .getfield 245, 3), (34, .iconst 1, 1), (35, .isub, 1), (36, .istore_n 2, 1), (37, .iload_n 2, 1), (38, .ifCond .lt 28, 3), (41, .aload_n 0, 1), (42, .getfield 57, 3), (45, .iconst 5, 1), (46, .iload_n 2, 1), (47, .imul, 1), (48, .iconst 2, 1), (49, .iadd, 1), (50, .iaload, 1), (51, .iload_n 1, 1), (52, .if_icmp .ne 8, 3), (55, .aload_n 0, 1), (56, .iload_n 2, 1), (57, .invokevirtual 285, 3), (60, .iinc 2 (-1), 3), (63, .goto (-26), 3)]
theorem TX12_deliver_0 : Tab cX12_deliver tX12_deliver_0 = true := by decide +kernel
def tX12_deliver_1 : Tb := [(66, .iconst 1, 1), (67, .ireturn, 1)]
theorem TX12_deliver_1 : Tab cX12_deliver tX12_deliver_1 = true := by decide +kernel
def tX12_receipt_0 : Tb := [(0, .aload_n 0, 1), (1, .iconst 0, 1), (2, .putfield 90, 3), (5, .aload_n 0, 1), (6, .iload_n 1, 1), (7, .invokevirtual 252, 3), (10, .ifCond .eq 36, 3), (13, .iload_n 2, 1), (14, .i2l, 1), (15, .lconst 0, 1), (16, .ldc2_w 316, 3), (19, .invokestatic 97, 3), (22, .ifCond .eq 24, 3), (25, .iload_n 3, 1), (26, .i2l, 1), (27, .lconst 0, 1), (28, .ldc2_w 316, 3), (31, .invokestatic 97, 3), (34, .ifCond .eq 12, 3), (37, .aload_n 0, 1), (38, .getfield 310, 3), (41, .bipush 60, 2), (43, .if_icmp .ne 5, 3), (46, .iconst (-1), 1), (47, .ireturn, 1), (48, .iconst 4, 1), (49, .aload_n 0, 1), (50, .getfield 310, 3), (53, .imul, 1), (54, .istore 4, 2), (56, .aload_n 0, 1), (57, .getfield 78, 3), (60, .iload 4, 2), (62, .iload_n 2, 1), (63, .iastore, 1), (64, .aload_n 0, 1), (65, .getfield 78, 3), (68, .iload 4, 2), (70, .iconst 1, 1), (71, .iadd, 1)]
theorem TX12_receipt_0 : Tab cX12_receipt tX12_receipt_0 = true := by decide +kernel
def tX12_receipt_1 : Tb := [(72, .iload_n 3, 1), (73, .iastore, 1), (74, .aload_n 0, 1), (75, .getfield 78, 3), (78, .iload 4, 2), (80, .iconst 2, 1), (81, .iadd, 1), (82, .iload_n 1, 1), (83, .iastore, 1), (84, .aload_n 0, 1), (85, .getfield 78, 3), (88, .iload 4, 2), (90, .iconst 3, 1), (91, .iadd, 1), (92, .iconst 1, 1), (93, .iastore, 1), (94, .aload_n 0, 1), (95, .dup, 1), (96, .getfield 310, 3), (99, .iconst 1, 1), (100, .iadd, 1), (101, .putfield 310, 3), (104, .aload_n 0, 1), (105, .getfield 310, 3), (108, .iconst 1, 1), (109, .isub, 1), (110, .ireturn, 1)]
theorem TX12_receipt_1 : Tab cX12_receipt tX12_receipt_1 = true := by decide +kernel
def tX12_notice_0 : Tb := [(0, .aload_n 0, 1), (1, .iconst 0, 1), (2, .putfield 90, 3), (5, .aload_n 0, 1), (6, .iload_n 1, 1), (7, .invokevirtual 252, 3), (10, .ifCond .eq 35, 3), (13, .iload_n 2, 1), (14, .invokestatic 255, 3), (17, .ifCond .eq 28, 3), (20, .iload_n 3, 1), (21, .i2l, 1), (22, .lconst 0, 1), (23, .aload_n 0, 1), (24, .getfield 310, 3), (27, .iconst 1, 1), (28, .isub, 1), (29, .i2l, 1), (30, .invokestatic 97, 3), (33, .ifCond .eq 12, 3), (36, .aload_n 0, 1), (37, .getfield 313, 3), (40, .bipush 80, 2), (42, .if_icmp .ne 5, 3), (45, .iconst (-1), 1), (46, .ireturn, 1), (47, .aload_n 0, 1), (48, .getfield 39, 3), (51, .bipush 6, 2), (53, .iload_n 1, 1), (54, .imul, 1), (55, .iload_n 2, 1), (56, .iadd, 1), (57, .iaload, 1), (58, .ineg, 1), (59, .istore 4, 2), (61, .iload 4, 2), (63, .ifCond .le 57, 3), (66, .aload_n 0, 1), (67, .getfield 54, 3)]
theorem TX12_notice_0 : Tab cX12_notice tX12_notice_0 = true := by decide +kernel
def tX12_notice_1 : Tb := [(70, .iload_n 2, 1), (71, .baload, 1), (72, .ifCond .eq 48, 3), (75, .aload_n 0, 1), (76, .iload_n 2, 1), (77, .invokevirtual 262, 3), (80, .iconst (-1), 1), (81, .if_icmp .eq 39, 3), (84, .aload_n 0, 1), (85, .getfield 78, 3), (88, .iconst 4, 1), (89, .iload_n 3, 1), (90, .imul, 1), (91, .iconst 2, 1), (92, .iadd, 1), (93, .iaload, 1), (94, .iload_n 1, 1), (95, .if_icmp .ne 25, 3), (98, .aload_n 0, 1), (99, .getfield 78, 3), (102, .iconst 4, 1), (103, .iload_n 3, 1), (104, .imul, 1), (105, .iconst 3, 1), (106, .iadd, 1), (107, .iaload, 1), (108, .ifCond .eq 12, 3), (111, .aload_n 0, 1), (112, .getfield 51, 3), (115, .iload_n 2, 1), (116, .iaload, 1), (117, .ifCond .ne 5, 3), (120, .iconst (-1), 1), (121, .ireturn, 1), (122, .iconst 0, 1), (123, .istore 5, 2), (125, .iconst 0, 1), (126, .istore 6, 2), (128, .iload 6, 2), (130, .aload_n 0, 1)]
theorem TX12_notice_1 : Tab cX12_notice tX12_notice_1 = true := by decide +kernel
def tX12_notice_2 : Tb := [(131, .getfield 313, 3), (134, .if_icmp .ge 56, 3), (137, .bipush 7, 2), (139, .iload 6, 2), (141, .imul, 1), (142, .istore 7, 2), (144, .aload_n 0, 1), (145, .getfield 81, 3), (148, .iload 7, 2), (150, .iaload, 1), (151, .iconst 1, 1), (152, .if_icmp .ne 32, 3), (155, .aload_n 0, 1), (156, .getfield 81, 3), (159, .iload 7, 2), (161, .iconst 2, 1), (162, .iadd, 1), (163, .iaload, 1), (164, .iload_n 1, 1), (165, .if_icmp .ne 19, 3), (168, .aload_n 0, 1), (169, .getfield 81, 3), (172, .iload 7, 2), (174, .iconst 5, 1), (175, .iadd, 1), (176, .iaload, 1), (177, .iload_n 2, 1), (178, .if_icmp .ne 6, 3), (181, .iinc 5 1, 3), (184, .iinc 6 1, 3), (187, .goto (-59), 3), (190, .iload 5, 2), (192, .iload 4, 2), (194, .if_icmp .lt 5, 3), (197, .iconst (-1), 1), (198, .ireturn, 1), (199, .bipush 7, 2), (201, .aload_n 0, 1), (202, .getfield 313, 3), (205, .imul, 1)]
theorem TX12_notice_2 : Tab cX12_notice tX12_notice_2 = true := by decide +kernel
def tX12_notice_3 : Tb := [(206, .istore 6, 2), (208, .aload_n 0, 1), (209, .getfield 45, 3), (212, .sipush 1600, 3), (215, .iload_n 2, 1), (216, .imul, 1), (217, .iaload, 1), (218, .istore 7, 2), (220, .aload_n 0, 1), (221, .getfield 81, 3), (224, .iload 6, 2), (226, .iconst 1, 1), (227, .iastore, 1), (228, .aload_n 0, 1), (229, .getfield 81, 3), (232, .iload 6, 2), (234, .iconst 1, 1), (235, .iadd, 1), (236, .iload 7, 2), (238, .iastore, 1), (239, .aload_n 0, 1), (240, .getfield 81, 3), (243, .iload 6, 2), (245, .iconst 2, 1), (246, .iadd, 1), (247, .iload_n 1, 1), (248, .iastore, 1), (249, .aload_n 0, 1), (250, .getfield 81, 3), (253, .iload 6, 2), (255, .iconst 3, 1), (256, .iadd, 1), (257, .iload_n 3, 1), (258, .iastore, 1), (259, .aload_n 0, 1), (260, .getfield 81, 3), (263, .iload 6, 2), (265, .iconst 4, 1), (266, .iadd, 1), (267, .iconst 0, 1)]
theorem TX12_notice_3 : Tab cX12_notice tX12_notice_3 = true := by decide +kernel
def tX12_notice_4 : Tb := [(268, .iastore, 1), (269, .aload_n 0, 1), (270, .getfield 81, 3), (273, .iload 6, 2), (275, .iconst 5, 1), (276, .iadd, 1), (277, .iload_n 2, 1), (278, .iastore, 1), (279, .aload_n 0, 1), (280, .getfield 81, 3), (283, .iload 6, 2), (285, .bipush 6, 2), (287, .iadd, 1), (288, .iconst 1, 1), (289, .iload 7, 2), (291, .ishl, 1), (292, .iastore, 1), (293, .aload_n 0, 1), (294, .getfield 78, 3), (297, .iconst 4, 1), (298, .iload_n 3, 1), (299, .imul, 1), (300, .iconst 3, 1), (301, .iadd, 1), (302, .iconst 0, 1), (303, .iastore, 1), (304, .aload_n 0, 1), (305, .dup, 1), (306, .getfield 313, 3), (309, .iconst 1, 1), (310, .iadd, 1), (311, .putfield 313, 3), (314, .aload_n 0, 1), (315, .getfield 313, 3), (318, .iconst 1, 1), (319, .isub, 1), (320, .ireturn, 1)]
theorem TX12_notice_4 : Tab cX12_notice tX12_notice_4 = true := by decide +kernel
def tX12_isHeld_0 : Tb := [(0, .iload_n 1, 1), (1, .i2l, 1), (2, .lconst 0, 1), (3, .aload_n 0, 1), (4, .getfield 313, 3), (7, .iconst 1, 1), (8, .isub, 1), (9, .i2l, 1), (10, .invokestatic 97, 3), (13, .ifCond .eq 20, 3), (16, .aload_n 0, 1), (17, .getfield 81, 3), (20, .bipush 7, 2), (22, .iload_n 1, 1), (23, .imul, 1), (24, .iaload, 1), (25, .iconst 1, 1), (26, .if_icmp .ne 7, 3), (29, .iconst 1, 1), (30, .goto 4, 3), (33, .iconst 0, 1), (34, .ireturn, 1)]
theorem TX12_isHeld_0 : Tab cX12_isHeld tX12_isHeld_0 = true := by decide +kernel
def tX12_pass_0 : Tb := [(0, .aload_n 0, 1), (1, .iconst 0, 1), (2, .putfield 90, 3), (5, .aload_n 0, 1), (6, .iload_n 1, 1), (7, .invokevirtual 318, 3), (10, .ifCond .ne 5, 3), (13, .iconst (-1), 1), (14, .ireturn, 1), (15, .bipush 7, 2), (17, .iload_n 1, 1), (18, .imul, 1), (19, .istore_n 2, 1), (20, .aload_n 0, 1), (21, .getfield 81, 3), (24, .iload_n 2, 1), (25, .iconst 1, 1), (26, .iadd, 1), (27, .iaload, 1), (28, .istore_n 3, 1), (29, .aload_n 0, 1), (30, .getfield 81, 3), (33, .iload_n 2, 1), (34, .iconst 5, 1), (35, .iadd, 1), (36, .iaload, 1), (37, .istore 4, 2), (39, .sipush 1600, 3), (42, .iload 4, 2), (44, .imul, 1), (45, .istore 5, 2), (47, .iconst 0, 1), (48, .istore 6, 2), (50, .iload 6, 2), (52, .aload_n 0, 1), (53, .getfield 51, 3), (56, .iload 4, 2), (58, .iaload, 1), (59, .if_icmp .ge 23, 3), (62, .aload_n 0, 1)]
theorem TX12_pass_0 : Tab cX12_pass tX12_pass_0 = true := by decide +kernel
def tX12_pass_1 : Tb := [(63, .getfield 45, 3), (66, .iload 5, 2), (68, .iload 6, 2), (70, .iadd, 1), (71, .iaload, 1), (72, .iload_n 3, 1), (73, .if_icmp .eq 9, 3), (76, .iinc 6 1, 3), (79, .goto (-29), 3), (82, .iload 6, 2), (84, .aload_n 0, 1), (85, .getfield 51, 3), (88, .iload 4, 2), (90, .iaload, 1), (91, .if_icmp .ne 6, 3), (94, .iconst 0, 1), (95, .istore 6, 2), (97, .iload 6, 2), (99, .aload_n 0, 1), (100, .getfield 51, 3), (103, .iload 4, 2), (105, .iaload, 1), (106, .if_icmp .ge 35, 3), (109, .aload_n 0, 1), (110, .getfield 81, 3), (113, .iload_n 2, 1), (114, .bipush 6, 2), (116, .iadd, 1), (117, .iaload, 1), (118, .aload_n 0, 1), (119, .getfield 45, 3), (122, .iload 5, 2), (124, .iload 6, 2), (126, .iadd, 1), (127, .iaload, 1), (128, .ishr, 1), (129, .iconst 1, 1), (130, .iand, 1), (131, .iconst 1, 1), (132, .if_icmp .ne 9, 3)]
theorem TX12_pass_1 : Tab cX12_pass tX12_pass_1 = true := by decide +kernel
def tX12_pass_2 : Tb := [(135, .iinc 6 1, 3), (138, .goto (-41), 3), (141, .iload 6, 2), (143, .aload_n 0, 1), (144, .getfield 51, 3), (147, .iload 4, 2), (149, .iaload, 1), (150, .if_icmp .ne 5, 3), (153, .iconst (-1), 1), (154, .ireturn, 1), (155, .aload_n 0, 1), (156, .getfield 45, 3), (159, .iload 5, 2), (161, .iload 6, 2), (163, .iadd, 1), (164, .iaload, 1), (165, .istore 7, 2), (167, .aload_n 0, 1), (168, .iconst 5, 1), (169, .aload_n 0, 1), (170, .getfield 238, 3), (173, .iload 4, 2), (175, .iconst 0, 1), (176, .aload_n 0, 1), (177, .getfield 81, 3), (180, .iload_n 2, 1), (181, .iconst 4, 1), (182, .iadd, 1), (183, .iaload, 1), (184, .iconst 0, 1), (185, .iconst 0, 1), (186, .invokevirtual 231, 3), (189, .istore 8, 2), (191, .aload_n 0, 1), (192, .getfield 28, 3), (195, .iload_n 3, 1), (196, .dup2, 1), (197, .laload, 1), (198, .iload 8, 2), (200, .i2l, 1)]
theorem TX12_pass_2 : Tab cX12_pass tX12_pass_2 = true := by decide +kernel
def tX12_pass_3 : Tb := [(201, .lsub, 1), (202, .lastore, 1), (203, .aload_n 0, 1), (204, .getfield 28, 3), (207, .iload 7, 2), (209, .dup2, 1), (210, .laload, 1), (211, .iload 8, 2), (213, .i2l, 1), (214, .ladd, 1), (215, .lastore, 1), (216, .aload_n 0, 1), (217, .getfield 81, 3), (220, .iload_n 2, 1), (221, .iconst 1, 1), (222, .iadd, 1), (223, .iload 7, 2), (225, .iastore, 1), (226, .aload_n 0, 1), (227, .getfield 81, 3), (230, .iload_n 2, 1), (231, .iconst 4, 1), (232, .iadd, 1), (233, .dup2, 1), (234, .iaload, 1), (235, .iconst 1, 1), (236, .iadd, 1), (237, .iastore, 1), (238, .aload_n 0, 1), (239, .getfield 81, 3), (242, .iload_n 2, 1), (243, .bipush 6, 2), (245, .iadd, 1), (246, .dup2, 1), (247, .iaload, 1), (248, .iconst 1, 1), (249, .iload 7, 2), (251, .ishl, 1), (252, .ior, 1), (253, .iastore, 1)]
theorem TX12_pass_3 : Tab cX12_pass tX12_pass_3 = true := by decide +kernel
def tX12_pass_4 : Tb := [(254, .iload 7, 2), (256, .ireturn, 1)]
theorem TX12_pass_4 : Tab cX12_pass tX12_pass_4 = true := by decide +kernel
def tX12_keep_0 : Tb := [(0, .aload_n 0, 1), (1, .iconst 0, 1), (2, .putfield 90, 3), (5, .aload_n 0, 1), (6, .iload_n 1, 1), (7, .invokevirtual 318, 3), (10, .ifCond .ne 5, 3), (13, .iconst (-1), 1), (14, .ireturn, 1), (15, .bipush 7, 2), (17, .iload_n 1, 1), (18, .imul, 1), (19, .istore_n 2, 1), (20, .aload_n 0, 1), (21, .getfield 81, 3), (24, .iload_n 2, 1), (25, .iconst 1, 1), (26, .iadd, 1), (27, .iaload, 1), (28, .istore_n 3, 1), (29, .aload_n 0, 1), (30, .getfield 81, 3), (33, .iload_n 2, 1), (34, .iconst 2, 1), (35, .iadd, 1), (36, .iaload, 1), (37, .istore 4, 2), (39, .iconst 4, 1), (40, .aload_n 0, 1), (41, .getfield 81, 3), (44, .iload_n 2, 1), (45, .iconst 3, 1), (46, .iadd, 1), (47, .iaload, 1), (48, .imul, 1), (49, .istore 5, 2), (51, .aload_n 0, 1), (52, .getfield 81, 3), (55, .iload_n 2, 1), (56, .iconst 5, 1)]
theorem TX12_keep_0 : Tab cX12_keep tX12_keep_0 = true := by decide +kernel
def tX12_keep_1 : Tb := [(57, .iadd, 1), (58, .iaload, 1), (59, .istore 6, 2), (61, .aload_n 0, 1), (62, .getfield 78, 3), (65, .iload 5, 2), (67, .iconst 3, 1), (68, .iadd, 1), (69, .iconst 1, 1), (70, .iastore, 1), (71, .aload_n 0, 1), (72, .getfield 39, 3), (75, .bipush 6, 2), (77, .iload_n 3, 1), (78, .imul, 1), (79, .iload 6, 2), (81, .iadd, 1), (82, .iaload, 1), (83, .ifCond .le 19, 3), (86, .aload_n 0, 1), (87, .getfield 39, 3), (90, .bipush 6, 2), (92, .iload 4, 2), (94, .imul, 1), (95, .iload 6, 2), (97, .iadd, 1), (98, .iaload, 1), (99, .ifCond .lt 12, 3), (102, .aload_n 0, 1), (103, .getfield 81, 3), (106, .iload_n 2, 1), (107, .iconst 3, 1), (108, .iastore, 1), (109, .iconst 0, 1), (110, .ireturn, 1), (111, .aload_n 0, 1), (112, .iload 6, 2), (114, .invokevirtual 262, 3), (117, .istore 7, 2), (119, .aload_n 0, 1)]
theorem TX12_keep_1 : Tab cX12_keep tX12_keep_1 = true := by decide +kernel
def tX12_keep_2 : Tb := [(120, .iload 4, 2), (122, .iload_n 3, 1), (123, .iload 6, 2), (125, .iload 7, 2), (127, .iconst 1, 1), (128, .invokevirtual 281, 3), (131, .iload 7, 2), (133, .i2l, 1), (134, .aload_n 0, 1), (135, .iconst 4, 1), (136, .aload_n 0, 1), (137, .getfield 238, 3), (140, .iload 6, 2), (142, .iload 7, 2), (144, .iconst 0, 1), (145, .aload_n 0, 1), (146, .getfield 78, 3), (149, .iload 5, 2), (151, .iaload, 1), (152, .aload_n 0, 1), (153, .getfield 78, 3), (156, .iload 5, 2), (158, .iconst 1, 1), (159, .iadd, 1), (160, .iaload, 1), (161, .invokevirtual 231, 3), (164, .i2l, 1), (165, .ladd, 1), (166, .lstore 8, 2), (168, .aload_n 0, 1), (169, .getfield 28, 3), (172, .iload_n 3, 1), (173, .dup2, 1), (174, .laload, 1), (175, .lload 8, 2), (177, .lsub, 1), (178, .lastore, 1), (179, .aload_n 0, 1), (180, .getfield 28, 3), (183, .iload 4, 2)]
theorem TX12_keep_2 : Tab cX12_keep tX12_keep_2 = true := by decide +kernel
def tX12_keep_3 : Tb := [(185, .dup2, 1), (186, .laload, 1), (187, .lload 8, 2), (189, .ladd, 1), (190, .lastore, 1), (191, .aload_n 0, 1), (192, .getfield 78, 3), (195, .iload 5, 2), (197, .iconst 2, 1), (198, .iadd, 1), (199, .iload_n 3, 1), (200, .iastore, 1), (201, .aload_n 0, 1), (202, .getfield 81, 3), (205, .iload_n 2, 1), (206, .iconst 2, 1), (207, .iastore, 1), (208, .iconst 1, 1), (209, .ireturn, 1)]
theorem TX12_keep_3 : Tab cX12_keep tX12_keep_3 = true := by decide +kernel
def tX12_told_0 : Tb := [(0, .aload_n 0, 1), (1, .iconst 0, 1), (2, .putfield 90, 3), (5, .iload_n 1, 1), (6, .i2l, 1), (7, .lconst 0, 1), (8, .aload_n 0, 1), (9, .getfield 313, 3), (12, .iconst 1, 1), (13, .isub, 1), (14, .i2l, 1), (15, .invokestatic 97, 3), (18, .ifCond .eq 29, 3), (21, .iload_n 2, 1), (22, .i2l, 1), (23, .lconst 0, 1), (24, .ldc2_w 101, 3), (27, .invokestatic 97, 3), (30, .ifCond .eq 17, 3), (33, .aload_n 0, 1), (34, .getfield 81, 3), (37, .bipush 7, 2), (39, .iload_n 1, 1), (40, .imul, 1), (41, .iload_n 2, 1), (42, .iadd, 1), (43, .iaload, 1), (44, .goto 4, 3), (47, .iconst (-1), 1), (48, .ireturn, 1)]
theorem TX12_told_0 : Tab cX12_told tX12_told_0 = true := by decide +kernel
def tX12_stored_0 : Tb := [(0, .aload_n 0, 1), (1, .iconst 0, 1), (2, .putfield 90, 3), (5, .iload_n 1, 1), (6, .i2l, 1), (7, .lconst 0, 1), (8, .aload_n 0, 1), (9, .getfield 310, 3), (12, .iconst 1, 1), (13, .isub, 1), (14, .i2l, 1), (15, .invokestatic 97, 3), (18, .ifCond .eq 28, 3), (21, .iload_n 2, 1), (22, .i2l, 1), (23, .lconst 0, 1), (24, .ldc2_w 316, 3), (27, .invokestatic 97, 3), (30, .ifCond .eq 16, 3), (33, .aload_n 0, 1), (34, .getfield 78, 3), (37, .iconst 4, 1), (38, .iload_n 1, 1), (39, .imul, 1), (40, .iload_n 2, 1), (41, .iadd, 1), (42, .iaload, 1), (43, .goto 4, 3), (46, .iconst (-1), 1), (47, .ireturn, 1)]
theorem TX12_stored_0 : Tab cX12_stored tX12_stored_0 = true := by decide +kernel
def tX12_squeeze_0 : Tb := [(0, .aload_n 0, 1), (1, .iconst 0, 1), (2, .putfield 90, 3), (5, .iload_n 1, 1), (6, .invokestatic 255, 3), (9, .ifCond .eq 15, 3), (12, .iload_n 2, 1), (13, .i2l, 1), (14, .lconst 0, 1), (15, .ldc2_w 321, 3), (18, .invokestatic 97, 3), (21, .ifCond .ne 5, 3), (24, .iconst (-1), 1), (25, .ireturn, 1), (26, .iconst 0, 1), (27, .istore_n 3, 1), (28, .iconst (-1), 1), (29, .istore 4, 2), (31, .iconst 0, 1), (32, .istore 5, 2), (34, .iload 5, 2), (36, .aload_n 0, 1), (37, .getfield 94, 3), (40, .if_icmp .ge 65, 3), (43, .aload_n 0, 1), (44, .getfield 39, 3), (47, .bipush 6, 2), (49, .iload 5, 2), (51, .imul, 1), (52, .iload_n 1, 1), (53, .iadd, 1), (54, .iaload, 1), (55, .istore 6, 2), (57, .iload 6, 2), (59, .ifCond .ge 8, 3), (62, .iload_n 3, 1), (63, .iload 6, 2), (65, .isub, 1), (66, .istore_n 3, 1), (67, .iload 6, 2)]
theorem TX12_squeeze_0 : Tab cX12_squeeze tX12_squeeze_0 = true := by decide +kernel
def tX12_squeeze_1 : Tb := [(69, .ifCond .le 30, 3), (72, .iload 4, 2), (74, .iconst (-1), 1), (75, .if_icmp .eq 20, 3), (78, .iload 6, 2), (80, .aload_n 0, 1), (81, .getfield 39, 3), (84, .bipush 6, 2), (86, .iload 4, 2), (88, .imul, 1), (89, .iload_n 1, 1), (90, .iadd, 1), (91, .iaload, 1), (92, .if_icmp .le 7, 3), (95, .iload 5, 2), (97, .istore 4, 2), (99, .iinc 5 1, 3), (102, .goto (-68), 3), (105, .iconst 0, 1), (106, .istore 5, 2), (108, .iconst 0, 1), (109, .istore 6, 2), (111, .iload 6, 2), (113, .aload_n 0, 1), (114, .getfield 310, 3), (117, .if_icmp .ge 43, 3), (120, .aload_n 0, 1), (121, .getfield 78, 3), (124, .iconst 4, 1), (125, .iload 6, 2), (127, .imul, 1), (128, .iconst 3, 1), (129, .iadd, 1), (130, .iaload, 1), (131, .iconst 1, 1), (132, .if_icmp .ne 22, 3), (135, .aload_n 0, 1), (136, .getfield 78, 3), (139, .iconst 4, 1), (140, .iload 6, 2)]
theorem TX12_squeeze_1 : Tab cX12_squeeze tX12_squeeze_1 = true := by decide +kernel
def tX12_squeeze_2 : Tb := [(142, .imul, 1), (143, .iconst 2, 1), (144, .iadd, 1), (145, .iaload, 1), (146, .iload 4, 2), (148, .if_icmp .eq 6, 3), (151, .iinc 5 1, 3), (154, .iinc 6 1, 3), (157, .goto (-46), 3), (160, .iload_n 2, 1), (161, .tableswitch 54 0 3 #[31, 46, 48, 51], 31), (192, .aload_n 0, 1), (193, .getfield 54, 3), (196, .iload_n 1, 1), (197, .baload, 1), (198, .ifCond .eq 7, 3), (201, .iconst 1, 1), (202, .goto 4, 3), (205, .iconst 0, 1), (206, .ireturn, 1), (207, .iload_n 3, 1), (208, .ireturn, 1), (209, .iload 4, 2), (211, .ireturn, 1), (212, .iload 5, 2), (214, .ireturn, 1), (215, .iload 4, 2), (217, .iconst (-1), 1), (218, .if_icmp .eq 36, 3), (221, .iload_n 3, 1), (222, .iload 5, 2), (224, .if_icmp .le 30, 3), (227, .ldc2_w 288, 3), (230, .aload_n 0, 1), (231, .getfield 39, 3), (234, .bipush 6, 2), (236, .iload 4, 2), (238, .imul, 1), (239, .iload_n 1, 1), (240, .iadd, 1)]
theorem TX12_squeeze_2 : Tab cX12_squeeze tX12_squeeze_2 = true := by decide +kernel
def tX12_squeeze_3 : Tb := [(241, .iaload, 1), (242, .i2l, 1), (243, .lmul, 1), (244, .iload_n 3, 1), (245, .i2l, 1), (246, .lcmp, 1), (247, .ifCond .le 7, 3), (250, .iconst 1, 1), (251, .goto 4, 3), (254, .iconst 0, 1), (255, .ireturn, 1)]
theorem TX12_squeeze_3 : Tab cX12_squeeze tX12_squeeze_3 = true := by decide +kernel
def tX12_right_0 : Tb := [(0, .aload_n 0, 1), (1, .iconst 0, 1), (2, .putfield 90, 3), (5, .iload_n 1, 1), (6, .invokestatic 255, 3), (9, .ifCond .eq 55, 3), (12, .iload_n 2, 1), (13, .i2l, 1), (14, .lconst 0, 1), (15, .aload_n 0, 1), (16, .getfield 238, 3), (19, .iconst 1, 1), (20, .isub, 1), (21, .i2l, 1), (22, .invokestatic 97, 3), (25, .ifCond .eq 39, 3), (28, .iload_n 3, 1), (29, .i2l, 1), (30, .lconst 1, 1), (31, .ldc2_w 260, 3), (34, .invokestatic 97, 3), (37, .ifCond .eq 27, 3), (40, .aload_n 0, 1), (41, .getfield 63, 3), (44, .bipush 6, 2), (46, .iload_n 2, 1), (47, .imul, 1), (48, .iload_n 1, 1), (49, .iadd, 1), (50, .iaload, 1), (51, .iconst (-1), 1), (52, .if_icmp .eq 12, 3), (55, .aload_n 0, 1), (56, .getfield 235, 3), (59, .bipush 100, 2), (61, .if_icmp .ne 5, 3), (64, .iconst 0, 1), (65, .ireturn, 1), (66, .iconst 4, 1), (67, .aload_n 0, 1)]
theorem TX12_right_0 : Tab cX12_right tX12_right_0 = true := by decide +kernel
def tX12_right_1 : Tb := [(68, .getfield 235, 3), (71, .imul, 1), (72, .istore 4, 2), (74, .aload_n 0, 1), (75, .getfield 75, 3), (78, .iload 4, 2), (80, .iload_n 1, 1), (81, .iastore, 1), (82, .aload_n 0, 1), (83, .getfield 75, 3), (86, .iload 4, 2), (88, .iconst 1, 1), (89, .iadd, 1), (90, .iload_n 2, 1), (91, .iastore, 1), (92, .aload_n 0, 1), (93, .getfield 75, 3), (96, .iload 4, 2), (98, .iconst 2, 1), (99, .iadd, 1), (100, .iload_n 3, 1), (101, .iastore, 1), (102, .aload_n 0, 1), (103, .getfield 75, 3), (106, .iload 4, 2), (108, .iconst 3, 1), (109, .iadd, 1), (110, .aload_n 0, 1), (111, .getfield 238, 3), (114, .iastore, 1), (115, .aload_n 0, 1), (116, .dup, 1), (117, .getfield 235, 3), (120, .iconst 1, 1), (121, .iadd, 1), (122, .putfield 235, 3), (125, .iconst 1, 1), (126, .ireturn, 1)]
theorem TX12_right_1 : Tab cX12_right tX12_right_1 = true := by decide +kernel
def tX12_settle_0 : Tb := [(0, .aload_n 0, 1), (1, .iconst 0, 1), (2, .putfield 90, 3), (5, .iload_n 1, 1), (6, .invokestatic 255, 3), (9, .ifCond .eq 44, 3), (12, .iload_n 2, 1), (13, .i2l, 1), (14, .lconst 0, 1), (15, .aload_n 0, 1), (16, .getfield 238, 3), (19, .iconst 1, 1), (20, .isub, 1), (21, .i2l, 1), (22, .invokestatic 97, 3), (25, .ifCond .eq 28, 3), (28, .iload_n 3, 1), (29, .i2l, 1), (30, .iload_n 2, 1), (31, .i2l, 1), (32, .aload_n 0, 1), (33, .getfield 238, 3), (36, .i2l, 1), (37, .invokestatic 97, 3), (40, .ifCond .eq 13, 3), (43, .aload_n 0, 1), (44, .iload_n 1, 1), (45, .iload_n 2, 1), (46, .iload_n 3, 1), (47, .invokevirtual 241, 3), (50, .goto 4, 3), (53, .iconst (-1), 1), (54, .ireturn, 1)]
theorem TX12_settle_0 : Tab cX12_settle tX12_settle_0 = true := by decide +kernel
def tX12_equity_0 : Tb := [(0, .aload_n 0, 1), (1, .iconst 0, 1), (2, .putfield 90, 3), (5, .aload_n 0, 1), (6, .iload_n 1, 1), (7, .invokevirtual 252, 3), (10, .ifCond .eq 34, 3), (13, .iload_n 2, 1), (14, .i2l, 1), (15, .lconst 0, 1), (16, .aload_n 0, 1), (17, .getfield 238, 3), (20, .iconst 1, 1), (21, .isub, 1), (22, .i2l, 1), (23, .invokestatic 97, 3), (26, .ifCond .eq 18, 3), (29, .iload_n 3, 1), (30, .i2l, 1), (31, .iload_n 2, 1), (32, .i2l, 1), (33, .aload_n 0, 1), (34, .getfield 238, 3), (37, .i2l, 1), (38, .invokestatic 97, 3), (41, .ifCond .ne 10, 3), (44, .aload_n 0, 1), (45, .iconst 1, 1), (46, .putfield 90, 3), (49, .lconst 0, 1), (50, .lreturn, 1), (51, .aload_n 0, 1), (52, .getfield 66, 3), (55, .bipush 12, 2), (57, .iload_n 2, 1), (58, .imul, 1), (59, .iload_n 1, 1), (60, .iadd, 1), (61, .laload, 1), (62, .lstore 4, 2)]
theorem TX12_equity_0 : Tab cX12_equity tX12_equity_0 = true := by decide +kernel
def tX12_equity_1 : Tb := [(64, .iconst 0, 1), (65, .istore 6, 2), (67, .iload 6, 2), (69, .bipush 6, 2), (71, .if_icmp .ge 68, 3), (74, .bipush 72, 2), (76, .iload_n 2, 1), (77, .imul, 1), (78, .bipush 6, 2), (80, .iload_n 1, 1), (81, .imul, 1), (82, .iadd, 1), (83, .iload 6, 2), (85, .iadd, 1), (86, .istore 7, 2), (88, .aload_n 0, 1), (89, .iload 6, 2), (91, .iload_n 2, 1), (92, .iload_n 3, 1), (93, .invokevirtual 241, 3), (96, .istore 8, 2), (98, .lload 4, 2), (100, .iload 8, 2), (102, .iconst (-1), 1), (103, .if_icmp .ne 7, 3), (106, .lconst 0, 1), (107, .goto 15, 3), (110, .aload_n 0, 1), (111, .getfield 69, 3), (114, .iload 7, 2), (116, .iaload, 1), (117, .i2l, 1), (118, .iload 8, 2), (120, .i2l, 1), (121, .lmul, 1), (122, .aload_n 0, 1), (123, .getfield 72, 3), (126, .iload 7, 2), (128, .laload, 1), (129, .lsub, 1)]
theorem TX12_equity_1 : Tab cX12_equity tX12_equity_1 = true := by decide +kernel
def tX12_equity_2 : Tb := [(130, .ladd, 1), (131, .lstore 4, 2), (133, .iinc 6 1, 3), (136, .goto (-69), 3), (139, .lload 4, 2), (141, .lreturn, 1)]
theorem TX12_equity_2 : Tab cX12_equity tX12_equity_2 = true := by decide +kernel
def tJ11_isValidCodePoint_9a6ad_0 : Tb := [(0, .iload_n 0, 1), (1, .bipush 16, 2), (3, .iushr, 1), (4, .istore_n 1, 1), (5, .iload_n 1, 1), (6, .bipush 17, 2), (8, .if_icmp .ge 7, 3), (11, .iconst 1, 1), (12, .goto 4, 3), (15, .iconst 0, 1), (16, .ireturn, 1)]
theorem TJ11_isValidCodePoint_9a6ad_0 : Tab cJ11_isValidCodePoint_9a6ad tJ11_isValidCodePoint_9a6ad_0 = true := by decide +kernel
def tJ11_highSurrogate_5068e_0 : Tb := [(0, .iload_n 0, 1), (1, .bipush 10, 2), (3, .iushr, 1), (4, .ldc 110, 2), (6, .iadd, 1), (7, .i2c, 1), (8, .ireturn, 1)]
theorem TJ11_highSurrogate_5068e_0 : Tab cJ11_highSurrogate_5068e tJ11_highSurrogate_5068e_0 = true := by decide +kernel
def tJ11_lowSurrogate_5068e_0 : Tb := [(0, .iload_n 0, 1), (1, .sipush 1023, 3), (4, .iand, 1), (5, .ldc 76, 2), (7, .iadd, 1), (8, .i2c, 1), (9, .ireturn, 1)]
theorem TJ11_lowSurrogate_5068e_0 : Tab cJ11_lowSurrogate_5068e tJ11_lowSurrogate_5068e_0 = true := by decide +kernel
def tJ9_abs_0f7a4_0 : Tb := [(0, .iload_n 0, 1), (1, .ifCond .ge 8, 3), (4, .iload_n 0, 1), (5, .ineg, 1), (6, .goto 4, 3), (9, .iload_n 0, 1), (10, .ireturn, 1)]
theorem TJ9_abs_0f7a4_0 : Tab cJ9_abs_0f7a4 tJ9_abs_0f7a4_0 = true := by decide +kernel
def tJ9_max_7cf53_0 : Tb := [(0, .iload_n 0, 1), (1, .iload_n 1, 1), (2, .if_icmp .lt 7, 3), (5, .iload_n 0, 1), (6, .goto 4, 3), (9, .iload_n 1, 1), (10, .ireturn, 1)]
theorem TJ9_max_7cf53_0 : Tab cJ9_max_7cf53 tJ9_max_7cf53_0 = true := by decide +kernel
def tJ9_min_7cf53_0 : Tb := [(0, .iload_n 0, 1), (1, .iload_n 1, 1), (2, .if_icmp .gt 7, 3), (5, .iload_n 0, 1), (6, .goto 4, 3), (9, .iload_n 1, 1), (10, .ireturn, 1)]
theorem TJ9_min_7cf53_0 : Tab cJ9_min_7cf53 tJ9_min_7cf53_0 = true := by decide +kernel
def tJ0_length_8abf5_0 : Tb := [(0, .aload_n 0, 1), (1, .getfield 9, 3), (4, .arraylength, 1), (5, .aload_n 0, 1), (6, .invokevirtual 335, 3), (9, .ishr, 1), (10, .ireturn, 1)]
theorem TJ0_length_8abf5_0 : Tab cJ0_length_8abf5 tJ0_length_8abf5_0 = true := by decide +kernel
def tJ0_charAt_5068e_0 : Tb := [(0, .aload_n 0, 1), (1, .invokevirtual 492, 3), (4, .ifCond .eq 12, 3), (7, .aload_n 0, 1), (8, .getfield 9, 3), (11, .iload_n 1, 1), (12, .invokestatic 495, 3), (15, .ireturn, 1), (16, .aload_n 0, 1), (17, .getfield 9, 3), (20, .iload_n 1, 1), (21, .invokestatic 498, 3), (24, .ireturn, 1)]
theorem TJ0_charAt_5068e_0 : Tab cJ0_charAt_5068e tJ0_charAt_5068e_0 = true := by decide +kernel
def tJ0_indexOf_0f7a4_0 : Tb := [(0, .aload_n 0, 1), (1, .iload_n 1, 1), (2, .iconst 0, 1), (3, .invokevirtual 633, 3), (6, .ireturn, 1)]
theorem TJ0_indexOf_0f7a4_0 : Tab cJ0_indexOf_0f7a4 tJ0_indexOf_0f7a4_0 = true := by decide +kernel
def tJ0_indexOf_7cf53_0 : Tb := [(0, .aload_n 0, 1), (1, .invokevirtual 492, 3), (4, .ifCond .eq 19, 3), (7, .aload_n 0, 1), (8, .getfield 9, 3), (11, .iload_n 1, 1), (12, .iload_n 2, 1), (13, .aload_n 0, 1), (14, .invokevirtual 505, 3), (17, .invokestatic 637, 3), (20, .goto 16, 3), (23, .aload_n 0, 1), (24, .getfield 9, 3), (27, .iload_n 1, 1), (28, .iload_n 2, 1), (29, .aload_n 0, 1), (30, .invokevirtual 505, 3), (33, .invokestatic 640, 3), (36, .ireturn, 1)]
theorem TJ0_indexOf_7cf53_0 : Tab cJ0_indexOf_7cf53 tJ0_indexOf_7cf53_0 = true := by decide +kernel
def tJ0_coder_7d493_0 : Tb := [(0, .getstatic 38, 3), (3, .ifCond .eq 10, 3), (6, .aload_n 0, 1), (7, .getfield 15, 3), (10, .goto 4, 3), (13, .iconst 1, 1), (14, .ireturn, 1)]
theorem TJ0_coder_7d493_0 : Tab cJ0_coder_7d493 tJ0_coder_7d493_0 = true := by decide +kernel
def tJ0_isLatin1_aae02_0 : Tb := [(0, .getstatic 38, 3), (3, .ifCond .eq 14, 3), (6, .aload_n 0, 1), (7, .getfield 15, 3), (10, .ifCond .ne 7, 3), (13, .iconst 1, 1), (14, .goto 4, 3), (17, .iconst 0, 1), (18, .ireturn, 1)]
theorem TJ0_isLatin1_aae02_0 : Tab cJ0_isLatin1_aae02 tJ0_isLatin1_aae02_0 = true := by decide +kernel
def tJ0_checkIndex_df160_0 : Tb := [(0, .iload_n 0, 1), (1, .iload_n 1, 1), (2, .getstatic 1053, 3), (5, .invokestatic 1059, 3), (8, .pop, 1), (9, .return_, 1)]
theorem TJ0_checkIndex_df160_0 : Tab cJ0_checkIndex_df160 tJ0_checkIndex_df160_0 = true := by decide +kernel
def tJ0_checkBoundsBeginEnd_23922_0 : Tb := [(0, .iload_n 0, 1), (1, .iload_n 1, 1), (2, .iload_n 2, 1), (3, .getstatic 1053, 3), (6, .invokestatic 1062, 3), (9, .pop, 1), (10, .return_, 1)]
theorem TJ0_checkBoundsBeginEnd_23922_0 : Tab cJ0_checkBoundsBeginEnd_23922 tJ0_checkBoundsBeginEnd_23922_0 = true := by decide +kernel
def tJ1_charAt_3b067_0 : Tb := [(0, .iload_n 1, 1), (1, .aload_n 0, 1), (2, .arraylength, 1), (3, .invokestatic 9, 3), (6, .aload_n 0, 1), (7, .iload_n 1, 1), (8, .baload, 1), (9, .sipush 255, 3), (12, .iand, 1), (13, .i2c, 1), (14, .ireturn, 1)]
theorem TJ1_charAt_3b067_0 : Tab cJ1_charAt_3b067 tJ1_charAt_3b067_0 = true := by decide +kernel
def tJ1_canEncode_9a6ad_0 : Tb := [(0, .iload_n 0, 1), (1, .ifCond .lt 14, 3), (4, .iload_n 0, 1), (5, .sipush 255, 3), (8, .if_icmp .gt 7, 3), (11, .iconst 1, 1), (12, .goto 4, 3), (15, .iconst 0, 1), (16, .ireturn, 1)]
theorem TJ1_canEncode_9a6ad_0 : Tab cJ1_canEncode_9a6ad tJ1_canEncode_9a6ad_0 = true := by decide +kernel
def tJ1_indexOf_4cfef_0 : Tb := [(0, .iload_n 1, 1), (1, .invokestatic 88, 3), (4, .ifCond .ne 5, 3), (7, .iconst (-1), 1), (8, .ireturn, 1), (9, .iload_n 2, 1), (10, .iconst 0, 1), (11, .invokestatic 92, 3), (14, .istore_n 2, 1), (15, .iload_n 3, 1), (16, .aload_n 0, 1), (17, .arraylength, 1), (18, .invokestatic 38, 3), (21, .istore_n 3, 1), (22, .iload_n 2, 1), (23, .iload_n 3, 1), (24, .if_icmp .lt 5, 3), (27, .iconst (-1), 1), (28, .ireturn, 1), (29, .aload_n 0, 1), (30, .iload_n 1, 1), (31, .iload_n 2, 1), (32, .iload_n 3, 1), (33, .invokestatic 95, 3), (36, .ireturn, 1)]
theorem TJ1_indexOf_4cfef_0 : Tab cJ1_indexOf_4cfef tJ1_indexOf_4cfef_0 = true := by decide +kernel
def tJ1_indexOfChar_4cfef_0 : Tb := [(0, .iload_n 1, 1), (1, .i2b, 1), (2, .istore 4, 2), (4, .iload_n 2, 1), (5, .istore 5, 2), (7, .iload 5, 2), (9, .iload_n 3, 1), (10, .if_icmp .ge 21, 3), (13, .aload_n 0, 1), (14, .iload 5, 2), (16, .baload, 1), (17, .iload 4, 2), (19, .if_icmp .ne 6, 3), (22, .iload 5, 2), (24, .ireturn, 1), (25, .iinc 5 1, 3), (28, .goto (-21), 3), (31, .iconst (-1), 1), (32, .ireturn, 1)]
theorem TJ1_indexOfChar_4cfef_0 : Tab cJ1_indexOfChar_4cfef tJ1_indexOfChar_4cfef_0 = true := by decide +kernel
def tJ2_getChar_3b067_0 : Tb := [(0, .getstatic 44, 3), (3, .ifCond .ne 25, 3), (6, .iload_n 1, 1), (7, .ifCond .lt 11, 3), (10, .iload_n 1, 1), (11, .aload_n 0, 1), (12, .invokestatic 48, 3), (15, .if_icmp .lt 13, 3), (18, .new 52, 3), (21, .dup, 1), (22, .ldc 54, 2), (24, .invokespecial 56, 3), (27, .athrow, 1), (28, .iload_n 1, 1), (29, .iconst 1, 1), (30, .ishl, 1), (31, .istore_n 1, 1), (32, .aload_n 0, 1), (33, .iload_n 1, 1), (34, .iinc 1 1, 3), (37, .baload, 1), (38, .sipush 255, 3), (41, .iand, 1), (42, .getstatic 59, 3), (45, .ishl, 1), (46, .aload_n 0, 1), (47, .iload_n 1, 1), (48, .baload, 1), (49, .sipush 255, 3), (52, .iand, 1), (53, .getstatic 63, 3), (56, .ishl, 1), (57, .ior, 1), (58, .i2c, 1), (59, .ireturn, 1)]
theorem TJ2_getChar_3b067_0 : Tab cJ2_getChar_3b067 tJ2_getChar_3b067_0 = true := by decide +kernel
def tJ2_length_9d52b_0 : Tb := [(0, .aload_n 0, 1), (1, .arraylength, 1), (2, .iconst 1, 1), (3, .ishr, 1), (4, .ireturn, 1)]
theorem TJ2_length_9d52b_0 : Tab cJ2_length_9d52b tJ2_length_9d52b_0 = true := by decide +kernel
def tJ2_indexOf_4cfef_0 : Tb := [(0, .iload_n 2, 1), (1, .iconst 0, 1), (2, .invokestatic 224, 3), (5, .istore_n 2, 1), (6, .iload_n 3, 1), (7, .aload_n 0, 1), (8, .arraylength, 1), (9, .iconst 1, 1), (10, .ishr, 1), (11, .invokestatic 183, 3), (14, .istore_n 3, 1), (15, .iload_n 2, 1), (16, .iload_n 3, 1), (17, .if_icmp .lt 5, 3), (20, .iconst (-1), 1), (21, .ireturn, 1), (22, .iload_n 1, 1), (23, .ldc 227, 2), (25, .if_icmp .ge 11, 3), (28, .aload_n 0, 1), (29, .iload_n 1, 1), (30, .iload_n 2, 1), (31, .iload_n 3, 1), (32, .invokestatic 228, 3), (35, .ireturn, 1), (36, .aload_n 0, 1), (37, .iload_n 1, 1), (38, .iload_n 2, 1), (39, .iload_n 3, 1), (40, .invokestatic 232, 3), (43, .ireturn, 1)]
theorem TJ2_indexOf_4cfef_0 : Tab cJ2_indexOf_4cfef tJ2_indexOf_4cfef_0 = true := by decide +kernel
def tJ2_indexOfChar_4cfef_0 : Tb := [(0, .iload_n 2, 1), (1, .iload_n 3, 1), (2, .aload_n 0, 1), (3, .invokestatic 96, 3), (6, .aload_n 0, 1), (7, .iload_n 1, 1), (8, .iload_n 2, 1), (9, .iload_n 3, 1), (10, .invokestatic 244, 3), (13, .ireturn, 1)]
theorem TJ2_indexOfChar_4cfef_0 : Tab cJ2_indexOfChar_4cfef tJ2_indexOfChar_4cfef_0 = true := by decide +kernel
def tJ2_indexOfCharUnsafe_4cfef_0 : Tb := [(0, .iload_n 2, 1), (1, .istore 4, 2), (3, .iload 4, 2), (5, .iload_n 3, 1), (6, .if_icmp .ge 22, 3), (9, .aload_n 0, 1), (10, .iload 4, 2), (12, .invokestatic 71, 3), (15, .iload_n 1, 1), (16, .if_icmp .ne 6, 3), (19, .iload 4, 2), (21, .ireturn, 1), (22, .iinc 4 1, 3), (25, .goto (-22), 3), (28, .iconst (-1), 1), (29, .ireturn, 1)]
theorem TJ2_indexOfCharUnsafe_4cfef_0 : Tab cJ2_indexOfCharUnsafe_4cfef tJ2_indexOfCharUnsafe_4cfef_0 = true := by decide +kernel
def tJ2_indexOfSupplementary_4cfef_0 : Tb := [(0, .iload_n 1, 1), (1, .invokestatic 164, 3), (4, .ifCond .eq 65, 3), (7, .iload_n 1, 1), (8, .invokestatic 157, 3), (11, .istore 4, 2), (13, .iload_n 1, 1), (14, .invokestatic 161, 3), (17, .istore 5, 2), (19, .iload_n 2, 1), (20, .iload_n 3, 1), (21, .aload_n 0, 1), (22, .invokestatic 96, 3), (25, .iload_n 2, 1), (26, .istore 6, 2), (28, .iload 6, 2), (30, .iload_n 3, 1), (31, .iconst 1, 1), (32, .isub, 1), (33, .if_icmp .ge 36, 3), (36, .aload_n 0, 1), (37, .iload 6, 2), (39, .invokestatic 71, 3), (42, .iload 4, 2), (44, .if_icmp .ne 19, 3), (47, .aload_n 0, 1), (48, .iload 6, 2), (50, .iconst 1, 1), (51, .iadd, 1), (52, .invokestatic 71, 3), (55, .iload 5, 2), (57, .if_icmp .ne 6, 3), (60, .iload 6, 2), (62, .ireturn, 1), (63, .iinc 6 1, 3), (66, .goto (-38), 3), (69, .iconst (-1), 1), (70, .ireturn, 1)]
theorem TJ2_indexOfSupplementary_4cfef_0 : Tab cJ2_indexOfSupplementary_4cfef tJ2_indexOfSupplementary_4cfef_0 = true := by decide +kernel
def tJ2_charAt_3b067_0 : Tb := [(0, .iload_n 1, 1), (1, .aload_n 0, 1), (2, .invokestatic 67, 3), (5, .aload_n 0, 1), (6, .iload_n 1, 1), (7, .invokestatic 71, 3), (10, .ireturn, 1)]
theorem TJ2_charAt_3b067_0 : Tab cJ2_charAt_3b067 tJ2_charAt_3b067_0 = true := by decide +kernel
def tJ2_checkIndex_2214a_0 : Tb := [(0, .iload_n 0, 1), (1, .aload_n 1, 1), (2, .invokestatic 48, 3), (5, .invokestatic 414, 3), (8, .return_, 1)]
theorem TJ2_checkIndex_2214a_0 : Tab cJ2_checkIndex_2214a tJ2_checkIndex_2214a_0 = true := by decide +kernel
def tJ2_checkBoundsBeginEnd_d044e_0 : Tb := [(0, .iload_n 0, 1), (1, .iload_n 1, 1), (2, .aload_n 2, 1), (3, .invokestatic 48, 3), (6, .invokestatic 241, 3), (9, .return_, 1)]
theorem TJ2_checkBoundsBeginEnd_d044e_0 : Tab cJ2_checkBoundsBeginEnd_d044e tJ2_checkBoundsBeginEnd_d044e_0 = true := by decide +kernel
def tJxa1e45_init_da8c8_0 : Tb := [(0, .aload_n 0, 1), (1, .invokespecial 1, 3), (4, .return_, 1)]
theorem TJxa1e45_init_da8c8_0 : Tab cJxa1e45_init_da8c8 tJxa1e45_init_da8c8_0 = true := by decide +kernel
def tJxc12de_init_da8c8_0 : Tb := [(0, .aload_n 0, 1), (1, .invokespecial 1, 3), (4, .aload_n 0, 1), (5, .iconst 0, 1), (6, .putfield 7, 3), (9, .return_, 1)]
theorem TJxc12de_init_da8c8_0 : Tab cJxc12de_init_da8c8 tJxc12de_init_da8c8_0 = true := by decide +kernel
def tJx4a65c_init_da8c8_0 : Tb := [(0, .aload_n 0, 1), (1, .invokespecial 1, 3), (4, .aload_n 0, 1), (5, .getstatic 39, 3), (8, .putfield 9, 3), (11, .return_, 1)]
theorem TJx4a65c_init_da8c8_0 : Tab cJx4a65c_init_da8c8 tJx4a65c_init_da8c8_0 = true := by decide +kernel
def tJx4a65c_grow_92f84_0 : Tb := [(0, .aload_n 0, 1), (1, .getfield 9, 3), (4, .arraylength, 1), (5, .istore_n 2, 1), (6, .iload_n 2, 1), (7, .ifCond .gt 13, 3), (10, .aload_n 0, 1), (11, .getfield 9, 3), (14, .getstatic 39, 3), (17, .if_acmp .eq 28, 3), (20, .iload_n 2, 1), (21, .iload_n 1, 1), (22, .iload_n 2, 1), (23, .isub, 1), (24, .iload_n 2, 1), (25, .iconst 1, 1), (26, .ishr, 1), (27, .invokestatic 73, 3), (30, .istore_n 3, 1), (31, .aload_n 0, 1), (32, .aload_n 0, 1), (33, .getfield 9, 3), (36, .iload_n 3, 1), (37, .invokestatic 66, 3), (40, .dup_x1, 1), (41, .putfield 9, 3), (44, .areturn, 1), (45, .aload_n 0, 1), (46, .bipush 10, 2), (48, .iload_n 1, 1), (49, .invokestatic 79, 3), (52, .anewarray 7, 3), (55, .dup_x1, 1), (56, .putfield 9, 3), (59, .areturn, 1)]
theorem TJx4a65c_grow_92f84_0 : Tab cJx4a65c_grow_92f84 tJx4a65c_grow_92f84_0 = true := by decide +kernel
def tJx4a65c_grow_d5877_0 : Tb := [(0, .aload_n 0, 1), (1, .aload_n 0, 1), (2, .getfield 48, 3), (5, .iconst 1, 1), (6, .iadd, 1), (7, .invokevirtual 69, 3), (10, .areturn, 1)]
theorem TJx4a65c_grow_d5877_0 : Tab cJx4a65c_grow_d5877 tJx4a65c_grow_d5877_0 = true := by decide +kernel
def tJx4a65c_size_8abf5_0 : Tb := [(0, .aload_n 0, 1), (1, .getfield 48, 3), (4, .ireturn, 1)]
theorem TJx4a65c_size_8abf5_0 : Tab cJx4a65c_size_8abf5 tJx4a65c_size_8abf5_0 = true := by decide +kernel
def tJx4a65c_isEmpty_aae02_0 : Tb := [(0, .aload_n 0, 1), (1, .getfield 48, 3), (4, .ifCond .ne 7, 3), (7, .iconst 1, 1), (8, .goto 4, 3), (11, .iconst 0, 1), (12, .ireturn, 1)]
theorem TJx4a65c_isEmpty_aae02_0 : Tab cJx4a65c_isEmpty_aae02 tJx4a65c_isEmpty_aae02_0 = true := by decide +kernel
def tJx4a65c_elementData_915e3_0 : Tb := [(0, .aload_n 0, 1), (1, .getfield 9, 3), (4, .iload_n 1, 1), (5, .aaload, 1), (6, .areturn, 1)]
theorem TJx4a65c_elementData_915e3_0 : Tab cJx4a65c_elementData_915e3 tJx4a65c_elementData_915e3_0 = true := by decide +kernel
def tJx4a65c_get_915e3_0 : Tb := [(0, .iload_n 1, 1), (1, .aload_n 0, 1), (2, .getfield 48, 3), (5, .invokestatic 118, 3), (8, .pop, 1), (9, .aload_n 0, 1), (10, .iload_n 1, 1), (11, .invokevirtual 123, 3), (14, .areturn, 1)]
theorem TJx4a65c_get_915e3_0 : Tab cJx4a65c_get_915e3 tJx4a65c_get_915e3_0 = true := by decide +kernel
def tJx4a65c_add_72be8_0 : Tb := [(0, .iload_n 3, 1), (1, .aload_n 2, 1), (2, .arraylength, 1), (3, .if_icmp .ne 8, 3), (6, .aload_n 0, 1), (7, .invokevirtual 129, 3), (10, .astore_n 2, 1), (11, .aload_n 2, 1), (12, .iload_n 3, 1), (13, .aload_n 1, 1), (14, .aastore, 1), (15, .aload_n 0, 1), (16, .iload_n 3, 1), (17, .iconst 1, 1), (18, .iadd, 1), (19, .putfield 48, 3), (22, .return_, 1)]
theorem TJx4a65c_add_72be8_0 : Tab cJx4a65c_add_72be8 tJx4a65c_add_72be8_0 = true := by decide +kernel
def tJx4a65c_add_9ea2d_0 : Tb := [(0, .aload_n 0, 1), (1, .dup, 1), (2, .getfield 63, 3), (5, .iconst 1, 1), (6, .iadd, 1), (7, .putfield 63, 3), (10, .aload_n 0, 1), (11, .aload_n 1, 1), (12, .aload_n 0, 1), (13, .getfield 9, 3), (16, .aload_n 0, 1), (17, .getfield 48, 3), (20, .invokevirtual 131, 3), (23, .iconst 1, 1), (24, .ireturn, 1)]
theorem TJx4a65c_add_9ea2d_0 : Tab cJx4a65c_add_9ea2d tJx4a65c_add_9ea2d_0 = true := by decide +kernel
def tJx4a65c_add_7a177_0 : Tb := [(0, .aload_n 0, 1), (1, .iload_n 1, 1), (2, .invokevirtual 135, 3), (5, .aload_n 0, 1), (6, .dup, 1), (7, .getfield 63, 3), (10, .iconst 1, 1), (11, .iadd, 1), (12, .putfield 63, 3), (15, .aload_n 0, 1), (16, .getfield 48, 3), (19, .dup, 1), (20, .istore_n 3, 1), (21, .aload_n 0, 1), (22, .getfield 9, 3), (25, .dup, 1), (26, .astore 4, 2), (28, .arraylength, 1), (29, .if_icmp .ne 9, 3), (32, .aload_n 0, 1), (33, .invokevirtual 129, 3), (36, .astore 4, 2), (38, .aload 4, 2), (40, .iload_n 1, 1), (41, .aload 4, 2), (43, .iload_n 1, 1), (44, .iconst 1, 1), (45, .iadd, 1), (46, .iload_n 3, 1), (47, .iload_n 1, 1), (48, .isub, 1), (49, .invokestatic 112, 3), (52, .aload 4, 2), (54, .iload_n 1, 1), (55, .aload_n 2, 1), (56, .aastore, 1), (57, .aload_n 0, 1), (58, .iload_n 3, 1), (59, .iconst 1, 1), (60, .iadd, 1)]
theorem TJx4a65c_add_7a177_0 : Tab cJx4a65c_add_7a177 tJx4a65c_add_7a177_0 = true := by decide +kernel
def tJx4a65c_add_7a177_1 : Tb := [(61, .putfield 48, 3), (64, .return_, 1)]
theorem TJx4a65c_add_7a177_1 : Tab cJx4a65c_add_7a177 tJx4a65c_add_7a177_1 = true := by decide +kernel
def tJx4a65c_remove_915e3_0 : Tb := [(0, .iload_n 1, 1), (1, .aload_n 0, 1), (2, .getfield 48, 3), (5, .invokestatic 118, 3), (8, .pop, 1), (9, .aload_n 0, 1), (10, .getfield 9, 3), (13, .astore_n 2, 1), (14, .aload_n 2, 1), (15, .iload_n 1, 1), (16, .aaload, 1), (17, .astore_n 3, 1), (18, .aload_n 0, 1), (19, .aload_n 2, 1), (20, .iload_n 1, 1), (21, .invokevirtual 144, 3), (24, .aload_n 3, 1), (25, .areturn, 1)]
theorem TJx4a65c_remove_915e3_0 : Tab cJx4a65c_remove_915e3 tJx4a65c_remove_915e3_0 = true := by decide +kernel
def tJx4a65c_fastRemove_b59b0_0 : Tb := [(0, .aload_n 0, 1), (1, .dup, 1), (2, .getfield 63, 3), (5, .iconst 1, 1), (6, .iadd, 1), (7, .putfield 63, 3), (10, .aload_n 0, 1), (11, .getfield 48, 3), (14, .iconst 1, 1), (15, .isub, 1), (16, .dup, 1), (17, .istore_n 3, 1), (18, .iload_n 2, 1), (19, .if_icmp .le 15, 3), (22, .aload_n 1, 1), (23, .iload_n 2, 1), (24, .iconst 1, 1), (25, .iadd, 1), (26, .aload_n 1, 1), (27, .iload_n 2, 1), (28, .iload_n 3, 1), (29, .iload_n 2, 1), (30, .isub, 1), (31, .invokestatic 112, 3), (34, .aload_n 1, 1), (35, .aload_n 0, 1), (36, .iload_n 3, 1), (37, .dup_x1, 1), (38, .putfield 48, 3), (41, .aconst_null, 1), (42, .aastore, 1), (43, .return_, 1)]
theorem TJx4a65c_fastRemove_b59b0_0 : Tab cJx4a65c_fastRemove_b59b0 tJx4a65c_fastRemove_b59b0_0 = true := by decide +kernel
def tJx4a65c_clear_da8c8_0 : Tb := [(0, .aload_n 0, 1), (1, .dup, 1), (2, .getfield 63, 3), (5, .iconst 1, 1), (6, .iadd, 1), (7, .putfield 63, 3), (10, .aload_n 0, 1), (11, .getfield 9, 3), (14, .astore_n 1, 1), (15, .aload_n 0, 1), (16, .getfield 48, 3), (19, .istore_n 2, 1), (20, .aload_n 0, 1), (21, .iconst 0, 1), (22, .dup_x1, 1), (23, .putfield 48, 3), (26, .istore_n 3, 1), (27, .iload_n 3, 1), (28, .iload_n 2, 1), (29, .if_icmp .ge 13, 3), (32, .aload_n 1, 1), (33, .iload_n 3, 1), (34, .aconst_null, 1), (35, .aastore, 1), (36, .iinc 3 1, 3), (39, .goto (-12), 3), (42, .return_, 1)]
theorem TJx4a65c_clear_da8c8_0 : Tab cJx4a65c_clear_da8c8 tJx4a65c_clear_da8c8_0 = true := by decide +kernel
def tJx4a65c_rangeCheckForAdd_d00df_0 : Tb := [(0, .iload_n 1, 1), (1, .aload_n 0, 1), (2, .getfield 48, 3), (5, .if_icmp .gt 7, 3), (8, .iload_n 1, 1), (9, .ifCond .ge 16, 3), (12, .new 187, 3), (15, .dup, 1), (16, .aload_n 0, 1), (17, .iload_n 1, 1), (18, .invokevirtual 198, 3), (21, .invokespecial 193, 3), (24, .athrow, 1), (25, .return_, 1)]
theorem TJx4a65c_rangeCheckForAdd_d00df_0 : Tab cJx4a65c_rangeCheckForAdd_d00df tJx4a65c_rangeCheckForAdd_d00df_0 = true := by decide +kernel
def tJ7_copyOf_1904c_0 : Tb := [(0, .aload_n 0, 1), (1, .iload_n 1, 1), (2, .aload_n 0, 1), (3, .invokevirtual 86, 3), (6, .invokestatic 300, 3), (9, .areturn, 1)]
theorem TJ7_copyOf_1904c_0 : Tab cJ7_copyOf_1904c tJ7_copyOf_1904c_0 = true := by decide +kernel
def tJ7_copyOf_6403c_0 : Tb := [(0, .aload_n 2, 1), (1, .ldc 110, 2), (3, .if_acmp .ne 10, 3), (6, .iload_n 1, 1), (7, .anewarray 2, 3), (10, .goto 14, 3), (13, .aload_n 2, 1), (14, .invokevirtual 90, 3), (17, .iload_n 1, 1), (18, .invokestatic 95, 3), (21, .checkcast 110, 3), (24, .astore_n 3, 1), (25, .aload_n 0, 1), (26, .iconst 0, 1), (27, .aload_n 3, 1), (28, .iconst 0, 1), (29, .aload_n 0, 1), (30, .arraylength, 1), (31, .iload_n 1, 1), (32, .invokestatic 304, 3), (35, .invokestatic 150, 3), (38, .aload_n 3, 1), (39, .areturn, 1)]
theorem TJ7_copyOf_6403c_0 : Tab cJ7_copyOf_6403c tJ7_copyOf_6403c_0 = true := by decide +kernel
def tJ7_copyOf_59c91_0 : Tb := [(0, .iload_n 1, 1), (1, .aload_n 0, 1), (2, .arraylength, 1), (3, .if_icmp .ne 11, 3), (6, .aload_n 0, 1), (7, .invokevirtual 316, 3), (10, .checkcast 317, 3), (13, .areturn, 1), (14, .iload_n 1, 1), (15, .newarray .int, 2), (17, .astore_n 2, 1), (18, .aload_n 0, 1), (19, .iconst 0, 1), (20, .aload_n 2, 1), (21, .iconst 0, 1), (22, .aload_n 0, 1), (23, .arraylength, 1), (24, .iload_n 1, 1), (25, .invokestatic 304, 3), (28, .invokestatic 150, 3), (31, .aload_n 2, 1), (32, .areturn, 1)]
theorem TJ7_copyOf_59c91_0 : Tab cJ7_copyOf_59c91 tJ7_copyOf_59c91_0 = true := by decide +kernel
def tJ15_checkIndex_7cf53_0 : Tb := [(0, .iload_n 0, 1), (1, .iload_n 1, 1), (2, .aconst_null, 1), (3, .invokestatic 105, 3), (6, .ireturn, 1)]
theorem TJ15_checkIndex_7cf53_0 : Tab cJ15_checkIndex_7cf53 tJ15_checkIndex_7cf53_0 = true := by decide +kernel
def tJ8_newLength_cabcc_0 : Tb := [(0, .iload_n 0, 1), (1, .iload_n 1, 1), (2, .iload_n 2, 1), (3, .invokestatic 194, 3), (6, .iadd, 1), (7, .istore_n 3, 1), (8, .iconst 0, 1), (9, .iload_n 3, 1), (10, .if_icmp .ge 11, 3), (13, .iload_n 3, 1), (14, .ldc 200, 2), (16, .if_icmp .gt 5, 3), (19, .iload_n 3, 1), (20, .ireturn, 1), (21, .iload_n 0, 1), (22, .iload_n 1, 1), (23, .invokestatic 201, 3), (26, .ireturn, 1)]
theorem TJ8_newLength_cabcc_0 : Tab cJ8_newLength_cabcc tJ8_newLength_cabcc_0 = true := by decide +kernel
def tJ8_hugeLength_7cf53_0 : Tb := [(0, .iload_n 0, 1), (1, .iload_n 1, 1), (2, .iadd, 1), (3, .istore_n 2, 1), (4, .iload_n 2, 1), (5, .ifCond .ge 44, 3), (8, .new 204, 3), (11, .dup, 1), (12, .new 89, 3), (15, .dup, 1), (16, .invokespecial 91, 3), (19, .ldc 206, 2), (21, .invokevirtual 94, 3), (24, .iload_n 0, 1), (25, .invokevirtual 98, 3), (28, .ldc 208, 2), (30, .invokevirtual 94, 3), (33, .iload_n 1, 1), (34, .invokevirtual 98, 3), (37, .ldc 210, 2), (39, .invokevirtual 94, 3), (42, .invokevirtual 101, 3), (45, .invokespecial 212, 3), (48, .athrow, 1), (49, .iload_n 2, 1), (50, .ldc 200, 2), (52, .if_icmp .gt 6, 3), (55, .ldc 200, 2), (57, .ireturn, 1), (58, .iload_n 2, 1), (59, .ireturn, 1)]
theorem TJ8_hugeLength_7cf53_0 : Tab cJ8_hugeLength_7cf53 tJ8_hugeLength_7cf53_0 = true := by decide +kernel
def tJ3_checkIndex_8e157_0 : Tb := [(0, .iload_n 0, 1), (1, .ifCond .lt 8, 3), (4, .iload_n 0, 1), (5, .iload_n 1, 1), (6, .if_icmp .lt 10, 3), (9, .aload_n 2, 1), (10, .iload_n 0, 1), (11, .iload_n 1, 1), (12, .invokestatic 95, 3), (15, .athrow, 1), (16, .iload_n 0, 1), (17, .ireturn, 1)]
theorem TJ3_checkIndex_8e157_0 : Tab cJ3_checkIndex_8e157 tJ3_checkIndex_8e157_0 = true := by decide +kernel
def tJ3_checkFromToIndex_8c36e_0 : Tb := [(0, .iload_n 0, 1), (1, .ifCond .lt 13, 3), (4, .iload_n 0, 1), (5, .iload_n 1, 1), (6, .if_icmp .gt 8, 3), (9, .iload_n 1, 1), (10, .iload_n 2, 1), (11, .if_icmp .le 11, 3), (14, .aload_n 3, 1), (15, .iload_n 0, 1), (16, .iload_n 1, 1), (17, .iload_n 2, 1), (18, .invokestatic 99, 3), (21, .athrow, 1), (22, .iload_n 0, 1), (23, .ireturn, 1)]
theorem TJ3_checkFromToIndex_8c36e_0 : Tab cJ3_checkFromToIndex_8c36e tJ3_checkFromToIndex_8c36e_0 = true := by decide +kernel
def tL_rule_0 : Tb := [(0, .aload 8, 2), (2, .iconst 0, 1), (3, .aload_n 0, 1), (4, .iload_n 1, 1), (5, .iload_n 2, 1), (6, .iload_n 3, 1), (7, .iload 4, 2), (9, .iload 5, 2), (11, .iload 6, 2), (13, .iload 7, 2), (15, .invokevirtual 7, 3), (18, .i2l, 1), (19, .lastore, 1), (20, .goto 7, 3), (23, .astore 9, 2), (25, .iconst 1, 1), (26, .ireturn, 1), (27, .iconst 0, 1), (28, .ireturn, 1)]
theorem TL_rule_0 : Tab cL_rule tL_rule_0 = true := by decide +kernel
def tL_pay_0 : Tb := [(0, .aload_n 3, 1), (1, .iconst 0, 1), (2, .aload_n 0, 1), (3, .iload_n 1, 1), (4, .iload_n 2, 1), (5, .invokevirtual 15, 3), (8, .lastore, 1), (9, .goto 7, 3), (12, .astore 4, 2), (14, .iconst 1, 1), (15, .ireturn, 1), (16, .iconst 0, 1), (17, .ireturn, 1)]
theorem TL_pay_0 : Tab cL_pay tL_pay_0 = true := by decide +kernel
def tL_money_0 : Tb := [(0, .aload_n 3, 1), (1, .iconst 0, 1), (2, .aload_n 0, 1), (3, .iload_n 1, 1), (4, .iload_n 2, 1), (5, .invokevirtual 19, 3), (8, .lastore, 1), (9, .goto 7, 3), (12, .astore 4, 2), (14, .iconst 1, 1), (15, .ireturn, 1), (16, .iconst 0, 1), (17, .ireturn, 1)]
theorem TL_money_0 : Tab cL_money tL_money_0 = true := by decide +kernel
def tL_position_0 : Tb := [(0, .aload_n 3, 1), (1, .iconst 0, 1), (2, .aload_n 0, 1), (3, .iload_n 1, 1), (4, .iload_n 2, 1), (5, .invokevirtual 22, 3), (8, .i2l, 1), (9, .lastore, 1), (10, .goto 7, 3), (13, .astore 4, 2), (15, .iconst 1, 1), (16, .ireturn, 1), (17, .iconst 0, 1), (18, .ireturn, 1)]
theorem TL_position_0 : Tab cL_position tL_position_0 = true := by decide +kernel
def tL_equity_0 : Tb := [(0, .aload 4, 2), (2, .iconst 0, 1), (3, .aload_n 0, 1), (4, .iload_n 1, 1), (5, .iload_n 2, 1), (6, .iload_n 3, 1), (7, .invokevirtual 26, 3), (10, .lastore, 1), (11, .goto 7, 3), (14, .astore 5, 2), (16, .iconst 1, 1), (17, .ireturn, 1), (18, .iconst 0, 1), (19, .ireturn, 1)]
theorem TL_equity_0 : Tab cL_equity tL_equity_0 = true := by decide +kernel
def tL_law_0 : Tb := [(0, .new 8, 3), (3, .dup, 1), (4, .invokespecial 30, 3), (7, .astore_n 1, 1), (8, .new 31, 3), (11, .dup, 1), (12, .invokespecial 33, 3), (15, .astore_n 2, 1), (16, .iconst 1, 1), (17, .newarray .long, 2), (19, .astore_n 3, 1), (20, .iconst 0, 1), (21, .istore 4, 2), (23, .iload 4, 2), (25, .aload_n 0, 1), (26, .arraylength, 1), (27, .bipush 8, 2), (29, .isub, 1), (30, .if_icmp .gt 1440, 3), (33, .aload_n 0, 1), (34, .iload 4, 2), (36, .iaload, 1), (37, .bipush 31, 2), (39, .iand, 1), (40, .tableswitch 1424 0 27 #[128, 201, 226, 239, 264, 396, 409, 476, 565, 602, 679, 716, 741, 754, 821, 889, 938, 963, 988, 1037, 1086, 1111, 1136, 1173, 1210, 1247, 1296, 1345], 128), (168, .aload_n 1, 1), (169, .aload_n 0, 1), (170, .iload 4, 2), (172, .iconst 1, 1), (173, .iadd, 1), (174, .iaload, 1), (175, .aload_n 0, 1), (176, .iload 4, 2), (178, .iconst 2, 1), (179, .iadd, 1), (180, .iaload, 1), (181, .aload_n 0, 1), (182, .iload 4, 2), (184, .iconst 3, 1), (185, .iadd, 1)]
theorem TL_law_0 : Tab cL_law tL_law_0 = true := by decide +kernel
def tL_law_1 : Tb := [(186, .iaload, 1), (187, .aload_n 0, 1), (188, .iload 4, 2), (190, .iconst 4, 1), (191, .iadd, 1), (192, .iaload, 1), (193, .aload_n 0, 1), (194, .iload 4, 2), (196, .iconst 5, 1), (197, .iadd, 1), (198, .iaload, 1), (199, .invokevirtual 34, 3), (202, .aload_n 2, 1), (203, .aload_n 0, 1), (204, .iload 4, 2), (206, .iconst 1, 1), (207, .iadd, 1), (208, .iaload, 1), (209, .aload_n 0, 1), (210, .iload 4, 2), (212, .iconst 2, 1), (213, .iadd, 1), (214, .iaload, 1), (215, .aload_n 0, 1), (216, .iload 4, 2), (218, .iconst 3, 1), (219, .iadd, 1), (220, .iaload, 1), (221, .aload_n 0, 1), (222, .iload 4, 2), (224, .iconst 4, 1), (225, .iadd, 1), (226, .iaload, 1), (227, .aload_n 0, 1), (228, .iload 4, 2), (230, .iconst 5, 1), (231, .iadd, 1), (232, .iaload, 1), (233, .invokevirtual 38, 3), (236, .if_icmp .eq 1228, 3)]
theorem TL_law_1 : Tab cL_law tL_law_1 = true := by decide +kernel
def tL_law_2 : Tb := [(239, .iconst 0, 1), (240, .ireturn, 1), (241, .aload_n 1, 1), (242, .aload_n 0, 1), (243, .iload 4, 2), (245, .iconst 1, 1), (246, .iadd, 1), (247, .iaload, 1), (248, .invokevirtual 39, 3), (251, .aload_n 2, 1), (252, .aload_n 0, 1), (253, .iload 4, 2), (255, .iconst 1, 1), (256, .iadd, 1), (257, .iaload, 1), (258, .invokevirtual 43, 3), (261, .if_icmp .eq 1203, 3), (264, .iconst 0, 1), (265, .ireturn, 1), (266, .aload_n 1, 1), (267, .invokevirtual 44, 3), (270, .aload_n 2, 1), (271, .invokevirtual 48, 3), (274, .if_icmp .eq 1190, 3), (277, .iconst 0, 1), (278, .ireturn, 1), (279, .aload_n 1, 1), (280, .aload_n 0, 1), (281, .iload 4, 2), (283, .iconst 1, 1), (284, .iadd, 1), (285, .iaload, 1), (286, .invokevirtual 49, 3), (289, .aload_n 2, 1), (290, .aload_n 0, 1), (291, .iload 4, 2), (293, .iconst 1, 1), (294, .iadd, 1), (295, .iaload, 1), (296, .invokevirtual 53, 3)]
theorem TL_law_2 : Tab cL_law tL_law_2 = true := by decide +kernel
def tL_law_3 : Tb := [(299, .if_icmp .eq 1165, 3), (302, .iconst 0, 1), (303, .ireturn, 1), (304, .aload_n 1, 1), (305, .aload_n 0, 1), (306, .iload 4, 2), (308, .iconst 1, 1), (309, .iadd, 1), (310, .iaload, 1), (311, .aload_n 0, 1), (312, .iload 4, 2), (314, .iconst 2, 1), (315, .iadd, 1), (316, .iaload, 1), (317, .aload_n 0, 1), (318, .iload 4, 2), (320, .iconst 3, 1), (321, .iadd, 1), (322, .iaload, 1), (323, .aload_n 0, 1), (324, .iload 4, 2), (326, .iconst 4, 1), (327, .iadd, 1), (328, .iaload, 1), (329, .aload_n 0, 1), (330, .iload 4, 2), (332, .iconst 5, 1), (333, .iadd, 1), (334, .iaload, 1), (335, .aload_n 0, 1), (336, .iload 4, 2), (338, .bipush 6, 2), (340, .iadd, 1), (341, .iaload, 1), (342, .aload_n 0, 1), (343, .iload 4, 2), (345, .bipush 7, 2), (347, .iadd, 1), (348, .iaload, 1), (349, .aload_n 3, 1)]
theorem TL_law_3 : Tab cL_law tL_law_3 = true := by decide +kernel
def tL_law_4 : Tb := [(350, .invokestatic 54, 3), (353, .istore 5, 2), (355, .aload_n 2, 1), (356, .aload_n 0, 1), (357, .iload 4, 2), (359, .iconst 1, 1), (360, .iadd, 1), (361, .iaload, 1), (362, .aload_n 0, 1), (363, .iload 4, 2), (365, .iconst 2, 1), (366, .iadd, 1), (367, .iaload, 1), (368, .aload_n 0, 1), (369, .iload 4, 2), (371, .iconst 3, 1), (372, .iadd, 1), (373, .iaload, 1), (374, .aload_n 0, 1), (375, .iload 4, 2), (377, .iconst 4, 1), (378, .iadd, 1), (379, .iaload, 1), (380, .aload_n 0, 1), (381, .iload 4, 2), (383, .iconst 5, 1), (384, .iadd, 1), (385, .iaload, 1), (386, .aload_n 0, 1), (387, .iload 4, 2), (389, .bipush 6, 2), (391, .iadd, 1), (392, .iaload, 1), (393, .aload_n 0, 1), (394, .iload 4, 2), (396, .bipush 7, 2), (398, .iadd, 1), (399, .iaload, 1), (400, .invokevirtual 59, 3), (403, .istore 6, 2)]
theorem TL_law_4 : Tab cL_law tL_law_4 = true := by decide +kernel
def tL_law_5 : Tb := [(405, .aload_n 2, 1), (406, .invokevirtual 60, 3), (409, .iload 5, 2), (411, .if_icmp .eq 5, 3), (414, .iconst 0, 1), (415, .ireturn, 1), (416, .iload 5, 2), (418, .ifCond .ne 15, 3), (421, .aload_n 3, 1), (422, .iconst 0, 1), (423, .laload, 1), (424, .iload 6, 2), (426, .i2l, 1), (427, .lcmp, 1), (428, .ifCond .eq 5, 3), (431, .iconst 0, 1), (432, .ireturn, 1), (433, .goto 1031, 3), (436, .aload_n 1, 1), (437, .invokevirtual 63, 3), (440, .aload_n 2, 1), (441, .invokevirtual 66, 3), (444, .if_icmp .eq 1020, 3), (447, .iconst 0, 1), (448, .ireturn, 1), (449, .aload_n 1, 1), (450, .aload_n 0, 1), (451, .iload 4, 2), (453, .iconst 1, 1), (454, .iadd, 1), (455, .iaload, 1), (456, .aload_n 0, 1), (457, .iload 4, 2), (459, .iconst 2, 1), (460, .iadd, 1), (461, .iaload, 1), (462, .aload_n 3, 1), (463, .invokestatic 67, 3), (466, .istore 5, 2), (468, .aload_n 2, 1)]
theorem TL_law_5 : Tab cL_law tL_law_5 = true := by decide +kernel
def tL_law_6 : Tb := [(469, .aload_n 0, 1), (470, .iload 4, 2), (472, .iconst 1, 1), (473, .iadd, 1), (474, .iaload, 1), (475, .aload_n 0, 1), (476, .iload 4, 2), (478, .iconst 2, 1), (479, .iadd, 1), (480, .iaload, 1), (481, .invokevirtual 70, 3), (484, .lstore 6, 2), (486, .aload_n 2, 1), (487, .invokevirtual 60, 3), (490, .iload 5, 2), (492, .if_icmp .eq 5, 3), (495, .iconst 0, 1), (496, .ireturn, 1), (497, .iload 5, 2), (499, .ifCond .ne 14, 3), (502, .aload_n 3, 1), (503, .iconst 0, 1), (504, .laload, 1), (505, .lload 6, 2), (507, .lcmp, 1), (508, .ifCond .eq 5, 3), (511, .iconst 0, 1), (512, .ireturn, 1), (513, .goto 951, 3), (516, .aload_n 1, 1), (517, .aload_n 0, 1), (518, .iload 4, 2), (520, .iconst 1, 1), (521, .iadd, 1), (522, .iaload, 1), (523, .aload_n 0, 1), (524, .iload 4, 2), (526, .iconst 2, 1), (527, .iadd, 1), (528, .iaload, 1)]
theorem TL_law_6 : Tab cL_law tL_law_6 = true := by decide +kernel
def tL_law_7 : Tb := [(529, .ifCond .eq 7, 3), (532, .iconst 1, 1), (533, .goto 4, 3), (536, .iconst 0, 1), (537, .aload_n 0, 1), (538, .iload 4, 2), (540, .iconst 3, 1), (541, .iadd, 1), (542, .iaload, 1), (543, .aload_n 0, 1), (544, .iload 4, 2), (546, .iconst 4, 1), (547, .iadd, 1), (548, .iaload, 1), (549, .aload_n 0, 1), (550, .iload 4, 2), (552, .iconst 5, 1), (553, .iadd, 1), (554, .iaload, 1), (555, .invokevirtual 71, 3), (558, .aload_n 2, 1), (559, .aload_n 0, 1), (560, .iload 4, 2), (562, .iconst 1, 1), (563, .iadd, 1), (564, .iaload, 1), (565, .aload_n 0, 1), (566, .iload 4, 2), (568, .iconst 2, 1), (569, .iadd, 1), (570, .iaload, 1), (571, .ifCond .eq 7, 3), (574, .iconst 1, 1), (575, .goto 4, 3), (578, .iconst 0, 1), (579, .aload_n 0, 1), (580, .iload 4, 2), (582, .iconst 3, 1), (583, .iadd, 1), (584, .iaload, 1)]
theorem TL_law_7 : Tab cL_law tL_law_7 = true := by decide +kernel
def tL_law_8 : Tb := [(585, .aload_n 0, 1), (586, .iload 4, 2), (588, .iconst 4, 1), (589, .iadd, 1), (590, .iaload, 1), (591, .aload_n 0, 1), (592, .iload 4, 2), (594, .iconst 5, 1), (595, .iadd, 1), (596, .iaload, 1), (597, .invokevirtual 75, 3), (600, .if_icmp .eq 864, 3), (603, .iconst 0, 1), (604, .ireturn, 1), (605, .aload_n 1, 1), (606, .aload_n 0, 1), (607, .iload 4, 2), (609, .iconst 1, 1), (610, .iadd, 1), (611, .iaload, 1), (612, .aload_n 0, 1), (613, .iload 4, 2), (615, .iconst 2, 1), (616, .iadd, 1), (617, .iaload, 1), (618, .invokevirtual 76, 3), (621, .aload_n 2, 1), (622, .aload_n 0, 1), (623, .iload 4, 2), (625, .iconst 1, 1), (626, .iadd, 1), (627, .iaload, 1), (628, .aload_n 0, 1), (629, .iload 4, 2), (631, .iconst 2, 1), (632, .iadd, 1), (633, .iaload, 1), (634, .invokevirtual 79, 3), (637, .if_icmp .eq 827, 3), (640, .iconst 0, 1)]
theorem TL_law_8 : Tab cL_law tL_law_8 = true := by decide +kernel
def tL_law_9 : Tb := [(641, .ireturn, 1), (642, .aload_n 1, 1), (643, .aload_n 0, 1), (644, .iload 4, 2), (646, .iconst 1, 1), (647, .iadd, 1), (648, .iaload, 1), (649, .ifCond .eq 7, 3), (652, .iconst 1, 1), (653, .goto 4, 3), (656, .iconst 0, 1), (657, .aload_n 0, 1), (658, .iload 4, 2), (660, .iconst 2, 1), (661, .iadd, 1), (662, .iaload, 1), (663, .aload_n 0, 1), (664, .iload 4, 2), (666, .iconst 3, 1), (667, .iadd, 1), (668, .iaload, 1), (669, .aload_n 0, 1), (670, .iload 4, 2), (672, .iconst 4, 1), (673, .iadd, 1), (674, .iaload, 1), (675, .invokevirtual 80, 3), (678, .aload_n 2, 1), (679, .aload_n 0, 1), (680, .iload 4, 2), (682, .iconst 1, 1), (683, .iadd, 1), (684, .iaload, 1), (685, .ifCond .eq 7, 3), (688, .iconst 1, 1), (689, .goto 4, 3), (692, .iconst 0, 1), (693, .aload_n 0, 1), (694, .iload 4, 2), (696, .iconst 2, 1)]
theorem TL_law_9 : Tab cL_law tL_law_9 = true := by decide +kernel
def tL_law_10 : Tb := [(697, .iadd, 1), (698, .iaload, 1), (699, .aload_n 0, 1), (700, .iload 4, 2), (702, .iconst 3, 1), (703, .iadd, 1), (704, .iaload, 1), (705, .aload_n 0, 1), (706, .iload 4, 2), (708, .iconst 4, 1), (709, .iadd, 1), (710, .iaload, 1), (711, .invokevirtual 84, 3), (714, .if_icmp .eq 750, 3), (717, .iconst 0, 1), (718, .ireturn, 1), (719, .aload_n 1, 1), (720, .aload_n 0, 1), (721, .iload 4, 2), (723, .iconst 1, 1), (724, .iadd, 1), (725, .iaload, 1), (726, .aload_n 0, 1), (727, .iload 4, 2), (729, .iconst 2, 1), (730, .iadd, 1), (731, .iaload, 1), (732, .invokevirtual 85, 3), (735, .aload_n 2, 1), (736, .aload_n 0, 1), (737, .iload 4, 2), (739, .iconst 1, 1), (740, .iadd, 1), (741, .iaload, 1), (742, .aload_n 0, 1), (743, .iload 4, 2), (745, .iconst 2, 1), (746, .iadd, 1), (747, .iaload, 1), (748, .invokevirtual 88, 3)]
theorem TL_law_10 : Tab cL_law tL_law_10 = true := by decide +kernel
def tL_law_11 : Tb := [(751, .if_icmp .eq 713, 3), (754, .iconst 0, 1), (755, .ireturn, 1), (756, .aload_n 1, 1), (757, .aload_n 0, 1), (758, .iload 4, 2), (760, .iconst 1, 1), (761, .iadd, 1), (762, .iaload, 1), (763, .invokevirtual 89, 3), (766, .aload_n 2, 1), (767, .aload_n 0, 1), (768, .iload 4, 2), (770, .iconst 1, 1), (771, .iadd, 1), (772, .iaload, 1), (773, .invokevirtual 92, 3), (776, .if_icmp .eq 688, 3), (779, .iconst 0, 1), (780, .ireturn, 1), (781, .aload_n 1, 1), (782, .invokevirtual 93, 3), (785, .aload_n 2, 1), (786, .invokevirtual 96, 3), (789, .if_icmp .eq 675, 3), (792, .iconst 0, 1), (793, .ireturn, 1), (794, .aload_n 1, 1), (795, .aload_n 0, 1), (796, .iload 4, 2), (798, .iconst 1, 1), (799, .iadd, 1), (800, .iaload, 1), (801, .aload_n 0, 1), (802, .iload 4, 2), (804, .iconst 2, 1), (805, .iadd, 1), (806, .iaload, 1), (807, .aload_n 3, 1), (808, .invokestatic 97, 3)]
theorem TL_law_11 : Tab cL_law tL_law_11 = true := by decide +kernel
def tL_law_12 : Tb := [(811, .istore 5, 2), (813, .aload_n 2, 1), (814, .aload_n 0, 1), (815, .iload 4, 2), (817, .iconst 1, 1), (818, .iadd, 1), (819, .iaload, 1), (820, .aload_n 0, 1), (821, .iload 4, 2), (823, .iconst 2, 1), (824, .iadd, 1), (825, .iaload, 1), (826, .invokevirtual 99, 3), (829, .lstore 6, 2), (831, .aload_n 2, 1), (832, .invokevirtual 60, 3), (835, .iload 5, 2), (837, .if_icmp .eq 5, 3), (840, .iconst 0, 1), (841, .ireturn, 1), (842, .iload 5, 2), (844, .ifCond .ne 14, 3), (847, .aload_n 3, 1), (848, .iconst 0, 1), (849, .laload, 1), (850, .lload 6, 2), (852, .lcmp, 1), (853, .ifCond .eq 5, 3), (856, .iconst 0, 1), (857, .ireturn, 1), (858, .goto 606, 3), (861, .aload_n 1, 1), (862, .aload_n 0, 1), (863, .iload 4, 2), (865, .iconst 1, 1), (866, .iadd, 1), (867, .iaload, 1), (868, .aload_n 0, 1), (869, .iload 4, 2), (871, .iconst 2, 1)]
theorem TL_law_12 : Tab cL_law tL_law_12 = true := by decide +kernel
def tL_law_13 : Tb := [(872, .iadd, 1), (873, .iaload, 1), (874, .aload_n 3, 1), (875, .invokestatic 100, 3), (878, .istore 5, 2), (880, .aload_n 2, 1), (881, .aload_n 0, 1), (882, .iload 4, 2), (884, .iconst 1, 1), (885, .iadd, 1), (886, .iaload, 1), (887, .aload_n 0, 1), (888, .iload 4, 2), (890, .iconst 2, 1), (891, .iadd, 1), (892, .iaload, 1), (893, .invokevirtual 102, 3), (896, .istore 6, 2), (898, .aload_n 2, 1), (899, .invokevirtual 60, 3), (902, .iload 5, 2), (904, .if_icmp .eq 5, 3), (907, .iconst 0, 1), (908, .ireturn, 1), (909, .iload 5, 2), (911, .ifCond .ne 15, 3), (914, .aload_n 3, 1), (915, .iconst 0, 1), (916, .laload, 1), (917, .iload 6, 2), (919, .i2l, 1), (920, .lcmp, 1), (921, .ifCond .eq 5, 3), (924, .iconst 0, 1), (925, .ireturn, 1), (926, .goto 538, 3), (929, .aload_n 1, 1), (930, .aload_n 0, 1), (931, .iload 4, 2), (933, .iconst 1, 1)]
theorem TL_law_13 : Tab cL_law tL_law_13 = true := by decide +kernel
def tL_law_14 : Tb := [(934, .iadd, 1), (935, .iaload, 1), (936, .aload_n 0, 1), (937, .iload 4, 2), (939, .iconst 2, 1), (940, .iadd, 1), (941, .iaload, 1), (942, .aload_n 0, 1), (943, .iload 4, 2), (945, .iconst 3, 1), (946, .iadd, 1), (947, .iaload, 1), (948, .invokevirtual 103, 3), (951, .aload_n 2, 1), (952, .aload_n 0, 1), (953, .iload 4, 2), (955, .iconst 1, 1), (956, .iadd, 1), (957, .iaload, 1), (958, .aload_n 0, 1), (959, .iload 4, 2), (961, .iconst 2, 1), (962, .iadd, 1), (963, .iaload, 1), (964, .aload_n 0, 1), (965, .iload 4, 2), (967, .iconst 3, 1), (968, .iadd, 1), (969, .iaload, 1), (970, .invokevirtual 107, 3), (973, .if_icmp .eq 491, 3), (976, .iconst 0, 1), (977, .ireturn, 1), (978, .aload_n 1, 1), (979, .aload_n 0, 1), (980, .iload 4, 2), (982, .iconst 1, 1), (983, .iadd, 1), (984, .iaload, 1), (985, .invokevirtual 108, 3)]
theorem TL_law_14 : Tab cL_law tL_law_14 = true := by decide +kernel
def tL_law_15 : Tb := [(988, .aload_n 2, 1), (989, .aload_n 0, 1), (990, .iload 4, 2), (992, .iconst 1, 1), (993, .iadd, 1), (994, .iaload, 1), (995, .invokevirtual 111, 3), (998, .if_icmp .eq 466, 3), (1001, .iconst 0, 1), (1002, .ireturn, 1), (1003, .aload_n 1, 1), (1004, .aload_n 0, 1), (1005, .iload 4, 2), (1007, .iconst 1, 1), (1008, .iadd, 1), (1009, .iaload, 1), (1010, .invokevirtual 112, 3), (1013, .aload_n 2, 1), (1014, .aload_n 0, 1), (1015, .iload 4, 2), (1017, .iconst 1, 1), (1018, .iadd, 1), (1019, .iaload, 1), (1020, .invokevirtual 115, 3), (1023, .if_icmp .eq 441, 3), (1026, .iconst 0, 1), (1027, .ireturn, 1), (1028, .aload_n 1, 1), (1029, .aload_n 0, 1), (1030, .iload 4, 2), (1032, .iconst 1, 1), (1033, .iadd, 1), (1034, .iaload, 1), (1035, .aload_n 0, 1), (1036, .iload 4, 2), (1038, .iconst 2, 1), (1039, .iadd, 1), (1040, .iaload, 1), (1041, .aload_n 0, 1), (1042, .iload 4, 2)]
theorem TL_law_15 : Tab cL_law tL_law_15 = true := by decide +kernel
def tL_law_16 : Tb := [(1044, .iconst 3, 1), (1045, .iadd, 1), (1046, .iaload, 1), (1047, .invokevirtual 116, 3), (1050, .aload_n 2, 1), (1051, .aload_n 0, 1), (1052, .iload 4, 2), (1054, .iconst 1, 1), (1055, .iadd, 1), (1056, .iaload, 1), (1057, .aload_n 0, 1), (1058, .iload 4, 2), (1060, .iconst 2, 1), (1061, .iadd, 1), (1062, .iaload, 1), (1063, .aload_n 0, 1), (1064, .iload 4, 2), (1066, .iconst 3, 1), (1067, .iadd, 1), (1068, .iaload, 1), (1069, .invokevirtual 119, 3), (1072, .if_icmp .eq 392, 3), (1075, .iconst 0, 1), (1076, .ireturn, 1), (1077, .aload_n 1, 1), (1078, .aload_n 0, 1), (1079, .iload 4, 2), (1081, .iconst 1, 1), (1082, .iadd, 1), (1083, .iaload, 1), (1084, .aload_n 0, 1), (1085, .iload 4, 2), (1087, .iconst 2, 1), (1088, .iadd, 1), (1089, .iaload, 1), (1090, .aload_n 0, 1), (1091, .iload 4, 2), (1093, .iconst 3, 1), (1094, .iadd, 1), (1095, .iaload, 1)]
theorem TL_law_16 : Tab cL_law tL_law_16 = true := by decide +kernel
def tL_law_17 : Tb := [(1096, .invokevirtual 120, 3), (1099, .aload_n 2, 1), (1100, .aload_n 0, 1), (1101, .iload 4, 2), (1103, .iconst 1, 1), (1104, .iadd, 1), (1105, .iaload, 1), (1106, .aload_n 0, 1), (1107, .iload 4, 2), (1109, .iconst 2, 1), (1110, .iadd, 1), (1111, .iaload, 1), (1112, .aload_n 0, 1), (1113, .iload 4, 2), (1115, .iconst 3, 1), (1116, .iadd, 1), (1117, .iaload, 1), (1118, .invokevirtual 123, 3), (1121, .if_icmp .eq 343, 3), (1124, .iconst 0, 1), (1125, .ireturn, 1), (1126, .aload_n 1, 1), (1127, .aload_n 0, 1), (1128, .iload 4, 2), (1130, .iconst 1, 1), (1131, .iadd, 1), (1132, .iaload, 1), (1133, .invokevirtual 124, 3), (1136, .aload_n 2, 1), (1137, .aload_n 0, 1), (1138, .iload 4, 2), (1140, .iconst 1, 1), (1141, .iadd, 1), (1142, .iaload, 1), (1143, .invokevirtual 127, 3), (1146, .if_icmp .eq 318, 3), (1149, .iconst 0, 1), (1150, .ireturn, 1), (1151, .aload_n 1, 1), (1152, .aload_n 0, 1)]
theorem TL_law_17 : Tab cL_law tL_law_17 = true := by decide +kernel
def tL_law_18 : Tb := [(1153, .iload 4, 2), (1155, .iconst 1, 1), (1156, .iadd, 1), (1157, .iaload, 1), (1158, .invokevirtual 128, 3), (1161, .aload_n 2, 1), (1162, .aload_n 0, 1), (1163, .iload 4, 2), (1165, .iconst 1, 1), (1166, .iadd, 1), (1167, .iaload, 1), (1168, .invokevirtual 131, 3), (1171, .if_icmp .eq 293, 3), (1174, .iconst 0, 1), (1175, .ireturn, 1), (1176, .aload_n 1, 1), (1177, .aload_n 0, 1), (1178, .iload 4, 2), (1180, .iconst 1, 1), (1181, .iadd, 1), (1182, .iaload, 1), (1183, .aload_n 0, 1), (1184, .iload 4, 2), (1186, .iconst 2, 1), (1187, .iadd, 1), (1188, .iaload, 1), (1189, .invokevirtual 132, 3), (1192, .aload_n 2, 1), (1193, .aload_n 0, 1), (1194, .iload 4, 2), (1196, .iconst 1, 1), (1197, .iadd, 1), (1198, .iaload, 1), (1199, .aload_n 0, 1), (1200, .iload 4, 2), (1202, .iconst 2, 1), (1203, .iadd, 1), (1204, .iaload, 1), (1205, .invokevirtual 135, 3), (1208, .if_icmp .eq 256, 3)]
theorem TL_law_18 : Tab cL_law tL_law_18 = true := by decide +kernel
def tL_law_19 : Tb := [(1211, .iconst 0, 1), (1212, .ireturn, 1), (1213, .aload_n 1, 1), (1214, .aload_n 0, 1), (1215, .iload 4, 2), (1217, .iconst 1, 1), (1218, .iadd, 1), (1219, .iaload, 1), (1220, .aload_n 0, 1), (1221, .iload 4, 2), (1223, .iconst 2, 1), (1224, .iadd, 1), (1225, .iaload, 1), (1226, .invokevirtual 136, 3), (1229, .aload_n 2, 1), (1230, .aload_n 0, 1), (1231, .iload 4, 2), (1233, .iconst 1, 1), (1234, .iadd, 1), (1235, .iaload, 1), (1236, .aload_n 0, 1), (1237, .iload 4, 2), (1239, .iconst 2, 1), (1240, .iadd, 1), (1241, .iaload, 1), (1242, .invokevirtual 139, 3), (1245, .if_icmp .eq 219, 3), (1248, .iconst 0, 1), (1249, .ireturn, 1), (1250, .aload_n 1, 1), (1251, .aload_n 0, 1), (1252, .iload 4, 2), (1254, .iconst 1, 1), (1255, .iadd, 1), (1256, .iaload, 1), (1257, .aload_n 0, 1), (1258, .iload 4, 2), (1260, .iconst 2, 1), (1261, .iadd, 1), (1262, .iaload, 1)]
theorem TL_law_19 : Tab cL_law tL_law_19 = true := by decide +kernel
def tL_law_20 : Tb := [(1263, .invokevirtual 140, 3), (1266, .aload_n 2, 1), (1267, .aload_n 0, 1), (1268, .iload 4, 2), (1270, .iconst 1, 1), (1271, .iadd, 1), (1272, .iaload, 1), (1273, .aload_n 0, 1), (1274, .iload 4, 2), (1276, .iconst 2, 1), (1277, .iadd, 1), (1278, .iaload, 1), (1279, .invokevirtual 143, 3), (1282, .if_icmp .eq 182, 3), (1285, .iconst 0, 1), (1286, .ireturn, 1), (1287, .aload_n 1, 1), (1288, .aload_n 0, 1), (1289, .iload 4, 2), (1291, .iconst 1, 1), (1292, .iadd, 1), (1293, .iaload, 1), (1294, .aload_n 0, 1), (1295, .iload 4, 2), (1297, .iconst 2, 1), (1298, .iadd, 1), (1299, .iaload, 1), (1300, .aload_n 0, 1), (1301, .iload 4, 2), (1303, .iconst 3, 1), (1304, .iadd, 1), (1305, .iaload, 1), (1306, .invokevirtual 144, 3), (1309, .aload_n 2, 1), (1310, .aload_n 0, 1), (1311, .iload 4, 2), (1313, .iconst 1, 1), (1314, .iadd, 1), (1315, .iaload, 1), (1316, .aload_n 0, 1)]
theorem TL_law_20 : Tab cL_law tL_law_20 = true := by decide +kernel
def tL_law_21 : Tb := [(1317, .iload 4, 2), (1319, .iconst 2, 1), (1320, .iadd, 1), (1321, .iaload, 1), (1322, .aload_n 0, 1), (1323, .iload 4, 2), (1325, .iconst 3, 1), (1326, .iadd, 1), (1327, .iaload, 1), (1328, .invokevirtual 148, 3), (1331, .if_icmp .eq 133, 3), (1334, .iconst 0, 1), (1335, .ireturn, 1), (1336, .aload_n 1, 1), (1337, .aload_n 0, 1), (1338, .iload 4, 2), (1340, .iconst 1, 1), (1341, .iadd, 1), (1342, .iaload, 1), (1343, .aload_n 0, 1), (1344, .iload 4, 2), (1346, .iconst 2, 1), (1347, .iadd, 1), (1348, .iaload, 1), (1349, .aload_n 0, 1), (1350, .iload 4, 2), (1352, .iconst 3, 1), (1353, .iadd, 1), (1354, .iaload, 1), (1355, .invokevirtual 149, 3), (1358, .aload_n 2, 1), (1359, .aload_n 0, 1), (1360, .iload 4, 2), (1362, .iconst 1, 1), (1363, .iadd, 1), (1364, .iaload, 1), (1365, .aload_n 0, 1), (1366, .iload 4, 2), (1368, .iconst 2, 1), (1369, .iadd, 1)]
theorem TL_law_21 : Tab cL_law tL_law_21 = true := by decide +kernel
def tL_law_22 : Tb := [(1370, .iaload, 1), (1371, .aload_n 0, 1), (1372, .iload 4, 2), (1374, .iconst 3, 1), (1375, .iadd, 1), (1376, .iaload, 1), (1377, .invokevirtual 152, 3), (1380, .if_icmp .eq 84, 3), (1383, .iconst 0, 1), (1384, .ireturn, 1), (1385, .aload_n 1, 1), (1386, .aload_n 0, 1), (1387, .iload 4, 2), (1389, .iconst 1, 1), (1390, .iadd, 1), (1391, .iaload, 1), (1392, .aload_n 0, 1), (1393, .iload 4, 2), (1395, .iconst 2, 1), (1396, .iadd, 1), (1397, .iaload, 1), (1398, .aload_n 0, 1), (1399, .iload 4, 2), (1401, .iconst 3, 1), (1402, .iadd, 1), (1403, .iaload, 1), (1404, .aload_n 3, 1), (1405, .invokestatic 153, 3), (1408, .istore 5, 2), (1410, .aload_n 2, 1), (1411, .aload_n 0, 1), (1412, .iload 4, 2), (1414, .iconst 1, 1), (1415, .iadd, 1), (1416, .iaload, 1), (1417, .aload_n 0, 1), (1418, .iload 4, 2), (1420, .iconst 2, 1), (1421, .iadd, 1), (1422, .iaload, 1)]
theorem TL_law_22 : Tab cL_law tL_law_22 = true := by decide +kernel
def tL_law_23 : Tb := [(1423, .aload_n 0, 1), (1424, .iload 4, 2), (1426, .iconst 3, 1), (1427, .iadd, 1), (1428, .iaload, 1), (1429, .invokevirtual 156, 3), (1432, .lstore 6, 2), (1434, .aload_n 2, 1), (1435, .invokevirtual 60, 3), (1438, .iload 5, 2), (1440, .if_icmp .eq 5, 3), (1443, .iconst 0, 1), (1444, .ireturn, 1), (1445, .iload 5, 2), (1447, .ifCond .ne 14, 3), (1450, .aload_n 3, 1), (1451, .iconst 0, 1), (1452, .laload, 1), (1453, .lload 6, 2), (1455, .lcmp, 1), (1456, .ifCond .eq 5, 3), (1459, .iconst 0, 1), (1460, .ireturn, 1), (1461, .goto 3, 3), (1464, .iinc 4 8, 3), (1467, .goto (-1444), 3), (1470, .iconst 1, 1), (1471, .ireturn, 1)]
theorem TL_law_23 : Tab cL_law tL_law_23 = true := by decide +kernel
end
section
abbrev vcl : List vw_C := [(RX0, TX0, 3), (RX1, TX1, 5), (RX2, TX2, 4), (RX3, TX3, 7), (RX4, TX4, 11), (RX5, TX5, 4), (RX6, TX6, 3), (RX7, TX7, 4), (RX8, TX8, 3), (RX9, TX9, 4), (RX10, TX10, 7), (RX11, TX11, 11), (RX12, TX12, 48), (RJx4a65c, TJx4a65c, 3)]
def ftl : List (List Nat) := [[2, 2, 2], [2, 1, 1, 3, 3], [2, 2, 2, 3], [0, 0, 0, 0, 0, 0, 0], [2, 0, 0, 0, 0, 0, 0, 0, 0, 2, 0], [0, 0, 0, 3], [0, 0, 2], [2, 2, 2, 0], [0, 0, 2], [0, 0, 0, 0], [0, 0, 0, 0, 0, 0, 3], [2, 2, 2, 2, 2, 2, 2, 2, 0, 0, 0], [2, 0, 0, 0, 2, 2, 2, 2, 2, 0, 0, 2, 2, 2, 2, 2, 2, 2, 2, 2, 2, 0, 2, 0, 0, 2, 2, 2, 2, 2, 0, 2, 0, 2, 0, 0, 0, 0, 0, 0, 0, 0, 0, 0, 0, 0, 2, 2], [0, 2, 0]]
/-! ===== the logic: a memory of maps, programs over it (M), the judgement that the machine does what a program says (Ok), a method's contract (Ct) ===== -/
/-- a method: name, bytes, locals, what it returns -/
abbrev Mth : Type := MethodName × ByteArray × Nat × Option FieldType
/-- what a walk is over: the launch, the classes' numbers and slots, the array classes' numbers, the first address of our own cells, what else is known of the outside -/
abbrev Gam : Type := Launch × va_G × (Nat → ClassId) × Nat × (Nat → Option Nat) × (State → Prop)
abbrev gL (Γ : Gam) : Launch := Γ.1
abbrev gD (Γ : Gam) : va_G := Γ.2.1
abbrev gA (Γ : Gam) : Nat → ClassId := Γ.2.2.1
abbrev gB (Γ : Gam) : Nat := Γ.2.2.2.1
abbrev gT (Γ : Gam) : Nat → Option Nat := Γ.2.2.2.2.1
abbrev gE (Γ : Gam) : State → Prop := Γ.2.2.2.2.2
/-- a field's kind: 0 int, 1 long, 2 reference, 3 boolean -/
def fty (c k : Nat) : Nat := (ftl.getD c []).getD k 0
/-- int fields, long fields, reference fields (by 64 * class + place, address); arrays' elements (by kind, address, place); kinds; lengths; the next address; slots made; constants of the outside -/
abbrev Mem : Type := (Nat → Nat → Int32) × (Nat → Nat → Int64) × (Nat → Nat → Option Nat) × (Nat → Nat → Nat → Int32) × (Nat → Nat → Nat → Int64) × (Nat → Nat → Nat → Option Nat) × (Nat → Nat) × (Nat → Nat) × Nat × Nat × (Nat → Option Nat)
def mI (μ : Mem) : Nat → Nat → Int32 := μ.1
def mL (μ : Mem) : Nat → Nat → Int64 := μ.2.1
def mP (μ : Mem) : Nat → Nat → Option Nat := μ.2.2.1
def aI (μ : Mem) : Nat → Nat → Nat → Int32 := μ.2.2.2.1
def aL (μ : Mem) : Nat → Nat → Nat → Int64 := μ.2.2.2.2.1
def aP (μ : Mem) : Nat → Nat → Nat → Option Nat := μ.2.2.2.2.2.1
def mK (μ : Mem) : Nat → Nat := μ.2.2.2.2.2.2.1
def mN (μ : Mem) : Nat → Nat := μ.2.2.2.2.2.2.2.1
def mX (μ : Mem) : Nat := μ.2.2.2.2.2.2.2.2.1
def mS (μ : Mem) : Nat := μ.2.2.2.2.2.2.2.2.2.1
def mT (μ : Mem) : Nat → Option Nat := μ.2.2.2.2.2.2.2.2.2.2
def up2 {α : Type} (m : Nat → Nat → α) (f a : Nat) (v : α) : Nat → Nat → α := fun g b => if g = f ∧ b = a then v else m g b
def up3 {α : Type} (m : Nat → Nat → Nat → α) (f a i : Nat) (v : α) : Nat → Nat → Nat → α := fun g b j => if g = f ∧ b = a ∧ j = i then v else m g b j
def sI (μ : Mem) (f a : Nat) (v : Int32) : Mem := (up2 (mI μ) f a v, mL μ, mP μ, aI μ, aL μ, aP μ, mK μ, mN μ, mX μ, mS μ, mT μ)
def sL (μ : Mem) (f a : Nat) (v : Int64) : Mem := (mI μ, up2 (mL μ) f a v, mP μ, aI μ, aL μ, aP μ, mK μ, mN μ, mX μ, mS μ, mT μ)
def sP (μ : Mem) (f a : Nat) (v : Option Nat) : Mem := (mI μ, mL μ, up2 (mP μ) f a v, aI μ, aL μ, aP μ, mK μ, mN μ, mX μ, mS μ, mT μ)
def tI (μ : Mem) (k a i : Nat) (v : Int32) : Mem := (mI μ, mL μ, mP μ, up3 (aI μ) k a i v, aL μ, aP μ, mK μ, mN μ, mX μ, mS μ, mT μ)
def tL (μ : Mem) (k a i : Nat) (v : Int64) : Mem := (mI μ, mL μ, mP μ, aI μ, up3 (aL μ) k a i v, aP μ, mK μ, mN μ, mX μ, mS μ, mT μ)
def tP (μ : Mem) (k a i : Nat) (v : Option Nat) : Mem := (mI μ, mL μ, mP μ, aI μ, aL μ, up3 (aP μ) k a i v, mK μ, mN μ, mX μ, mS μ, mT μ)
/-- a new object of class c (n slots) -/
def nO (c n : Nat) (μ : Mem) : Mem := (fun f b => if b = mX μ then 0 else mI μ f b, fun f b => if b = mX μ then 0 else mL μ f b, fun f b => if b = mX μ then none else mP μ f b, aI μ, aL μ, aP μ, fun b => if b = mX μ then c + 1 else mK μ b, mN μ, mX μ + 1, mS μ + n, mT μ)
/-- a new array of kind k with n places -/
def nA (k n : Nat) (μ : Mem) : Mem := (mI μ, mL μ, mP μ, fun g b i => if b = mX μ then 0 else aI μ g b i, fun g b i => if b = mX μ then 0 else aL μ g b i, fun g b i => if b = mX μ then none else aP μ g b i, fun b => if b = mX μ then k else mK μ b, fun b => if b = mX μ then n else mN μ b, mX μ + 1, mS μ + n, mT μ)
abbrev M (α : Type) : Type := Mem → Option (α × Mem)
def rt {α : Type} (x : α) : M α := fun μ => some (x, μ)
def fl {α : Type} : M α := fun _ => none
def bn {α β : Type} (x : M α) (f : α → M β) : M β := fun μ => match x μ with
  | none => none
  | some q => f q.1 q.2
/-- what must hold -/
def ck (b : Bool) : M Unit := fun μ => if b = true then some ((), μ) else none
def pRc (c : Nat) (r : Option Nat) : M Nat := fun μ => match r with
  | none => none
  | some a => if mK μ a = c + 1 then some (a, μ) else none
def pArr (k : Nat) (r : Option Nat) : M Nat := fun μ => match r with
  | none => none
  | some a => if mK μ a = k then some (a, μ) else none
def gI (c k : Nat) (r : Option Nat) : M Int32 := bn (pRc c r) fun a μ => some (mI μ (64 * c + k) a, μ)
def gLg (c k : Nat) (r : Option Nat) : M Int64 := bn (pRc c r) fun a μ => some (mL μ (64 * c + k) a, μ)
def gP (c k : Nat) (r : Option Nat) : M (Option Nat) := bn (pRc c r) fun a μ => some (mP μ (64 * c + k) a, μ)
def wI (c k : Nat) (r : Option Nat) (v : Int32) : M Unit := bn (pRc c r) fun a μ => some ((), sI μ (64 * c + k) a v)
def wZ (c k : Nat) (r : Option Nat) (v : Int32) : M Unit := bn (pRc c r) fun a μ => if v = 0 ∨ v = 1 then some ((), sI μ (64 * c + k) a v) else none
def wL (c k : Nat) (r : Option Nat) (v : Int64) : M Unit := bn (pRc c r) fun a μ => some ((), sL μ (64 * c + k) a v)
def wP (c k : Nat) (r : Option Nat) (v : Option Nat) : M Unit := bn (pRc c r) fun a μ => some ((), sP μ (64 * c + k) a v)
def newO (c n : Nat) : M (Option Nat) := fun μ => some (some (mX μ), nO c n μ)
def newA (k : Nat) (n : Int32) : M (Option Nat) := fun μ => if ¬ n < 0 ∧ n.toNatClampNeg ≤ 1000000 then some (some (mX μ), nA k n.toNatClampNeg μ) else none
def inA (i : Int32) (n : Nat) : Prop := ¬ (i < 0 ∨ n ≤ i.toNatClampNeg)
def lI (k : Nat) (r : Option Nat) (i : Int32) : M Int32 := bn (pArr k r) fun a μ => if ¬ (i < 0 ∨ mN μ a ≤ i.toNatClampNeg) then some (aI μ k a i.toNatClampNeg, μ) else none
def lL (k : Nat) (r : Option Nat) (i : Int32) : M Int64 := bn (pArr k r) fun a μ => if ¬ (i < 0 ∨ mN μ a ≤ i.toNatClampNeg) then some (aL μ k a i.toNatClampNeg, μ) else none
def lP (k : Nat) (r : Option Nat) (i : Int32) : M (Option Nat) := bn (pArr k r) fun a μ => if ¬ (i < 0 ∨ mN μ a ≤ i.toNatClampNeg) then some (aP μ k a i.toNatClampNeg, μ) else none
def stI (k : Nat) (r : Option Nat) (i v : Int32) : M Unit := bn (pArr k r) fun a μ => if ¬ (i < 0 ∨ mN μ a ≤ i.toNatClampNeg) then some ((), tI μ k a i.toNatClampNeg v) else none
def stZ (k : Nat) (r : Option Nat) (i v : Int32) : M Unit := bn (pArr k r) fun a μ => if ¬ (i < 0 ∨ mN μ a ≤ i.toNatClampNeg) ∧ vp_nar .boolean v = v then some ((), tI μ k a i.toNatClampNeg v) else none
def stC (k : Nat) (r : Option Nat) (i v : Int32) : M Unit := bn (pArr k r) fun a μ => if ¬ (i < 0 ∨ mN μ a ≤ i.toNatClampNeg) ∧ vp_nar .char v = v then some ((), tI μ k a i.toNatClampNeg v) else none
def stL (k : Nat) (r : Option Nat) (i : Int32) (v : Int64) : M Unit := bn (pArr k r) fun a μ => if ¬ (i < 0 ∨ mN μ a ≤ i.toNatClampNeg) then some ((), tL μ k a i.toNatClampNeg v) else none
/-- a reference into an array of references: the value is null, or an object of class c -/
def stP (k c : Nat) (r : Option Nat) (i : Int32) (v : Option Nat) : M Unit := bn (pArr k r) fun a μ => if ¬ (i < 0 ∨ mN μ a ≤ i.toNatClampNeg) ∧ (v = none ∨ mK μ (v.getD 0) = c + 1) then some ((), tP μ k a i.toNatClampNeg v) else none
/-- the length of any array -/
def len (r : Option Nat) : M Int32 := fun μ => match r with
  | none => none
  | some a => if 64 ≤ mK μ a then some (Int32.ofNat (mN μ a), μ) else none
def cst (c : Nat) (r : Option Nat) : M Unit := fun μ => match r with
  | none => some ((), μ)
  | some a => if mK μ a = c + 1 then some ((), μ) else none
def dvI (x y : Int32) : M Int32 := fun μ => if y = 0 then none else some (x / y, μ)
def rmI (x y : Int32) : M Int32 := fun μ => if y = 0 then none else some (x - x / y * y, μ)
def rz (v : Int32) : M Int32 := fun μ => if v = 0 ∨ v = 1 then some (v, μ) else none
/-- what the cells hold -/
def fv (μ : Mem) (c a k : Nat) : Value := if fty c k = 1 then .long (mL μ (64 * c + k) a) else if fty c k = 2 then va_rf (mP μ (64 * c + k) a) else .int (mI μ (64 * c + k) a)
def ev (μ : Mem) (a j : Nat) : Value := if mK μ a % 8 = 1 then .long (aL μ (mK μ a) a j) else if 4 ≤ mK μ a % 8 then va_rf (aP μ (mK μ a) a j) else .int (aI μ (mK μ a) a j)
def atC (Γ : Gam) (μ : Mem) (a : Nat) (H : Heap) : Prop :=
  (∀ (c : Nat) (q : vw_C), mK μ a = c + 1 → vcl[c]? = some q → t_OB a ((gD Γ).1 c) q.2.2 ((gD Γ).2 c) H (fv μ c a)) ∧ (64 ≤ mK μ a → H[a]? = some (arrV (gA Γ (mK μ a % 8)) (mN μ a) (ev μ a)))
/-- the heap is what the memory says; kind 76: arrays that are no cells of ours and have no places -/
def Wd (Γ : Gam) (μ : Mem) (H : Heap) : Prop := H.size = mX μ ∧ mT μ = gT Γ ∧ ∀ a, mK μ a ≠ 0 → (a < H.size ∧ atC Γ μ a H) ∧ (mK μ a ≠ 76 → gB Γ ≤ a)
def tysA (f : Nat → ClassId) : List (ClassId × FieldType) := [(f 0, .int), (f 1, .long), (f 2, .boolean), (f 3, .char), (f 4, .object "java/lang/Object"), (f 5, .object "GrainPit$Month"), (f 6, .object "GrainPit$Settle"), (f 7, .byte)]
def nnw : Cond → Bool
  | .methodLinkNest .. => true
  | .castable .. => true
  | .declares .. => true
  | .arrayOver (.object _) => true
  | _ => false
def lw_nn : List Cond := lw_tbl.filter nnw
def kLn : List Nat := [79, 13, 79]
def kBy : List (List Int32) := [[108, 105, 109, 105, 116, 32, 102, 105, 114, 115, 116, 32, 107, 101, 101, 112, 32, 99, 97, 112, 32, 100, 105, 102, 102, 32, 102, 101, 101, 32, 100, 97, 121, 32, 109, 111, 110, 116, 104, 32, 112, 114, 105, 99, 101, 32, 108, 111, 116, 115, 32, 103, 114, 97, 100, 101, 32, 112, 108, 97, 99, 101, 32, 102, 114, 111, 109, 32, 105, 115, 32, 109, 105, 110, 32, 109, 97, 120, 32], [59, 63, 58, 60, 62, 61, 43, 45, 42, 47, 40, 41, 44], [108, 105, 109, 105, 116, 32, 102, 105, 114, 115, 116, 32, 107, 101, 101, 112, 32, 99, 97, 112, 32, 100, 105, 102, 102, 32, 102, 101, 101, 32, 102, 114, 111, 109, 32, 105, 115, 32, 109, 105, 110, 32, 109, 97, 120, 32, 100, 97, 121, 32, 109, 111, 110, 116, 104, 32, 112, 114, 105, 99, 101, 32, 108, 111, 116, 115, 32, 103, 114, 97, 100, 101, 32, 112, 108, 97, 99, 101, 32]]
/-- what is known of the outside: ArrayList's empty array, the class of Object[], two statics, the texts -/
def EX (Γ : Gam) (U : State) : Prop :=
  va_Z "java/util/ArrayList" "DEFAULTCAPACITY_EMPTY_ELEMENTDATA" "[Ljava/lang/Object;" (va_rf (gT Γ 0)) (fun q => gB Γ ≤ q) U U.heap ∧ (∃ mi, gT Γ 40 = some mi ∧ va_Mi "[Ljava/lang/Object;" mi U) ∧
  va_Z "java/lang/String" "COMPACT_STRINGS" "Z" (.int 1) (fun q => gB Γ ≤ q) U U.heap ∧ va_Z "jdk/internal/util/Preconditions" "SIOOBE_FORMATTER" "Ljava/util/function/BiFunction;" (va_rf (gT Γ 41)) (fun q => gB Γ ≤ q) U U.heap ∧
  (∃ aK aV : Nat → Nat, (∀ i, i < 3 → gT Γ (1 + i) = some (aK i) ∧ gT Γ (11 + i) = some (aV i)) ∧ vk_S 3 kLn kBy aK aV (fun q => gB Γ ≤ q) U U.heap ∧
    vk_R "GrainPit$Reader" 143 "limit first keep cap diff fee day month price lots grade place from is min max " (aK 0) U ∧ vk_R "GrainPit$Reader" 128 ";?:<>=+-*/()," (aK 1) U ∧ vk_R "GrainPitModel" 110 "limit first keep cap diff fee from is min max day month price lots grade place " (aK 2) U ∧ vk_R "GrainPitModel" 151 ";?:<>=+-*/()," (aK 1) U) ∧ gE Γ U
def KK (Γ : Gam) (U : State) : Prop := va_K (gD Γ) vcl (tysA (gA Γ)) U ∧ (∀ w ∈ lw_nn, va_Nw w U) ∧ EX Γ U
/-- what is known of the outside stays so -/
def Stab (Γ : Gam) : Prop := ∀ s U : State, gE Γ s → s.WarmedH U.vm → s.heap.size ≤ U.heap.size → (∀ q, q < s.heap.size → ¬ gB Γ ≤ q → U.heap[q]? = s.heap[q]?) → gE Γ U
def Ctx (Γ : Gam) (y : Mth) (p : Program) (s : State) (m : MethodId) (args : Array Value) (meth : Method) (c : Code) : Prop :=
  p.tables.exec = Jvm.exec ∧ c.code = y.2.1 ∧ meth.sig.returnType = y.2.2.2 ∧ c.maxLocals = y.2.2.1 ∧ s.vm.findClass y.1.cls = some m.cls ∧ (∀ w ∈ lw_g, w.before args s = true) ∧ meth.locks = false ∧ meth.name = y.1.name ∧ KK Γ s ∧ Stab Γ ∧ gB Γ ≤ s.heap.size
def rmo (d c s : Nat) : Room := { frames := d, cells := c, slots := s, locals := 64 * d }
def wsy (y : Mth) : List Cond := Cond.code y.1 y.2.1 y.2.2.1 y.2.2.2 :: lw_g
def Qo (Γ : Gam) (v : Option Value) (μ' : Mem) : Array Value → State → Outcome → State → Prop := fun _ st o t => o = .returned v ∧ Wd Γ μ' t.heap ∧ va_F (fun q => gB Γ ≤ q) st t
def Ok {α : Type} (Γ : Gam) (y : Mth) (d : Nat) (rv : α → Option Value) (pc : Nat) (lv : List (Nat × Value)) (st : List Value) (F : M α) : Prop :=
  ∀ (μ : Mem) (x : α) (μ' : Mem), F μ = some (x, μ') → (mX μ ≤ mX μ' ∧ mS μ ≤ mS μ') ∧
    ∀ (p : Program) (e : Env) (s : State) (m : MethodId) (args : Array Value) (below : List Frame) (meth : Method) (c : Code) (x0 s0 : Nat) (H : Heap) (locs : List Loc) (ls : Array Slot),
      Ctx Γ y p s m args meth c → x0 ≤ mX μ → s0 ≤ mS μ → va_S (fun q => gB Γ ≤ q) s.heap H locs → Wd Γ μ H → lv_has ls y.2.2.1 lv →
      W p (gL Γ) e (rmo d (mX μ' - x0) (mS μ' - s0)) s m args below meth c H locs (mX μ - x0) (mS μ - s0) (MQ below (Qo Γ (rv x) μ') args s (mX μ' - x0) (mS μ' - s0) (fun q => gB Γ ≤ q)) (F0 m pc ls st)
def Ct {α : Type} (Γ : Gam) (y : Mth) (d : Nat) (rv : α → Option Value) (av : List Value) (G : M α) : Prop :=
  ∀ (μ : Mem) (x : α) (μ' : Mem), G μ = some (x, μ') → (mX μ ≤ mX μ' ∧ mS μ ≤ mS μ') ∧
    (Stab Γ → Met (gL Γ) y.1 (wsy y) (rmo d (mX μ' - mX μ) (mS μ' - mS μ)) (va_Pc av (fun U => Wd Γ μ U.heap ∧ KK Γ U ∧ gB Γ ≤ U.heap.size)) (Qo Γ (rv x) μ') (mX μ' - mX μ) (mS μ' - mS μ) (fun q => gB Γ ≤ q))
def vI (x : Int32) : Option Value := some (.int x)
def vL (x : Int64) : Option Value := some (.long x)
def vP (x : Option Nat) : Option Value := some (va_rf x)
def vV (_ : Unit) : Option Value := none
theorem lw_g_sub : ∀ w ∈ lw_g, w ∈ lw_tbl := fun w h => (List.mem_filter.mp h).1
theorem lw_g_good : ∀ w ∈ lw_g, goodWord w = true := fun w h => (List.mem_filter.mp h).2
theorem gin {w : Cond} (i : Nat) (h : lw_tbl[i]? = some w) (hg : goodWord w = true) : w ∈ lw_g := List.mem_filter.mpr ⟨List.mem_of_getElem? h, hg⟩
theorem nin {w : Cond} (i : Nat) (h : lw_tbl[i]? = some w) (hg : nnw w = true) : w ∈ lw_nn := List.mem_filter.mpr ⟨List.mem_of_getElem? h, hg⟩
theorem bn_some {α β : Type} {x : M α} {f : α → M β} {μ : Mem} {q : β × Mem} (h : bn x f μ = some q) : ∃ a μ1, x μ = some (a, μ1) ∧ f a μ1 = some q := by
  unfold bn at h
  cases hx : x μ with
  | none => rw [hx] at h; cases h
  | some w => rw [hx] at h; exact ⟨w.1, w.2, rfl, h⟩
/-- the general step: an instruction that leaves the heap alone -/
theorem ok_of {α : Type} {Γ : Gam} {y : Mth} {d : Nat} {rv : α → Option Value} {pc pc' : Nat} {lv lv' : List (Nat × Value)} {st st' : List Value} {F : M α}
    (hW : ∀ {p : Program} {l : Launch} {e : Env} {R : Room} {s : State} {m : MethodId} {args : Array Value} {below : List Frame} {meth : Method} {c : Code} {H : Heap} {locs : List Loc} {cells slots : Nat} {Q : State → Prop} {ls : Array Slot},
      Ctx Γ y p s m args meth c → lv_has ls y.2.2.1 lv → (∀ ls', lv_has ls' y.2.2.1 lv' → W p l e R s m args below meth c H locs cells slots Q (F0 m pc' ls' st')) → W p l e R s m args below meth c H locs cells slots Q (F0 m pc ls st))
    (k : Ok Γ y d rv pc' lv' st' F) : Ok Γ y d rv pc lv st F := by
  intro μ x μ' h
  refine ⟨(k μ x μ' h).1, ?_⟩
  intro p e s m args below meth c x0 s0 H locs ls hc h1 h2 hS hD hl
  exact hW hc hl fun ls' hl' => (k μ x μ' h).2 p e s m args below meth c x0 s0 H locs ls' hc h1 h2 hS hD hl'
theorem mI_sI (μ : Mem) (f a : Nat) (v : Int32) : mI (sI μ f a v) = up2 (mI μ) f a v := rfl
theorem mL_sI (μ : Mem) (f a : Nat) (v : Int32) : mL (sI μ f a v) = mL μ := rfl
theorem mP_sI (μ : Mem) (f a : Nat) (v : Int32) : mP (sI μ f a v) = mP μ := rfl
theorem aI_sI (μ : Mem) (f a : Nat) (v : Int32) : aI (sI μ f a v) = aI μ := rfl
theorem aL_sI (μ : Mem) (f a : Nat) (v : Int32) : aL (sI μ f a v) = aL μ := rfl
theorem aP_sI (μ : Mem) (f a : Nat) (v : Int32) : aP (sI μ f a v) = aP μ := rfl
theorem mK_sI (μ : Mem) (f a : Nat) (v : Int32) : mK (sI μ f a v) = mK μ := rfl
theorem mN_sI (μ : Mem) (f a : Nat) (v : Int32) : mN (sI μ f a v) = mN μ := rfl
theorem mX_sI (μ : Mem) (f a : Nat) (v : Int32) : mX (sI μ f a v) = mX μ := rfl
theorem mS_sI (μ : Mem) (f a : Nat) (v : Int32) : mS (sI μ f a v) = mS μ := rfl
theorem mI_sL (μ : Mem) (f a : Nat) (v : Int64) : mI (sL μ f a v) = mI μ := rfl
theorem mL_sL (μ : Mem) (f a : Nat) (v : Int64) : mL (sL μ f a v) = up2 (mL μ) f a v := rfl
theorem mP_sL (μ : Mem) (f a : Nat) (v : Int64) : mP (sL μ f a v) = mP μ := rfl
theorem aI_sL (μ : Mem) (f a : Nat) (v : Int64) : aI (sL μ f a v) = aI μ := rfl
theorem aL_sL (μ : Mem) (f a : Nat) (v : Int64) : aL (sL μ f a v) = aL μ := rfl
theorem aP_sL (μ : Mem) (f a : Nat) (v : Int64) : aP (sL μ f a v) = aP μ := rfl
theorem mK_sL (μ : Mem) (f a : Nat) (v : Int64) : mK (sL μ f a v) = mK μ := rfl
theorem mN_sL (μ : Mem) (f a : Nat) (v : Int64) : mN (sL μ f a v) = mN μ := rfl
theorem mX_sL (μ : Mem) (f a : Nat) (v : Int64) : mX (sL μ f a v) = mX μ := rfl
theorem mS_sL (μ : Mem) (f a : Nat) (v : Int64) : mS (sL μ f a v) = mS μ := rfl
theorem mI_sP (μ : Mem) (f a : Nat) (v : Option Nat) : mI (sP μ f a v) = mI μ := rfl
theorem mL_sP (μ : Mem) (f a : Nat) (v : Option Nat) : mL (sP μ f a v) = mL μ := rfl
theorem mP_sP (μ : Mem) (f a : Nat) (v : Option Nat) : mP (sP μ f a v) = up2 (mP μ) f a v := rfl
theorem aI_sP (μ : Mem) (f a : Nat) (v : Option Nat) : aI (sP μ f a v) = aI μ := rfl
theorem aL_sP (μ : Mem) (f a : Nat) (v : Option Nat) : aL (sP μ f a v) = aL μ := rfl
theorem aP_sP (μ : Mem) (f a : Nat) (v : Option Nat) : aP (sP μ f a v) = aP μ := rfl
theorem mK_sP (μ : Mem) (f a : Nat) (v : Option Nat) : mK (sP μ f a v) = mK μ := rfl
theorem mN_sP (μ : Mem) (f a : Nat) (v : Option Nat) : mN (sP μ f a v) = mN μ := rfl
theorem mX_sP (μ : Mem) (f a : Nat) (v : Option Nat) : mX (sP μ f a v) = mX μ := rfl
theorem mS_sP (μ : Mem) (f a : Nat) (v : Option Nat) : mS (sP μ f a v) = mS μ := rfl
theorem mI_tI (μ : Mem) (k a i : Nat) (v : Int32) : mI (tI μ k a i v) = mI μ := rfl
theorem mL_tI (μ : Mem) (k a i : Nat) (v : Int32) : mL (tI μ k a i v) = mL μ := rfl
theorem mP_tI (μ : Mem) (k a i : Nat) (v : Int32) : mP (tI μ k a i v) = mP μ := rfl
theorem aI_tI (μ : Mem) (k a i : Nat) (v : Int32) : aI (tI μ k a i v) = up3 (aI μ) k a i v := rfl
theorem aL_tI (μ : Mem) (k a i : Nat) (v : Int32) : aL (tI μ k a i v) = aL μ := rfl
theorem aP_tI (μ : Mem) (k a i : Nat) (v : Int32) : aP (tI μ k a i v) = aP μ := rfl
theorem mK_tI (μ : Mem) (k a i : Nat) (v : Int32) : mK (tI μ k a i v) = mK μ := rfl
theorem mN_tI (μ : Mem) (k a i : Nat) (v : Int32) : mN (tI μ k a i v) = mN μ := rfl
theorem mX_tI (μ : Mem) (k a i : Nat) (v : Int32) : mX (tI μ k a i v) = mX μ := rfl
theorem mS_tI (μ : Mem) (k a i : Nat) (v : Int32) : mS (tI μ k a i v) = mS μ := rfl
theorem mI_tL (μ : Mem) (k a i : Nat) (v : Int64) : mI (tL μ k a i v) = mI μ := rfl
theorem mL_tL (μ : Mem) (k a i : Nat) (v : Int64) : mL (tL μ k a i v) = mL μ := rfl
theorem mP_tL (μ : Mem) (k a i : Nat) (v : Int64) : mP (tL μ k a i v) = mP μ := rfl
theorem aI_tL (μ : Mem) (k a i : Nat) (v : Int64) : aI (tL μ k a i v) = aI μ := rfl
theorem aL_tL (μ : Mem) (k a i : Nat) (v : Int64) : aL (tL μ k a i v) = up3 (aL μ) k a i v := rfl
theorem aP_tL (μ : Mem) (k a i : Nat) (v : Int64) : aP (tL μ k a i v) = aP μ := rfl
theorem mK_tL (μ : Mem) (k a i : Nat) (v : Int64) : mK (tL μ k a i v) = mK μ := rfl
theorem mN_tL (μ : Mem) (k a i : Nat) (v : Int64) : mN (tL μ k a i v) = mN μ := rfl
theorem mX_tL (μ : Mem) (k a i : Nat) (v : Int64) : mX (tL μ k a i v) = mX μ := rfl
theorem mS_tL (μ : Mem) (k a i : Nat) (v : Int64) : mS (tL μ k a i v) = mS μ := rfl
theorem mI_tP (μ : Mem) (k a i : Nat) (v : Option Nat) : mI (tP μ k a i v) = mI μ := rfl
theorem mL_tP (μ : Mem) (k a i : Nat) (v : Option Nat) : mL (tP μ k a i v) = mL μ := rfl
theorem mP_tP (μ : Mem) (k a i : Nat) (v : Option Nat) : mP (tP μ k a i v) = mP μ := rfl
theorem aI_tP (μ : Mem) (k a i : Nat) (v : Option Nat) : aI (tP μ k a i v) = aI μ := rfl
theorem aL_tP (μ : Mem) (k a i : Nat) (v : Option Nat) : aL (tP μ k a i v) = aL μ := rfl
theorem aP_tP (μ : Mem) (k a i : Nat) (v : Option Nat) : aP (tP μ k a i v) = up3 (aP μ) k a i v := rfl
theorem mK_tP (μ : Mem) (k a i : Nat) (v : Option Nat) : mK (tP μ k a i v) = mK μ := rfl
theorem mN_tP (μ : Mem) (k a i : Nat) (v : Option Nat) : mN (tP μ k a i v) = mN μ := rfl
theorem mX_tP (μ : Mem) (k a i : Nat) (v : Option Nat) : mX (tP μ k a i v) = mX μ := rfl
theorem mS_tP (μ : Mem) (k a i : Nat) (v : Option Nat) : mS (tP μ k a i v) = mS μ := rfl
theorem mI_nO (μ : Mem) (c n : Nat) : mI (nO c n μ) = (fun f b => if b = mX μ then 0 else mI μ f b) := rfl
theorem mL_nO (μ : Mem) (c n : Nat) : mL (nO c n μ) = (fun f b => if b = mX μ then 0 else mL μ f b) := rfl
theorem mP_nO (μ : Mem) (c n : Nat) : mP (nO c n μ) = (fun f b => if b = mX μ then none else mP μ f b) := rfl
theorem aI_nO (μ : Mem) (c n : Nat) : aI (nO c n μ) = (aI μ) := rfl
theorem aL_nO (μ : Mem) (c n : Nat) : aL (nO c n μ) = (aL μ) := rfl
theorem aP_nO (μ : Mem) (c n : Nat) : aP (nO c n μ) = (aP μ) := rfl
theorem mK_nO (μ : Mem) (c n : Nat) : mK (nO c n μ) = (fun b => if b = mX μ then c + 1 else mK μ b) := rfl
theorem mN_nO (μ : Mem) (c n : Nat) : mN (nO c n μ) = (mN μ) := rfl
theorem mX_nO (μ : Mem) (c n : Nat) : mX (nO c n μ) = (mX μ + 1) := rfl
theorem mS_nO (μ : Mem) (c n : Nat) : mS (nO c n μ) = (mS μ + n) := rfl
theorem mI_nA (μ : Mem) (c n : Nat) : mI (nA c n μ) = (mI μ) := rfl
theorem mL_nA (μ : Mem) (c n : Nat) : mL (nA c n μ) = (mL μ) := rfl
theorem mP_nA (μ : Mem) (c n : Nat) : mP (nA c n μ) = (mP μ) := rfl
theorem aI_nA (μ : Mem) (c n : Nat) : aI (nA c n μ) = (fun g b i => if b = mX μ then 0 else aI μ g b i) := rfl
theorem aL_nA (μ : Mem) (c n : Nat) : aL (nA c n μ) = (fun g b i => if b = mX μ then 0 else aL μ g b i) := rfl
theorem aP_nA (μ : Mem) (c n : Nat) : aP (nA c n μ) = (fun g b i => if b = mX μ then none else aP μ g b i) := rfl
theorem mK_nA (μ : Mem) (c n : Nat) : mK (nA c n μ) = (fun b => if b = mX μ then c else mK μ b) := rfl
theorem mN_nA (μ : Mem) (c n : Nat) : mN (nA c n μ) = (fun b => if b = mX μ then n else mN μ b) := rfl
theorem mX_nA (μ : Mem) (c n : Nat) : mX (nA c n μ) = (mX μ + 1) := rfl
theorem mS_nA (μ : Mem) (c n : Nat) : mS (nA c n μ) = (mS μ + n) := rfl
theorem mT_sI (μ : Mem) (f a : Nat) (v : Int32) : mT (sI μ f a v) = mT μ := rfl
theorem mT_sL (μ : Mem) (f a : Nat) (v : Int64) : mT (sL μ f a v) = mT μ := rfl
theorem mT_sP (μ : Mem) (f a : Nat) (v : Option Nat) : mT (sP μ f a v) = mT μ := rfl
theorem mT_tI (μ : Mem) (k a i : Nat) (v : Int32) : mT (tI μ k a i v) = mT μ := rfl
theorem mT_tL (μ : Mem) (k a i : Nat) (v : Int64) : mT (tL μ k a i v) = mT μ := rfl
theorem mT_tP (μ : Mem) (k a i : Nat) (v : Option Nat) : mT (tP μ k a i v) = mT μ := rfl
theorem mT_nO (μ : Mem) (c n : Nat) : mT (nO c n μ) = mT μ := rfl
theorem mT_nA (μ : Mem) (c n : Nat) : mT (nA c n μ) = mT μ := rfl
end
section
theorem ok_iconst {α : Type} {Γ : Gam} {y : Mth} {d : Nat} {rv : α → Option Value} {pc : Nat} {lv : List (Nat × Value)} {st : List Value} {F : M α} {n : Int} {v : Int32} (hd : decode y.2.1 pc = .ok (.iconst n, 1)) (hv : Int32.ofInt n = v) (k : Ok Γ y d rv (pc + 1) lv (.int v :: st) F) : Ok Γ y d rv pc lv st F :=
  ok_of (fun hc hl kk => lv_iconst hc.1 hc.2.1 hd hv (kk _ hl)) k
theorem ok_bipush {α : Type} {Γ : Gam} {y : Mth} {d : Nat} {rv : α → Option Value} {pc : Nat} {lv : List (Nat × Value)} {st : List Value} {F : M α} {n : Int} {v : Int32} (hd : decode y.2.1 pc = .ok (.bipush n, 2)) (hv : (Int8.ofInt n).toInt32 = v) (k : Ok Γ y d rv (pc + 2) lv (.int v :: st) F) : Ok Γ y d rv pc lv st F :=
  ok_of (fun hc hl kk => lv_bipush hc.1 hc.2.1 hd hv (kk _ hl)) k
theorem ok_sipush {α : Type} {Γ : Gam} {y : Mth} {d : Nat} {rv : α → Option Value} {pc : Nat} {lv : List (Nat × Value)} {st : List Value} {F : M α} {n : Int} {v : Int32} (hd : decode y.2.1 pc = .ok (.sipush n, 3)) (hv : (Int16.ofInt n).toInt32 = v) (k : Ok Γ y d rv (pc + 3) lv (.int v :: st) F) : Ok Γ y d rv pc lv st F :=
  ok_of (fun hc hl kk => lv_sipush hc.1 hc.2.1 hd hv (kk _ hl)) k
theorem ok_lconst {α : Type} {Γ : Gam} {y : Mth} {d : Nat} {rv : α → Option Value} {pc : Nat} {lv : List (Nat × Value)} {st : List Value} {F : M α} {n : Fin 2} {v : Int64} (hd : decode y.2.1 pc = .ok (.lconst n, 1)) (hv : Int64.ofNat (n : Nat) = v) (k : Ok Γ y d rv (pc + 1) lv (.long v :: st) F) : Ok Γ y d rv pc lv st F :=
  ok_of (fun hc hl kk => lv_lconst hc.1 hc.2.1 hd hv (kk _ hl)) k
theorem ok_null {α : Type} {Γ : Gam} {y : Mth} {d : Nat} {rv : α → Option Value} {pc : Nat} {lv : List (Nat × Value)} {st : List Value} {F : M α}  (hd : decode y.2.1 pc = .ok (.aconst_null, 1)) (k : Ok Γ y d rv (pc + 1) lv (va_rf none :: st) F) : Ok Γ y d rv pc lv st F :=
  ok_of (fun hc hl kk => lv_null hc.1 hc.2.1 hd (kk _ hl)) k
theorem ok_iload_n {α : Type} {Γ : Gam} {y : Mth} {d : Nat} {rv : α → Option Value} {pc : Nat} {lv : List (Nat × Value)} {st : List Value} {F : M α} {k4 : Fin 4} {x : Int32} (hd : decode y.2.1 pc = .ok (.iload_n k4, 1)) (i : Nat) (hk : lv[i]? = some ((k4 : Nat), .int x)) (k : Ok Γ y d rv (pc + 1) lv (.int x :: st) F) : Ok Γ y d rv pc lv st F :=
  ok_of (fun hc hl kk => lv_iload_n hc.1 hc.2.1 hd rfl (lv_at hl i hk) (kk _ hl)) k
theorem ok_iload {α : Type} {Γ : Gam} {y : Mth} {d : Nat} {rv : α → Option Value} {pc : Nat} {lv : List (Nat × Value)} {st : List Value} {F : M α} {n : Nat} {x : Int32} (hd : decode y.2.1 pc = .ok (.iload n, 2)) (i : Nat) (hk : lv[i]? = some (n, .int x)) (k : Ok Γ y d rv (pc + 2) lv (.int x :: st) F) : Ok Γ y d rv pc lv st F :=
  ok_of (fun hc hl kk => lv_iload hc.1 hc.2.1 hd (lv_at hl i hk) (kk _ hl)) k
theorem ok_lload_n {α : Type} {Γ : Gam} {y : Mth} {d : Nat} {rv : α → Option Value} {pc : Nat} {lv : List (Nat × Value)} {st : List Value} {F : M α} {k4 : Fin 4} {x : Int64} (hd : decode y.2.1 pc = .ok (.lload_n k4, 1)) (i : Nat) (hk : lv[i]? = some ((k4 : Nat), .long x)) (k : Ok Γ y d rv (pc + 1) lv (.long x :: st) F) : Ok Γ y d rv pc lv st F :=
  ok_of (fun hc hl kk => lv_lload_n hc.1 hc.2.1 hd rfl (lv_at hl i hk) (kk _ hl)) k
theorem ok_lload {α : Type} {Γ : Gam} {y : Mth} {d : Nat} {rv : α → Option Value} {pc : Nat} {lv : List (Nat × Value)} {st : List Value} {F : M α} {n : Nat} {x : Int64} (hd : decode y.2.1 pc = .ok (.lload n, 2)) (i : Nat) (hk : lv[i]? = some (n, .long x)) (k : Ok Γ y d rv (pc + 2) lv (.long x :: st) F) : Ok Γ y d rv pc lv st F :=
  ok_of (fun hc hl kk => lv_lload hc.1 hc.2.1 hd (lv_at hl i hk) (kk _ hl)) k
theorem ok_aload_n {α : Type} {Γ : Gam} {y : Mth} {d : Nat} {rv : α → Option Value} {pc : Nat} {lv : List (Nat × Value)} {st : List Value} {F : M α} {k4 : Fin 4} {r : Option Nat} (hd : decode y.2.1 pc = .ok (.aload_n k4, 1)) (i : Nat) (hk : lv[i]? = some ((k4 : Nat), va_rf r)) (k : Ok Γ y d rv (pc + 1) lv (va_rf r :: st) F) : Ok Γ y d rv pc lv st F := by
  refine ok_of (fun hc hl kk => ?_) k
  cases r with
  | none => exact lv_aload_nN hc.1 hc.2.1 hd rfl (lv_at hl i hk) (kk _ hl)
  | some a => exact lv_aload_n hc.1 hc.2.1 hd rfl (lv_at hl i hk) (kk _ hl)
theorem ok_aload {α : Type} {Γ : Gam} {y : Mth} {d : Nat} {rv : α → Option Value} {pc : Nat} {lv : List (Nat × Value)} {st : List Value} {F : M α} {n : Nat} {r : Option Nat} (hd : decode y.2.1 pc = .ok (.aload n, 2)) (i : Nat) (hk : lv[i]? = some (n, va_rf r)) (k : Ok Γ y d rv (pc + 2) lv (va_rf r :: st) F) : Ok Γ y d rv pc lv st F := by
  refine ok_of (fun hc hl kk => ?_) k
  cases r with
  | none => exact lv_aloadN hc.1 hc.2.1 hd (lv_at hl i hk) (kk _ hl)
  | some a => exact lv_aload hc.1 hc.2.1 hd (lv_at hl i hk) (kk _ hl)
theorem ok_istore_n {α : Type} {Γ : Gam} {y : Mth} {d : Nat} {rv : α → Option Value} {pc : Nat} {lv : List (Nat × Value)} {st : List Value} {F : M α} {k4 : Fin 4} {x : Int32} {lv' : List (Nat × Value)} (hd : decode y.2.1 pc = .ok (.istore_n k4, 1)) (hn : (k4 : Nat) < y.2.2.1) (hl' : ((k4 : Nat), Value.int x) :: lv.filter (fun q => !(q.1 == (k4 : Nat)) && !(q.1 + 1 == (k4 : Nat) && q.2.category == 2)) = lv') (k : Ok Γ y d rv (pc + 1) lv' st F) : Ok Γ y d rv pc lv (.int x :: st) F :=
  ok_of (fun hc hl kk => lv_istore_n hc.1 hc.2.1 hd rfl hl hn hl' kk) k
theorem ok_istore {α : Type} {Γ : Gam} {y : Mth} {d : Nat} {rv : α → Option Value} {pc : Nat} {lv : List (Nat × Value)} {st : List Value} {F : M α} {n : Nat} {x : Int32} {lv' : List (Nat × Value)} (hd : decode y.2.1 pc = .ok (.istore n, 2)) (hn : n < y.2.2.1) (hl' : (n, Value.int x) :: lv.filter (fun q => !(q.1 == n) && !(q.1 + 1 == n && q.2.category == 2)) = lv') (k : Ok Γ y d rv (pc + 2) lv' st F) : Ok Γ y d rv pc lv (.int x :: st) F :=
  ok_of (fun hc hl kk => lv_istore hc.1 hc.2.1 hd hl hn hl' kk) k
theorem ok_lstore_n {α : Type} {Γ : Gam} {y : Mth} {d : Nat} {rv : α → Option Value} {pc : Nat} {lv : List (Nat × Value)} {st : List Value} {F : M α} {k4 : Fin 4} {x : Int64} {lv' : List (Nat × Value)} (hd : decode y.2.1 pc = .ok (.lstore_n k4, 1)) (hn : (k4 : Nat) + 1 < y.2.2.1) (hl' : ((k4 : Nat), Value.long x) :: lv.filter (fun q => !(q.1 == (k4 : Nat)) && (!(q.1 == (k4 : Nat) + 1) && !(q.1 + 1 == (k4 : Nat) && q.2.category == 2))) = lv') (k : Ok Γ y d rv (pc + 1) lv' st F) : Ok Γ y d rv pc lv (.long x :: st) F :=
  ok_of (fun hc hl kk => lv_lstore_n hc.1 hc.2.1 hd rfl hl hn hl' kk) k
theorem ok_lstore {α : Type} {Γ : Gam} {y : Mth} {d : Nat} {rv : α → Option Value} {pc : Nat} {lv : List (Nat × Value)} {st : List Value} {F : M α} {n : Nat} {x : Int64} {lv' : List (Nat × Value)} (hd : decode y.2.1 pc = .ok (.lstore n, 2)) (hn : n + 1 < y.2.2.1) (hl' : (n, Value.long x) :: lv.filter (fun q => !(q.1 == n) && (!(q.1 == n + 1) && !(q.1 + 1 == n && q.2.category == 2))) = lv') (k : Ok Γ y d rv (pc + 2) lv' st F) : Ok Γ y d rv pc lv (.long x :: st) F :=
  ok_of (fun hc hl kk => lv_lstore hc.1 hc.2.1 hd hl hn hl' kk) k
theorem ok_astore_n {α : Type} {Γ : Gam} {y : Mth} {d : Nat} {rv : α → Option Value} {pc : Nat} {lv : List (Nat × Value)} {st : List Value} {F : M α} {k4 : Fin 4} {r : Option Nat} {lv' : List (Nat × Value)} (hd : decode y.2.1 pc = .ok (.astore_n k4, 1)) (hn : (k4 : Nat) < y.2.2.1) (hl' : ((k4 : Nat), va_rf r) :: lv.filter (fun q => !(q.1 == (k4 : Nat)) && !(q.1 + 1 == (k4 : Nat) && q.2.category == 2)) = lv') (k : Ok Γ y d rv (pc + 1) lv' st F) : Ok Γ y d rv pc lv (va_rf r :: st) F := by
  refine ok_of (fun hc hl kk => ?_) k
  cases r with
  | none => exact lv_astore_nN hc.1 hc.2.1 hd rfl hl hn hl' kk
  | some a => exact lv_astore_n hc.1 hc.2.1 hd rfl hl hn hl' kk
theorem ok_astore {α : Type} {Γ : Gam} {y : Mth} {d : Nat} {rv : α → Option Value} {pc : Nat} {lv : List (Nat × Value)} {st : List Value} {F : M α} {n : Nat} {r : Option Nat} {lv' : List (Nat × Value)} (hd : decode y.2.1 pc = .ok (.astore n, 2)) (hn : n < y.2.2.1) (hl' : (n, va_rf r) :: lv.filter (fun q => !(q.1 == n) && !(q.1 + 1 == n && q.2.category == 2)) = lv') (k : Ok Γ y d rv (pc + 2) lv' st F) : Ok Γ y d rv pc lv (va_rf r :: st) F := by
  refine ok_of (fun hc hl kk => ?_) k
  cases r with
  | none => exact lv_astoreN hc.1 hc.2.1 hd hl hn hl' kk
  | some a => exact lv_astore hc.1 hc.2.1 hd hl hn hl' kk
theorem ok_iinc {α : Type} {Γ : Gam} {y : Mth} {d : Nat} {rv : α → Option Value} {pc : Nat} {lv : List (Nat × Value)} {st : List Value} {F : M α} {n : Nat} {z : Int} {x v : Int32} {lv' : List (Nat × Value)} (hd : decode y.2.1 pc = .ok (.iinc n z, 3)) (i : Nat) (hk : lv[i]? = some (n, .int x)) (hv : x + Int32.ofInt z = v) (hn : n < y.2.2.1) (hl' : (n, Value.int v) :: lv.filter (fun q => !(q.1 == n) && !(q.1 + 1 == n && q.2.category == 2)) = lv') (k : Ok Γ y d rv (pc + 3) lv' st F) : Ok Γ y d rv pc lv st F :=
  ok_of (fun hc hl kk => lv_iinc hc.1 hc.2.1 hd hl hk hv hn hl' kk) k
theorem ok_iadd {α : Type} {Γ : Gam} {y : Mth} {d : Nat} {rv : α → Option Value} {pc : Nat} {lv : List (Nat × Value)} {st : List Value} {F : M α} {x z : Int32} (hd : decode y.2.1 pc = .ok (.iadd, 1)) (k : Ok Γ y d rv (pc + 1) lv (.int (x + z) :: st) F) : Ok Γ y d rv pc lv (.int z :: .int x :: st) F :=
  ok_of (fun hc hl kk => lv_iadd hc.1 hc.2.1 hd (kk _ hl)) k
theorem ok_isub {α : Type} {Γ : Gam} {y : Mth} {d : Nat} {rv : α → Option Value} {pc : Nat} {lv : List (Nat × Value)} {st : List Value} {F : M α} {x z : Int32} (hd : decode y.2.1 pc = .ok (.isub, 1)) (k : Ok Γ y d rv (pc + 1) lv (.int (x - z) :: st) F) : Ok Γ y d rv pc lv (.int z :: .int x :: st) F :=
  ok_of (fun hc hl kk => lv_isub hc.1 hc.2.1 hd (kk _ hl)) k
theorem ok_imul {α : Type} {Γ : Gam} {y : Mth} {d : Nat} {rv : α → Option Value} {pc : Nat} {lv : List (Nat × Value)} {st : List Value} {F : M α} {x z : Int32} (hd : decode y.2.1 pc = .ok (.imul, 1)) (k : Ok Γ y d rv (pc + 1) lv (.int (x * z) :: st) F) : Ok Γ y d rv pc lv (.int z :: .int x :: st) F :=
  ok_of (fun hc hl kk => lv_imul hc.1 hc.2.1 hd (kk _ hl)) k
theorem ok_iand {α : Type} {Γ : Gam} {y : Mth} {d : Nat} {rv : α → Option Value} {pc : Nat} {lv : List (Nat × Value)} {st : List Value} {F : M α} {x z : Int32} (hd : decode y.2.1 pc = .ok (.iand, 1)) (k : Ok Γ y d rv (pc + 1) lv (.int (x &&& z) :: st) F) : Ok Γ y d rv pc lv (.int z :: .int x :: st) F :=
  ok_of (fun hc hl kk => lv_iand hc.1 hc.2.1 hd (kk _ hl)) k
theorem ok_ior {α : Type} {Γ : Gam} {y : Mth} {d : Nat} {rv : α → Option Value} {pc : Nat} {lv : List (Nat × Value)} {st : List Value} {F : M α} {x z : Int32} (hd : decode y.2.1 pc = .ok (.ior, 1)) (k : Ok Γ y d rv (pc + 1) lv (.int (x ||| z) :: st) F) : Ok Γ y d rv pc lv (.int z :: .int x :: st) F :=
  ok_of (fun hc hl kk => lv_ior hc.1 hc.2.1 hd (kk _ hl)) k
theorem ok_ixor {α : Type} {Γ : Gam} {y : Mth} {d : Nat} {rv : α → Option Value} {pc : Nat} {lv : List (Nat × Value)} {st : List Value} {F : M α} {x z : Int32} (hd : decode y.2.1 pc = .ok (.ixor, 1)) (k : Ok Γ y d rv (pc + 1) lv (.int (x ^^^ z) :: st) F) : Ok Γ y d rv pc lv (.int z :: .int x :: st) F :=
  ok_of (fun hc hl kk => lv_ixor hc.1 hc.2.1 hd (kk _ hl)) k
theorem ok_ishl {α : Type} {Γ : Gam} {y : Mth} {d : Nat} {rv : α → Option Value} {pc : Nat} {lv : List (Nat × Value)} {st : List Value} {F : M α} {x z : Int32} (hd : decode y.2.1 pc = .ok (.ishl, 1)) (k : Ok Γ y d rv (pc + 1) lv (.int (x <<< (z &&& 31)) :: st) F) : Ok Γ y d rv pc lv (.int z :: .int x :: st) F :=
  ok_of (fun hc hl kk => lv_ishl hc.1 hc.2.1 hd (kk _ hl)) k
theorem ok_ishr {α : Type} {Γ : Gam} {y : Mth} {d : Nat} {rv : α → Option Value} {pc : Nat} {lv : List (Nat × Value)} {st : List Value} {F : M α} {x z : Int32} (hd : decode y.2.1 pc = .ok (.ishr, 1)) (k : Ok Γ y d rv (pc + 1) lv (.int (x >>> (z &&& 31)) :: st) F) : Ok Γ y d rv pc lv (.int z :: .int x :: st) F :=
  ok_of (fun hc hl kk => lv_ishr hc.1 hc.2.1 hd (kk _ hl)) k
theorem ok_ladd {α : Type} {Γ : Gam} {y : Mth} {d : Nat} {rv : α → Option Value} {pc : Nat} {lv : List (Nat × Value)} {st : List Value} {F : M α} {x z : Int64} (hd : decode y.2.1 pc = .ok (.ladd, 1)) (k : Ok Γ y d rv (pc + 1) lv (.long (x + z) :: st) F) : Ok Γ y d rv pc lv (.long z :: .long x :: st) F :=
  ok_of (fun hc hl kk => lv_ladd hc.1 hc.2.1 hd (kk _ hl)) k
theorem ok_lsub {α : Type} {Γ : Gam} {y : Mth} {d : Nat} {rv : α → Option Value} {pc : Nat} {lv : List (Nat × Value)} {st : List Value} {F : M α} {x z : Int64} (hd : decode y.2.1 pc = .ok (.lsub, 1)) (k : Ok Γ y d rv (pc + 1) lv (.long (x - z) :: st) F) : Ok Γ y d rv pc lv (.long z :: .long x :: st) F :=
  ok_of (fun hc hl kk => lv_lsub hc.1 hc.2.1 hd (kk _ hl)) k
theorem ok_lmul {α : Type} {Γ : Gam} {y : Mth} {d : Nat} {rv : α → Option Value} {pc : Nat} {lv : List (Nat × Value)} {st : List Value} {F : M α} {x z : Int64} (hd : decode y.2.1 pc = .ok (.lmul, 1)) (k : Ok Γ y d rv (pc + 1) lv (.long (x * z) :: st) F) : Ok Γ y d rv pc lv (.long z :: .long x :: st) F :=
  ok_of (fun hc hl kk => lv_lmul hc.1 hc.2.1 hd (kk _ hl)) k
theorem ok_ineg {α : Type} {Γ : Gam} {y : Mth} {d : Nat} {rv : α → Option Value} {pc : Nat} {lv : List (Nat × Value)} {st : List Value} {F : M α} {x : Int32} (hd : decode y.2.1 pc = .ok (.ineg, 1)) (k : Ok Γ y d rv (pc + 1) lv (.int (-x) :: st) F) : Ok Γ y d rv pc lv (.int x :: st) F :=
  ok_of (fun hc hl kk => lv_ineg hc.1 hc.2.1 hd (kk _ hl)) k
theorem ok_i2l {α : Type} {Γ : Gam} {y : Mth} {d : Nat} {rv : α → Option Value} {pc : Nat} {lv : List (Nat × Value)} {st : List Value} {F : M α} {x : Int32} (hd : decode y.2.1 pc = .ok (.i2l, 1)) (k : Ok Γ y d rv (pc + 1) lv (.long x.toInt64 :: st) F) : Ok Γ y d rv pc lv (.int x :: st) F :=
  ok_of (fun hc hl kk => lv_i2l hc.1 hc.2.1 hd rfl (kk _ hl)) k
theorem ok_i2c {α : Type} {Γ : Gam} {y : Mth} {d : Nat} {rv : α → Option Value} {pc : Nat} {lv : List (Nat × Value)} {st : List Value} {F : M α} {x : Int32} (hd : decode y.2.1 pc = .ok (.i2c, 1)) (k : Ok Γ y d rv (pc + 1) lv (.int (x.toUInt32 % 65536).toInt32 :: st) F) : Ok Γ y d rv pc lv (.int x :: st) F :=
  ok_of (fun hc hl kk => lv_i2c hc.1 hc.2.1 hd rfl (kk _ hl)) k
theorem ok_dup {α : Type} {Γ : Gam} {y : Mth} {d : Nat} {rv : α → Option Value} {pc : Nat} {lv : List (Nat × Value)} {st : List Value} {F : M α} {v : Value} (hd : decode y.2.1 pc = .ok (.dup, 1)) (hv : v.category = 1) (k : Ok Γ y d rv (pc + 1) lv (v :: v :: st) F) : Ok Γ y d rv pc lv (v :: st) F :=
  ok_of (fun hc hl kk => lv_dup hc.1 hc.2.1 hd hv (kk _ hl)) k
theorem ok_pop {α : Type} {Γ : Gam} {y : Mth} {d : Nat} {rv : α → Option Value} {pc : Nat} {lv : List (Nat × Value)} {st : List Value} {F : M α} {v : Value} (hd : decode y.2.1 pc = .ok (.pop, 1)) (hv : v.category = 1) (k : Ok Γ y d rv (pc + 1) lv st F) : Ok Γ y d rv pc lv (v :: st) F :=
  ok_of (fun hc hl kk => lv_pop hc.1 hc.2.1 hd hv (kk _ hl)) k
theorem ok_dup_x1 {α : Type} {Γ : Gam} {y : Mth} {d : Nat} {rv : α → Option Value} {pc : Nat} {lv : List (Nat × Value)} {st : List Value} {F : M α} {v w : Value} (hd : decode y.2.1 pc = .ok (.dup_x1, 1)) (hv : v.category = 1) (hw : w.category = 1) (k : Ok Γ y d rv (pc + 1) lv (v :: w :: v :: st) F) : Ok Γ y d rv pc lv (v :: w :: st) F :=
  ok_of (fun hc hl kk => lv_dup_x1 hc.1 hc.2.1 hd hv hw (kk _ hl)) k
theorem ok_dup2_11 {α : Type} {Γ : Gam} {y : Mth} {d : Nat} {rv : α → Option Value} {pc : Nat} {lv : List (Nat × Value)} {st : List Value} {F : M α} {v w : Value} (hd : decode y.2.1 pc = .ok (.dup2, 1)) (hv : v.category = 1) (hw : w.category = 1) (k : Ok Γ y d rv (pc + 1) lv (v :: w :: v :: w :: st) F) : Ok Γ y d rv pc lv (v :: w :: st) F :=
  ok_of (fun hc hl kk => lv_dup2_11 hc.1 hc.2.1 hd hv hw (kk _ hl)) k
theorem ok_goto {α : Type} {Γ : Gam} {y : Mth} {d : Nat} {rv : α → Option Value} {pc : Nat} {lv : List (Nat × Value)} {st : List Value} {F : M α} {off : Int} {tgt : Nat} (hd : decode y.2.1 pc = .ok (.goto off, 3)) (ht : (pc : Int) + off = (tgt : Int)) (k : Ok Γ y d rv tgt lv st F) : Ok Γ y d rv pc lv st F :=
  ok_of (fun hc hl kk => lv_goto hc.1 hc.2.1 hd ht (kk _ hl)) k
theorem ok_ldc {α : Type} {Γ : Gam} {y : Mth} {d : Nat} {rv : α → Option Value} {pc : Nat} {lv : List (Nat × Value)} {st : List Value} {F : M α} {n : Nat} {v : Int32} (hd : decode y.2.1 pc = .ok (.ldc n, 2)) (hw : Cond.constant y.1.cls n v ∈ lw_g) (k : Ok Γ y d rv (pc + 2) lv (.int v :: st) F) : Ok Γ y d rv pc lv st F :=
  ok_of (fun hc hl kk => lv_ldc hc.1 hc.2.1 hc.2.2.2.2.1 (hc.2.2.2.2.2.1 _ hw) hd (kk _ hl)) k
theorem ok_ldcw {α : Type} {Γ : Gam} {y : Mth} {d : Nat} {rv : α → Option Value} {pc : Nat} {lv : List (Nat × Value)} {st : List Value} {F : M α} {n : Nat} {v : Int32} (hd : decode y.2.1 pc = .ok (.ldc_w n, 3)) (hw : Cond.constant y.1.cls n v ∈ lw_g) (k : Ok Γ y d rv (pc + 3) lv (.int v :: st) F) : Ok Γ y d rv pc lv st F :=
  ok_of (fun hc hl kk => lv_ldcw hc.1 hc.2.1 hc.2.2.2.2.1 (hc.2.2.2.2.2.1 _ hw) hd (kk _ hl)) k
theorem ok_ldc2 {α : Type} {Γ : Gam} {y : Mth} {d : Nat} {rv : α → Option Value} {pc : Nat} {lv : List (Nat × Value)} {st : List Value} {F : M α} {n : Nat} {v : Int64} (hd : decode y.2.1 pc = .ok (.ldc2_w n, 3)) (hw : Cond.constantLong y.1.cls n v ∈ lw_g) (k : Ok Γ y d rv (pc + 3) lv (.long v :: st) F) : Ok Γ y d rv pc lv st F :=
  ok_of (fun hc hl kk => lv_ldc2 hc.1 hc.2.1 hc.2.2.2.2.1 (hc.2.2.2.2.2.1 _ hw) hd (kk _ hl)) k
theorem ok_sub {α : Type} {Γ : Gam} {y : Mth} {d : Nat} {rv : α → Option Value} {pc : Nat} {lv : List (Nat × Value)} {st : List Value} {F : M α} {lv' : List (Nat × Value)} (ks : List Nat) (hl' : lv_pick lv ks = lv') (k : Ok Γ y d rv pc lv' st F) : Ok Γ y d rv pc lv st F :=
  ok_of (fun _ hl kk => kk _ (lv_sub hl ks hl')) k
-- BRANCHES
end
section
theorem ok_if_eq {α : Type} {Γ : Gam} {y : Mth} {d : Nat} {rv : α → Option Value} {pc : Nat} {lv : List (Nat × Value)} {st : List Value} {F G : M α} {x : Int32} {off : Int} {tgt : Nat} (hd : decode y.2.1 pc = .ok (.ifCond .eq off, 3)) (ht : (pc : Int) + off = (tgt : Int)) (kt : Ok Γ y d rv tgt lv st F) (kf : Ok Γ y d rv (pc + 3) lv st G) : Ok Γ y d rv pc lv (.int x :: st) (if x = 0 then F else G) := by
  intro μ r μ' h
  by_cases hq : x = 0
  · rw [if_pos hq] at h
    refine ⟨(kt μ r μ' h).1, ?_⟩
    intro p e s m args below meth c x0 s0 H locs ls hc h1 h2 hS hD hl
    exact lv_if_eq hc.1 hc.2.1 hd ht (fun _ => (kt μ r μ' h).2 p e s m args below meth c x0 s0 H locs ls hc h1 h2 hS hD hl) (fun hn => by first | exact absurd hq hn | exact absurd hn hq)
  · rw [if_neg hq] at h
    refine ⟨(kf μ r μ' h).1, ?_⟩
    intro p e s m args below meth c x0 s0 H locs ls hc h1 h2 hS hD hl
    exact lv_if_eq hc.1 hc.2.1 hd ht (fun hn => by first | exact absurd hn hq | exact absurd hq hn) (fun _ => (kf μ r μ' h).2 p e s m args below meth c x0 s0 H locs ls hc h1 h2 hS hD hl)
theorem ok_icmp_eq {α : Type} {Γ : Gam} {y : Mth} {d : Nat} {rv : α → Option Value} {pc : Nat} {lv : List (Nat × Value)} {st : List Value} {F G : M α} {x z : Int32} {off : Int} {tgt : Nat} (hd : decode y.2.1 pc = .ok (.if_icmp .eq off, 3)) (ht : (pc : Int) + off = (tgt : Int)) (kt : Ok Γ y d rv tgt lv st F) (kf : Ok Γ y d rv (pc + 3) lv st G) : Ok Γ y d rv pc lv (.int z :: .int x :: st) (if x = z then F else G) := by
  intro μ r μ' h
  by_cases hq : x = z
  · rw [if_pos hq] at h
    refine ⟨(kt μ r μ' h).1, ?_⟩
    intro p e s m args below meth c x0 s0 H locs ls hc h1 h2 hS hD hl
    exact lv_icmp_eq hc.1 hc.2.1 hd ht (fun _ => (kt μ r μ' h).2 p e s m args below meth c x0 s0 H locs ls hc h1 h2 hS hD hl) (fun hn => by first | exact absurd hq hn | exact absurd hn hq)
  · rw [if_neg hq] at h
    refine ⟨(kf μ r μ' h).1, ?_⟩
    intro p e s m args below meth c x0 s0 H locs ls hc h1 h2 hS hD hl
    exact lv_icmp_eq hc.1 hc.2.1 hd ht (fun hn => by first | exact absurd hn hq | exact absurd hq hn) (fun _ => (kf μ r μ' h).2 p e s m args below meth c x0 s0 H locs ls hc h1 h2 hS hD hl)
theorem ok_if_ne {α : Type} {Γ : Gam} {y : Mth} {d : Nat} {rv : α → Option Value} {pc : Nat} {lv : List (Nat × Value)} {st : List Value} {F G : M α} {x : Int32} {off : Int} {tgt : Nat} (hd : decode y.2.1 pc = .ok (.ifCond .ne off, 3)) (ht : (pc : Int) + off = (tgt : Int)) (kt : Ok Γ y d rv tgt lv st F) (kf : Ok Γ y d rv (pc + 3) lv st G) : Ok Γ y d rv pc lv (.int x :: st) (if ¬ x = 0 then F else G) := by
  intro μ r μ' h
  by_cases hq : ¬ x = 0
  · rw [if_pos hq] at h
    refine ⟨(kt μ r μ' h).1, ?_⟩
    intro p e s m args below meth c x0 s0 H locs ls hc h1 h2 hS hD hl
    exact lv_if_ne hc.1 hc.2.1 hd ht (fun _ => (kt μ r μ' h).2 p e s m args below meth c x0 s0 H locs ls hc h1 h2 hS hD hl) (fun hn => by first | exact absurd hq hn | exact absurd hn hq)
  · rw [if_neg hq] at h
    refine ⟨(kf μ r μ' h).1, ?_⟩
    intro p e s m args below meth c x0 s0 H locs ls hc h1 h2 hS hD hl
    exact lv_if_ne hc.1 hc.2.1 hd ht (fun hn => by first | exact absurd hn hq | exact absurd hq hn) (fun _ => (kf μ r μ' h).2 p e s m args below meth c x0 s0 H locs ls hc h1 h2 hS hD hl)
theorem ok_icmp_ne {α : Type} {Γ : Gam} {y : Mth} {d : Nat} {rv : α → Option Value} {pc : Nat} {lv : List (Nat × Value)} {st : List Value} {F G : M α} {x z : Int32} {off : Int} {tgt : Nat} (hd : decode y.2.1 pc = .ok (.if_icmp .ne off, 3)) (ht : (pc : Int) + off = (tgt : Int)) (kt : Ok Γ y d rv tgt lv st F) (kf : Ok Γ y d rv (pc + 3) lv st G) : Ok Γ y d rv pc lv (.int z :: .int x :: st) (if ¬ x = z then F else G) := by
  intro μ r μ' h
  by_cases hq : ¬ x = z
  · rw [if_pos hq] at h
    refine ⟨(kt μ r μ' h).1, ?_⟩
    intro p e s m args below meth c x0 s0 H locs ls hc h1 h2 hS hD hl
    exact lv_icmp_ne hc.1 hc.2.1 hd ht (fun _ => (kt μ r μ' h).2 p e s m args below meth c x0 s0 H locs ls hc h1 h2 hS hD hl) (fun hn => by first | exact absurd hq hn | exact absurd hn hq)
  · rw [if_neg hq] at h
    refine ⟨(kf μ r μ' h).1, ?_⟩
    intro p e s m args below meth c x0 s0 H locs ls hc h1 h2 hS hD hl
    exact lv_icmp_ne hc.1 hc.2.1 hd ht (fun hn => by first | exact absurd hn hq | exact absurd hq hn) (fun _ => (kf μ r μ' h).2 p e s m args below meth c x0 s0 H locs ls hc h1 h2 hS hD hl)
theorem ok_if_lt {α : Type} {Γ : Gam} {y : Mth} {d : Nat} {rv : α → Option Value} {pc : Nat} {lv : List (Nat × Value)} {st : List Value} {F G : M α} {x : Int32} {off : Int} {tgt : Nat} (hd : decode y.2.1 pc = .ok (.ifCond .lt off, 3)) (ht : (pc : Int) + off = (tgt : Int)) (kt : Ok Γ y d rv tgt lv st F) (kf : Ok Γ y d rv (pc + 3) lv st G) : Ok Γ y d rv pc lv (.int x :: st) (if x < 0 then F else G) := by
  intro μ r μ' h
  by_cases hq : x < 0
  · rw [if_pos hq] at h
    refine ⟨(kt μ r μ' h).1, ?_⟩
    intro p e s m args below meth c x0 s0 H locs ls hc h1 h2 hS hD hl
    exact lv_if_lt hc.1 hc.2.1 hd ht (fun _ => (kt μ r μ' h).2 p e s m args below meth c x0 s0 H locs ls hc h1 h2 hS hD hl) (fun hn => by first | exact absurd hq hn | exact absurd hn hq)
  · rw [if_neg hq] at h
    refine ⟨(kf μ r μ' h).1, ?_⟩
    intro p e s m args below meth c x0 s0 H locs ls hc h1 h2 hS hD hl
    exact lv_if_lt hc.1 hc.2.1 hd ht (fun hn => by first | exact absurd hn hq | exact absurd hq hn) (fun _ => (kf μ r μ' h).2 p e s m args below meth c x0 s0 H locs ls hc h1 h2 hS hD hl)
theorem ok_icmp_lt {α : Type} {Γ : Gam} {y : Mth} {d : Nat} {rv : α → Option Value} {pc : Nat} {lv : List (Nat × Value)} {st : List Value} {F G : M α} {x z : Int32} {off : Int} {tgt : Nat} (hd : decode y.2.1 pc = .ok (.if_icmp .lt off, 3)) (ht : (pc : Int) + off = (tgt : Int)) (kt : Ok Γ y d rv tgt lv st F) (kf : Ok Γ y d rv (pc + 3) lv st G) : Ok Γ y d rv pc lv (.int z :: .int x :: st) (if x < z then F else G) := by
  intro μ r μ' h
  by_cases hq : x < z
  · rw [if_pos hq] at h
    refine ⟨(kt μ r μ' h).1, ?_⟩
    intro p e s m args below meth c x0 s0 H locs ls hc h1 h2 hS hD hl
    exact lv_icmp_lt hc.1 hc.2.1 hd ht (fun _ => (kt μ r μ' h).2 p e s m args below meth c x0 s0 H locs ls hc h1 h2 hS hD hl) (fun hn => by first | exact absurd hq hn | exact absurd hn hq)
  · rw [if_neg hq] at h
    refine ⟨(kf μ r μ' h).1, ?_⟩
    intro p e s m args below meth c x0 s0 H locs ls hc h1 h2 hS hD hl
    exact lv_icmp_lt hc.1 hc.2.1 hd ht (fun hn => by first | exact absurd hn hq | exact absurd hq hn) (fun _ => (kf μ r μ' h).2 p e s m args below meth c x0 s0 H locs ls hc h1 h2 hS hD hl)
theorem ok_if_ge {α : Type} {Γ : Gam} {y : Mth} {d : Nat} {rv : α → Option Value} {pc : Nat} {lv : List (Nat × Value)} {st : List Value} {F G : M α} {x : Int32} {off : Int} {tgt : Nat} (hd : decode y.2.1 pc = .ok (.ifCond .ge off, 3)) (ht : (pc : Int) + off = (tgt : Int)) (kt : Ok Γ y d rv tgt lv st F) (kf : Ok Γ y d rv (pc + 3) lv st G) : Ok Γ y d rv pc lv (.int x :: st) (if 0 ≤ x then F else G) := by
  intro μ r μ' h
  by_cases hq : 0 ≤ x
  · rw [if_pos hq] at h
    refine ⟨(kt μ r μ' h).1, ?_⟩
    intro p e s m args below meth c x0 s0 H locs ls hc h1 h2 hS hD hl
    exact lv_if_ge hc.1 hc.2.1 hd ht (fun _ => (kt μ r μ' h).2 p e s m args below meth c x0 s0 H locs ls hc h1 h2 hS hD hl) (fun hn => by first | exact absurd hq hn | exact absurd hn hq)
  · rw [if_neg hq] at h
    refine ⟨(kf μ r μ' h).1, ?_⟩
    intro p e s m args below meth c x0 s0 H locs ls hc h1 h2 hS hD hl
    exact lv_if_ge hc.1 hc.2.1 hd ht (fun hn => by first | exact absurd hn hq | exact absurd hq hn) (fun _ => (kf μ r μ' h).2 p e s m args below meth c x0 s0 H locs ls hc h1 h2 hS hD hl)
theorem ok_icmp_ge {α : Type} {Γ : Gam} {y : Mth} {d : Nat} {rv : α → Option Value} {pc : Nat} {lv : List (Nat × Value)} {st : List Value} {F G : M α} {x z : Int32} {off : Int} {tgt : Nat} (hd : decode y.2.1 pc = .ok (.if_icmp .ge off, 3)) (ht : (pc : Int) + off = (tgt : Int)) (kt : Ok Γ y d rv tgt lv st F) (kf : Ok Γ y d rv (pc + 3) lv st G) : Ok Γ y d rv pc lv (.int z :: .int x :: st) (if z ≤ x then F else G) := by
  intro μ r μ' h
  by_cases hq : z ≤ x
  · rw [if_pos hq] at h
    refine ⟨(kt μ r μ' h).1, ?_⟩
    intro p e s m args below meth c x0 s0 H locs ls hc h1 h2 hS hD hl
    exact lv_icmp_ge hc.1 hc.2.1 hd ht (fun _ => (kt μ r μ' h).2 p e s m args below meth c x0 s0 H locs ls hc h1 h2 hS hD hl) (fun hn => by first | exact absurd hq hn | exact absurd hn hq)
  · rw [if_neg hq] at h
    refine ⟨(kf μ r μ' h).1, ?_⟩
    intro p e s m args below meth c x0 s0 H locs ls hc h1 h2 hS hD hl
    exact lv_icmp_ge hc.1 hc.2.1 hd ht (fun hn => by first | exact absurd hn hq | exact absurd hq hn) (fun _ => (kf μ r μ' h).2 p e s m args below meth c x0 s0 H locs ls hc h1 h2 hS hD hl)
theorem ok_if_gt {α : Type} {Γ : Gam} {y : Mth} {d : Nat} {rv : α → Option Value} {pc : Nat} {lv : List (Nat × Value)} {st : List Value} {F G : M α} {x : Int32} {off : Int} {tgt : Nat} (hd : decode y.2.1 pc = .ok (.ifCond .gt off, 3)) (ht : (pc : Int) + off = (tgt : Int)) (kt : Ok Γ y d rv tgt lv st F) (kf : Ok Γ y d rv (pc + 3) lv st G) : Ok Γ y d rv pc lv (.int x :: st) (if 0 < x then F else G) := by
  intro μ r μ' h
  by_cases hq : 0 < x
  · rw [if_pos hq] at h
    refine ⟨(kt μ r μ' h).1, ?_⟩
    intro p e s m args below meth c x0 s0 H locs ls hc h1 h2 hS hD hl
    exact lv_if_gt hc.1 hc.2.1 hd ht (fun _ => (kt μ r μ' h).2 p e s m args below meth c x0 s0 H locs ls hc h1 h2 hS hD hl) (fun hn => by first | exact absurd hq hn | exact absurd hn hq)
  · rw [if_neg hq] at h
    refine ⟨(kf μ r μ' h).1, ?_⟩
    intro p e s m args below meth c x0 s0 H locs ls hc h1 h2 hS hD hl
    exact lv_if_gt hc.1 hc.2.1 hd ht (fun hn => by first | exact absurd hn hq | exact absurd hq hn) (fun _ => (kf μ r μ' h).2 p e s m args below meth c x0 s0 H locs ls hc h1 h2 hS hD hl)
theorem ok_icmp_gt {α : Type} {Γ : Gam} {y : Mth} {d : Nat} {rv : α → Option Value} {pc : Nat} {lv : List (Nat × Value)} {st : List Value} {F G : M α} {x z : Int32} {off : Int} {tgt : Nat} (hd : decode y.2.1 pc = .ok (.if_icmp .gt off, 3)) (ht : (pc : Int) + off = (tgt : Int)) (kt : Ok Γ y d rv tgt lv st F) (kf : Ok Γ y d rv (pc + 3) lv st G) : Ok Γ y d rv pc lv (.int z :: .int x :: st) (if z < x then F else G) := by
  intro μ r μ' h
  by_cases hq : z < x
  · rw [if_pos hq] at h
    refine ⟨(kt μ r μ' h).1, ?_⟩
    intro p e s m args below meth c x0 s0 H locs ls hc h1 h2 hS hD hl
    exact lv_icmp_gt hc.1 hc.2.1 hd ht (fun _ => (kt μ r μ' h).2 p e s m args below meth c x0 s0 H locs ls hc h1 h2 hS hD hl) (fun hn => by first | exact absurd hq hn | exact absurd hn hq)
  · rw [if_neg hq] at h
    refine ⟨(kf μ r μ' h).1, ?_⟩
    intro p e s m args below meth c x0 s0 H locs ls hc h1 h2 hS hD hl
    exact lv_icmp_gt hc.1 hc.2.1 hd ht (fun hn => by first | exact absurd hn hq | exact absurd hq hn) (fun _ => (kf μ r μ' h).2 p e s m args below meth c x0 s0 H locs ls hc h1 h2 hS hD hl)
theorem ok_if_le {α : Type} {Γ : Gam} {y : Mth} {d : Nat} {rv : α → Option Value} {pc : Nat} {lv : List (Nat × Value)} {st : List Value} {F G : M α} {x : Int32} {off : Int} {tgt : Nat} (hd : decode y.2.1 pc = .ok (.ifCond .le off, 3)) (ht : (pc : Int) + off = (tgt : Int)) (kt : Ok Γ y d rv tgt lv st F) (kf : Ok Γ y d rv (pc + 3) lv st G) : Ok Γ y d rv pc lv (.int x :: st) (if x ≤ 0 then F else G) := by
  intro μ r μ' h
  by_cases hq : x ≤ 0
  · rw [if_pos hq] at h
    refine ⟨(kt μ r μ' h).1, ?_⟩
    intro p e s m args below meth c x0 s0 H locs ls hc h1 h2 hS hD hl
    exact lv_if_le hc.1 hc.2.1 hd ht (fun _ => (kt μ r μ' h).2 p e s m args below meth c x0 s0 H locs ls hc h1 h2 hS hD hl) (fun hn => by first | exact absurd hq hn | exact absurd hn hq)
  · rw [if_neg hq] at h
    refine ⟨(kf μ r μ' h).1, ?_⟩
    intro p e s m args below meth c x0 s0 H locs ls hc h1 h2 hS hD hl
    exact lv_if_le hc.1 hc.2.1 hd ht (fun hn => by first | exact absurd hn hq | exact absurd hq hn) (fun _ => (kf μ r μ' h).2 p e s m args below meth c x0 s0 H locs ls hc h1 h2 hS hD hl)
theorem ok_icmp_le {α : Type} {Γ : Gam} {y : Mth} {d : Nat} {rv : α → Option Value} {pc : Nat} {lv : List (Nat × Value)} {st : List Value} {F G : M α} {x z : Int32} {off : Int} {tgt : Nat} (hd : decode y.2.1 pc = .ok (.if_icmp .le off, 3)) (ht : (pc : Int) + off = (tgt : Int)) (kt : Ok Γ y d rv tgt lv st F) (kf : Ok Γ y d rv (pc + 3) lv st G) : Ok Γ y d rv pc lv (.int z :: .int x :: st) (if x ≤ z then F else G) := by
  intro μ r μ' h
  by_cases hq : x ≤ z
  · rw [if_pos hq] at h
    refine ⟨(kt μ r μ' h).1, ?_⟩
    intro p e s m args below meth c x0 s0 H locs ls hc h1 h2 hS hD hl
    exact lv_icmp_le hc.1 hc.2.1 hd ht (fun _ => (kt μ r μ' h).2 p e s m args below meth c x0 s0 H locs ls hc h1 h2 hS hD hl) (fun hn => by first | exact absurd hq hn | exact absurd hn hq)
  · rw [if_neg hq] at h
    refine ⟨(kf μ r μ' h).1, ?_⟩
    intro p e s m args below meth c x0 s0 H locs ls hc h1 h2 hS hD hl
    exact lv_icmp_le hc.1 hc.2.1 hd ht (fun hn => by first | exact absurd hn hq | exact absurd hq hn) (fun _ => (kf μ r μ' h).2 p e s m args below meth c x0 s0 H locs ls hc h1 h2 hS hD hl)
theorem ok_ifnull {α : Type} {Γ : Gam} {y : Mth} {d : Nat} {rv : α → Option Value} {pc : Nat} {lv : List (Nat × Value)} {st : List Value} {F G : M α} {r : Option Nat} {off : Int} {tgt : Nat} (hd : decode y.2.1 pc = .ok (.ifnull off, 3)) (ht : (pc : Int) + off = (tgt : Int)) (kt : Ok Γ y d rv tgt lv st F) (kf : Ok Γ y d rv (pc + 3) lv st G) : Ok Γ y d rv pc lv (va_rf r :: st) (if r = none then F else G) := by
  intro μ w μ' h
  cases r with
  | none =>
    rw [if_pos rfl] at h
    refine ⟨(kt μ w μ' h).1, ?_⟩
    intro p e s m args below meth c x0 s0 H locs ls hc h1 h2 hS hD hl
    exact lv_ifnullN hc.1 hc.2.1 hd ht ((kt μ w μ' h).2 p e s m args below meth c x0 s0 H locs ls hc h1 h2 hS hD hl)
  | some a =>
    rw [if_neg (fun q => nomatch q)] at h
    refine ⟨(kf μ w μ' h).1, ?_⟩
    intro p e s m args below meth c x0 s0 H locs ls hc h1 h2 hS hD hl
    exact lv_ifnull hc.1 hc.2.1 hd ((kf μ w μ' h).2 p e s m args below meth c x0 s0 H locs ls hc h1 h2 hS hD hl)
theorem ok_ifnonnull {α : Type} {Γ : Gam} {y : Mth} {d : Nat} {rv : α → Option Value} {pc : Nat} {lv : List (Nat × Value)} {st : List Value} {F G : M α} {r : Option Nat} {off : Int} {tgt : Nat} (hd : decode y.2.1 pc = .ok (.ifnonnull off, 3)) (ht : (pc : Int) + off = (tgt : Int)) (kt : Ok Γ y d rv tgt lv st F) (kf : Ok Γ y d rv (pc + 3) lv st G) : Ok Γ y d rv pc lv (va_rf r :: st) (if ¬ r = none then F else G) := by
  intro μ w μ' h
  cases r with
  | none =>
    rw [if_neg (fun q => q rfl)] at h
    refine ⟨(kf μ w μ' h).1, ?_⟩
    intro p e s m args below meth c x0 s0 H locs ls hc h1 h2 hS hD hl
    exact lv_ifnonnullN hc.1 hc.2.1 hd ((kf μ w μ' h).2 p e s m args below meth c x0 s0 H locs ls hc h1 h2 hS hD hl)
  | some a =>
    rw [if_pos (fun q => nomatch q)] at h
    refine ⟨(kt μ w μ' h).1, ?_⟩
    intro p e s m args below meth c x0 s0 H locs ls hc h1 h2 hS hD hl
    exact lv_ifnonnull hc.1 hc.2.1 hd ht ((kt μ w μ' h).2 p e s m args below meth c x0 s0 H locs ls hc h1 h2 hS hD hl)
theorem ok_acmp_eq {α : Type} {Γ : Gam} {y : Mth} {d : Nat} {rv : α → Option Value} {pc : Nat} {lv : List (Nat × Value)} {st : List Value} {F G : M α} {q r : Option Nat} {off : Int} {tgt : Nat} (hd : decode y.2.1 pc = .ok (.if_acmp .eq off, 3)) (ht : (pc : Int) + off = (tgt : Int)) (kt : Ok Γ y d rv tgt lv st F) (kf : Ok Γ y d rv (pc + 3) lv st G) : Ok Γ y d rv pc lv (va_rf r :: va_rf q :: st) (if q = r then F else G) := by
  intro μ w μ' h
  by_cases hq : q = r
  · rw [if_pos hq] at h
    refine ⟨(kt μ w μ' h).1, ?_⟩
    intro p e s m args below meth c x0 s0 H locs ls hc h1 h2 hS hD hl
    exact lv_acmp_eq hc.1 hc.2.1 hd ht (fun _ => (kt μ w μ' h).2 p e s m args below meth c x0 s0 H locs ls hc h1 h2 hS hD hl) (fun hn => by first | exact absurd hq hn | exact absurd hn hq)
  · rw [if_neg hq] at h
    refine ⟨(kf μ w μ' h).1, ?_⟩
    intro p e s m args below meth c x0 s0 H locs ls hc h1 h2 hS hD hl
    exact lv_acmp_eq hc.1 hc.2.1 hd ht (fun hn => by first | exact absurd hn hq | exact absurd hq hn) (fun _ => (kf μ w μ' h).2 p e s m args below meth c x0 s0 H locs ls hc h1 h2 hS hD hl)
theorem ok_acmp_ne {α : Type} {Γ : Gam} {y : Mth} {d : Nat} {rv : α → Option Value} {pc : Nat} {lv : List (Nat × Value)} {st : List Value} {F G : M α} {q r : Option Nat} {off : Int} {tgt : Nat} (hd : decode y.2.1 pc = .ok (.if_acmp .ne off, 3)) (ht : (pc : Int) + off = (tgt : Int)) (kt : Ok Γ y d rv tgt lv st F) (kf : Ok Γ y d rv (pc + 3) lv st G) : Ok Γ y d rv pc lv (va_rf r :: va_rf q :: st) (if ¬ q = r then F else G) := by
  intro μ w μ' h
  by_cases hq : ¬ q = r
  · rw [if_pos hq] at h
    refine ⟨(kt μ w μ' h).1, ?_⟩
    intro p e s m args below meth c x0 s0 H locs ls hc h1 h2 hS hD hl
    exact lv_acmp_ne hc.1 hc.2.1 hd ht (fun _ => (kt μ w μ' h).2 p e s m args below meth c x0 s0 H locs ls hc h1 h2 hS hD hl) (fun hn => by first | exact absurd hq hn | exact absurd hn hq)
  · rw [if_neg hq] at h
    refine ⟨(kf μ w μ' h).1, ?_⟩
    intro p e s m args below meth c x0 s0 H locs ls hc h1 h2 hS hD hl
    exact lv_acmp_ne hc.1 hc.2.1 hd ht (fun hn => by first | exact absurd hn hq | exact absurd hq hn) (fun _ => (kf μ w μ' h).2 p e s m args below meth c x0 s0 H locs ls hc h1 h2 hS hD hl)
theorem ok_lcmp {α : Type} {Γ : Gam} {y : Mth} {d : Nat} {rv : α → Option Value} {pc : Nat} {lv : List (Nat × Value)} {st : List Value} {F : M α} {x z : Int64} (hd : decode y.2.1 pc = .ok (.lcmp, 1)) (k : Ok Γ y d rv (pc + 1) lv (.int (lg_cmp x z) :: st) F) : Ok Γ y d rv pc lv (.long z :: .long x :: st) F :=
  ok_of (fun hc hl kk => W.lcmp hc.1 hc.2.1 hd (kk _ hl)) k
/-- a failing program: nothing is asked -/
theorem ok_fl {α : Type} {Γ : Gam} {y : Mth} {d : Nat} {rv : α → Option Value} {pc : Nat} {lv : List (Nat × Value)} {st : List Value} : Ok Γ y d rv pc lv st fl := fun _ _ _ h => nomatch h
/-- an instruction that may fail, and leaves the heap alone -/
theorem ok_ck {α : Type} {Γ : Gam} {y : Mth} {d : Nat} {rv : α → Option Value} {pc : Nat} {lv : List (Nat × Value)} {st : List Value} {F : M α} {b : Bool} (k : b = true → Ok Γ y d rv pc lv st F) : Ok Γ y d rv pc lv st (bn (ck b) fun _ => F) := by
  intro μ x μ' h
  obtain ⟨u, μ1, h1, h2⟩ := bn_some h
  unfold ck at h1
  by_cases hb : b = true
  · rw [if_pos hb] at h1
    cases h1
    exact k hb μ x μ' h2
  · rw [if_neg hb] at h1
    cases h1
theorem ok_idiv {α : Type} {Γ : Gam} {y : Mth} {d : Nat} {rv : α → Option Value} {pc : Nat} {lv : List (Nat × Value)} {st : List Value} {F : Int32 → M α} {x z : Int32} (hd : decode y.2.1 pc = .ok (.idiv, 1)) (k : Ok Γ y d rv (pc + 1) lv (.int (x / z) :: st) (F (x / z))) : Ok Γ y d rv pc lv (.int z :: .int x :: st) (bn (dvI x z) F) := by
  intro μ w μ' h
  obtain ⟨u, μ1, h1, h2⟩ := bn_some h
  unfold dvI at h1
  by_cases hz : z = 0
  · rw [if_pos hz] at h1; cases h1
  · rw [if_neg hz] at h1
    cases h1
    exact ok_of (fun hc hl kk => lv_idiv hc.1 hc.2.1 hd hz (kk _ hl)) k μ w μ' h2
theorem ok_irem {α : Type} {Γ : Gam} {y : Mth} {d : Nat} {rv : α → Option Value} {pc : Nat} {lv : List (Nat × Value)} {st : List Value} {F : Int32 → M α} {x z : Int32} (hd : decode y.2.1 pc = .ok (.irem, 1)) (k : Ok Γ y d rv (pc + 1) lv (.int (x - x / z * z) :: st) (F (x - x / z * z))) : Ok Γ y d rv pc lv (.int z :: .int x :: st) (bn (rmI x z) F) := by
  intro μ w μ' h
  obtain ⟨u, μ1, h1, h2⟩ := bn_some h
  unfold rmI at h1
  by_cases hz : z = 0
  · rw [if_pos hz] at h1; cases h1
  · rw [if_neg hz] at h1
    cases h1
    exact ok_of (fun hc hl kk => lv_irem hc.1 hc.2.1 hd hz (kk _ hl)) k μ w μ' h2
def swF {α : Type} (x : Int32) : List (Int32 × Nat × M α) → M α → M α
  | [], G => G
  | q :: r, G => if x = q.1 then q.2.2 else swF x r G
theorem swF_some {α : Type} {x : Int32} {L : List (Int32 × Nat × M α)} {G : M α} : (∃ q ∈ L, x = q.1 ∧ swF x L G = q.2.2) ∨ ((∀ q ∈ L, ¬ x = q.1) ∧ swF x L G = G) := by
  induction L with
  | nil => exact Or.inr ⟨fun q h => absurd h List.not_mem_nil, rfl⟩
  | cons a r ih =>
    by_cases hx : x = a.1
    · exact Or.inl ⟨a, List.mem_cons_self, hx, by unfold swF; rw [if_pos hx]⟩
    · have e : swF x (a :: r) G = swF x r G := by rw [swF, if_neg hx]
      rw [e]
      rcases ih with ⟨q, h1, h2, h3⟩ | ⟨h1, h2⟩
      · exact Or.inl ⟨q, List.mem_cons_of_mem _ h1, h2, h3⟩
      · refine Or.inr ⟨fun q h => ?_, h2⟩
        rcases List.mem_cons.mp h with rfl | h
        · exact hx
        · exact h1 q h
/-- the cases of a tableswitch, all of them in order -/
def tsOk (pc : Nat) (dflt lo hi : Int) (offs : List Int) (L : List (Int32 × Nat)) (dt : Nat) : Bool :=
  decide ((pc : Int) + dflt = (dt : Int)) && decide ((L.map fun q => q.1.toInt) = (List.range L.length).map fun i : Nat => lo + (i : Int)) && decide (hi = lo + (L.length : Int) - 1) && decide ((L.map fun q => (q.2 : Int)) = offs.map fun o => (pc : Int) + o)
theorem ok_tsw {α : Type} {Γ : Gam} {y : Mth} {d : Nat} {rv : α → Option Value} {pc : Nat} {lv : List (Nat × Value)} {st : List Value} {G : M α} {L : List (Int32 × Nat × M α)} {dt : Nat} {x : Int32} {dflt lo hi : Int} {offs : Array Int} {ln : Nat} (hd : decode y.2.1 pc = .ok (.tableswitch dflt lo hi offs, ln)) (ht : tsOk pc dflt lo hi offs.toList (L.map fun q => (q.1, q.2.1)) dt = true)
    (kt : ∀ q ∈ L, Ok Γ y d rv q.2.1 lv st q.2.2) (kf : Ok Γ y d rv dt lv st G) : Ok Γ y d rv pc lv (.int x :: st) (swF x L G) := by
  intro μ w μ' h
  simp only [tsOk, Bool.and_eq_true, decide_eq_true_eq] at ht
  obtain ⟨⟨⟨t1, t2⟩, t3⟩, t4⟩ := ht
  simp only [List.map_map, List.length_map] at t2 t3 t4
  rcases swF_some (x := x) (L := L) (G := G) with ⟨q, hq, hx, e⟩ | ⟨hq, e⟩
  · rw [e] at h
    refine ⟨(kt q hq μ w μ' h).1, ?_⟩
    intro p e s m args below meth c x0 s0 H locs ls hc h1 h2 hS hD hl
    obtain ⟨i, hi⟩ := List.getElem?_of_mem hq
    have hil : i < L.length := (List.getElem?_eq_some_iff.mp hi).1
    have e1 : q.1.toInt = lo + (i : Int) := by
      have z := congrArg (fun l => l[i]?) t2
      simp only [List.getElem?_map, hi, List.getElem?_range hil] at z
      simpa using z
    have hxi : x.toInt = lo + (i : Int) := by rw [hx]; exact e1
    have e2 : ∃ o, offs.toList[i]? = some o ∧ (q.2.1 : Int) = (pc : Int) + o := by
      have z := congrArg (fun l => l[i]?) t4
      simp only [List.getElem?_map, hi] at z
      cases ho : offs.toList[i]? with
      | none => rw [ho] at z; simp at z
      | some o => rw [ho] at z; exact ⟨o, rfl, by simpa using z⟩
    obtain ⟨o, ho, hto⟩ := e2
    refine lv_tableIn (off := o) (tgt := q.2.1) hc.1 hc.2.1 hd (by omega) (by omega) ?_ hto.symm ((kt q hq μ w μ' h).2 p e s m args below meth c x0 s0 H locs ls hc h1 h2 hS hD hl)
    rw [show (x.toInt - lo).toNat = i by omega]
    simpa using ho
  · rw [e] at h
    refine ⟨(kf μ w μ' h).1, ?_⟩
    intro p e s m args below meth c x0 s0 H locs ls hc h1 h2 hS hD hl
    refine lv_tableOut (tgt := dt) hc.1 hc.2.1 hd ?_ t1 ((kf μ w μ' h).2 p e s m args below meth c x0 s0 H locs ls hc h1 h2 hS hD hl)
    by_cases hlo : x.toInt < lo
    · exact Or.inl hlo
    · refine Or.inr ?_
      by_cases hhi : hi < x.toInt
      · exact hhi
      · exfalso
        have hil : (x.toInt - lo).toNat < L.length := by omega
        obtain ⟨q, hqi⟩ : ∃ q, L[(x.toInt - lo).toNat]? = some q := ⟨_, List.getElem?_eq_getElem hil⟩
        have z := congrArg (fun l => l[(x.toInt - lo).toNat]?) t2
        simp only [List.getElem?_map, hqi, List.getElem?_range hil] at z
        have e1 : q.1.toInt = lo + ((x.toInt - lo).toNat : Int) := by simpa using z
        exact hq q (List.mem_of_getElem? hqi) (Int32.toInt_inj.mp (by omega))
/-- the cases of a lookupswitch -/
def lsOk (pc : Nat) (dflt : Int) (ps : List (Int × Int)) (L : List (Int32 × Nat)) (dt : Nat) : Bool :=
  decide ((pc : Int) + dflt = (dt : Int)) && decide ((L.map fun q => (q.1.toInt, (q.2 : Int))) = ps.map fun o => (o.1, (pc : Int) + o.2)) && (ps.zip (ps.drop 1)).all (fun (a, next) => a.1 < next.1)
theorem ls_off {L : List (Int32 × Nat)} {ps : List (Int × Int)} {dflt : Int} {pc dt : Nat} {x : Int32} (h : (L.map fun q => (q.1.toInt, (q.2 : Int))) = ps.map fun o => (o.1, (pc : Int) + o.2)) :
    (∃ (q : Int32 × Nat) (o : Int), q ∈ L ∧ x = q.1 ∧ Op.lookupswitch.offset ps dflt x.toInt = o ∧ (pc : Int) + o = (q.2 : Int)) ∨ ((∀ q ∈ L, ¬ x = q.1) ∧ Op.lookupswitch.offset ps dflt x.toInt = dflt) := by
  induction ps generalizing L with
  | nil =>
    cases L with
    | nil => exact Or.inr ⟨fun q h => absurd h List.not_mem_nil, rfl⟩
    | cons a r => cases h
  | cons o r ih =>
    cases L with
    | nil => cases h
    | cons a L =>
      simp only [List.map_cons, List.cons.injEq, Prod.mk.injEq] at h
      obtain ⟨⟨h1, h2⟩, h3⟩ := h
      by_cases hx : x = a.1
      · refine Or.inl ⟨a, o.2, List.mem_cons_self, hx, ?_, h2.symm⟩
        subst hx
        simp [Op.lookupswitch.offset, h1]
      · have e : Op.lookupswitch.offset (o :: r) dflt x.toInt = Op.lookupswitch.offset r dflt x.toInt := lv_osw (a := o.1) (o := o.2) hx h1
        rw [e]
        rcases ih h3 with ⟨q, z, g1, g2, g3, g4⟩ | ⟨g1, g2⟩
        · exact Or.inl ⟨q, z, List.mem_cons_of_mem _ g1, g2, g3, g4⟩
        · refine Or.inr ⟨fun q h => ?_, g2⟩
          rcases List.mem_cons.mp h with rfl | h
          · exact hx
          · exact g1 q h
theorem ls_pair {ps : List (Int × Int)} (h : (ps.zip (ps.drop 1)).all (fun (a, next) => a.1 < next.1) = true) : ps.Pairwise (fun a b => a.1 < b.1) := by
  induction ps with
  | nil => exact List.Pairwise.nil
  | cons a r ih =>
    cases r with
    | nil => exact List.pairwise_singleton _ _
    | cons b r =>
      simp only [List.drop_succ_cons, List.drop_zero, List.zip_cons_cons, List.all_cons, Bool.and_eq_true, decide_eq_true_eq] at h ih
      have hp := ih h.2
      refine List.Pairwise.cons (fun z hz => ?_) hp
      rcases List.mem_cons.mp hz with rfl | hz
      · exact h.1
      · exact Int.lt_trans h.1 (List.rel_of_pairwise_cons hp hz)
theorem ls_same {α : Type} {L : List (Int32 × Nat × α)} (hp : (L.map fun q => (q.1.toInt, (q.2.1 : Int))).Pairwise (fun a b => a.1 < b.1)) {a b : Int32 × Nat × α} (ha : a ∈ L) (hb : b ∈ L) (hab : a.1 = b.1) : a.2.1 = b.2.1 := by
  induction L with
  | nil => exact absurd ha List.not_mem_nil
  | cons c r ih =>
    simp only [List.map_cons] at hp
    obtain ⟨h1, h2⟩ := List.pairwise_cons.mp hp
    rcases List.mem_cons.mp ha with e1 | ha1
    · rcases List.mem_cons.mp hb with e2 | hb1
      · rw [e1, e2]
      · have z := h1 _ (List.mem_map.mpr ⟨b, hb1, rfl⟩)
        simp only [← e1, hab] at z
        exact absurd z (Int.lt_irrefl _)
    · rcases List.mem_cons.mp hb with e2 | hb1
      · have z := h1 _ (List.mem_map.mpr ⟨a, ha1, rfl⟩)
        simp only [← e2, hab] at z
        exact absurd z (Int.lt_irrefl _)
      · exact ih h2 ha1 hb1
theorem ok_lsw {α : Type} {Γ : Gam} {y : Mth} {d : Nat} {rv : α → Option Value} {pc : Nat} {lv : List (Nat × Value)} {st : List Value} {G : M α} {L : List (Int32 × Nat × M α)} {dt : Nat} {x : Int32} {dflt : Int} {ps : Array (Int × Int)} {ln : Nat} (hd : decode y.2.1 pc = .ok (.lookupswitch dflt ps, ln)) (ht : lsOk pc dflt ps.toList (L.map fun q => (q.1, q.2.1)) dt = true)
    (kt : ∀ q ∈ L, Ok Γ y d rv q.2.1 lv st q.2.2) (kf : Ok Γ y d rv dt lv st G) : Ok Γ y d rv pc lv (.int x :: st) (swF x L G) := by
  intro μ w μ' h
  simp only [lsOk, Bool.and_eq_true, decide_eq_true_eq] at ht
  obtain ⟨⟨t1, t2⟩, t3⟩ := ht
  rcases swF_some (x := x) (L := L) (G := G) with ⟨q, hq, hx, e⟩ | ⟨hq, e⟩
  · rw [e] at h
    refine ⟨(kt q hq μ w μ' h).1, ?_⟩
    intro p e s m args below meth c x0 s0 H locs ls hc h1 h2 hS hD hl
    rcases ls_off (x := x) (dflt := dflt) (dt := dt) t2 with ⟨q', o, g1, g2, g3, g4⟩ | ⟨g1, g2⟩
    · obtain ⟨q2, hq2, rfl⟩ := List.mem_map.mp g1
      -- the first case with this number is the one that is taken; all numbers differ, so it is q
      have hL : ∀ a ∈ L, ∀ b ∈ L, a.1 = b.1 → a.2.1 = b.2.1 := by
        intro a ha b hb hab
        have hs : (L.map fun q => (q.1.toInt, (q.2.1 : Int))) = ps.toList.map fun o => (o.1, (pc : Int) + o.2) := by
          simpa [List.map_map, Function.comp_def] using t2
        have hp : ps.toList.Pairwise (fun a b => a.1 < b.1) := ls_pair t3
        have hp2 : (L.map fun q => (q.1.toInt, (q.2.1 : Int))).Pairwise (fun a b => a.1 < b.1) := by
          rw [hs]
          exact List.Pairwise.map _ (fun _ _ h => h) hp
        exact ls_same hp2 ha hb hab
      have e1 : q2.2.1 = q.2.1 := hL q2 hq2 q hq (g2.symm.trans hx)
      refine lv_lookup (off := o) (tgt := q.2.1) hc.1 hc.2.1 hd t3 g3 (by rw [g4]; simp [e1]) ((kt q hq μ w μ' h).2 p e s m args below meth c x0 s0 H locs ls hc h1 h2 hS hD hl)
    · exact absurd hx (g1 (q.1, q.2.1) (List.mem_map.mpr ⟨q, hq, rfl⟩))
  · rw [e] at h
    refine ⟨(kf μ w μ' h).1, ?_⟩
    intro p e s m args below meth c x0 s0 H locs ls hc h1 h2 hS hD hl
    rcases ls_off (x := x) (dflt := dflt) (dt := dt) t2 with ⟨q', o, g1, g2, g3, g4⟩ | ⟨g1, g2⟩
    · obtain ⟨q2, hq2, rfl⟩ := List.mem_map.mp g1
      exact absurd g2 (hq q2 hq2)
    · exact lv_lookup (off := dflt) (tgt := dt) hc.1 hc.2.1 hd t3 g2 t1 ((kf μ w μ' h).2 p e s m args below meth c x0 s0 H locs ls hc h1 h2 hS hD hl)
end
section
/-- what stands at a method's end -/
theorem qo_end {Γ : Gam} {v : Option Value} {μ : Mem} {args : Array Value} {s t : State} {H : Heap} {locs : List Loc} (hS : va_S (fun q => gB Γ ≤ q) s.heap H locs) (hD : Wd Γ μ H) (ht : t.heap = H) : Qo Γ v μ args s (.returned v) t := ⟨rfl, by rw [ht]; exact hD, hS.F ht⟩
theorem ok_ireturn {Γ : Gam} {y : Mth} {d pc : Nat} {lv : List (Nat × Value)} {x : Int32} (hd : decode y.2.1 pc = .ok (.ireturn, 1)) (hr : y.2.2.2 = some .int) : Ok Γ y d vI pc lv [.int x] (rt x) := by
  intro μ w μ' h
  cases h
  refine ⟨⟨Nat.le_refl _, Nat.le_refl _⟩, ?_⟩
  intro p e s m args below meth c x0 s0 H locs ls hc h1 h2 hS hD hl
  exact W.iret hc.1 hc.2.1 (hc.2.2.1.trans hr) (fun t ht _ => qo_end hS hD ht) (fun q hq => hS.2.2 q hq) hd hc.2.2.2.2.2.2.1
theorem nar_z {v : Int32} (h : v = 0 ∨ v = 1) : narrow .boolean (.int v) = .int v := by
  rcases h with rfl | rfl <;> rfl
theorem ok_zreturn {Γ : Gam} {y : Mth} {d pc : Nat} {lv : List (Nat × Value)} {x : Int32} (hd : decode y.2.1 pc = .ok (.ireturn, 1)) (hr : y.2.2.2 = some .boolean) : Ok Γ y d vI pc lv [.int x] (rz x) := by
  intro μ w μ' h
  unfold rz at h
  by_cases hx : x = 0 ∨ x = 1
  · rw [if_pos hx] at h
    cases h
    refine ⟨⟨Nat.le_refl _, Nat.le_refl _⟩, ?_⟩
    intro p e s m args below meth c x0 s0 H locs ls hc h1 h2 hS hD hl
    exact W.zret hc.1 hc.2.1 (hc.2.2.1.trans hr) (nar_z hx) (fun t ht _ => qo_end hS hD ht) (fun q hq => hS.2.2 q hq) hd hc.2.2.2.2.2.2.1
  · rw [if_neg hx] at h
    cases h
theorem ok_lreturn {Γ : Gam} {y : Mth} {d pc : Nat} {lv : List (Nat × Value)} {x : Int64} (hd : decode y.2.1 pc = .ok (.lreturn, 1)) (hr : y.2.2.2 = some .long) : Ok Γ y d vL pc lv [.long x] (rt x) := by
  intro μ w μ' h
  cases h
  refine ⟨⟨Nat.le_refl _, Nat.le_refl _⟩, ?_⟩
  intro p e s m args below meth c x0 s0 H locs ls hc h1 h2 hS hD hl
  exact W.lret hc.1 hc.2.1 (hc.2.2.1.trans hr) (fun t ht _ => qo_end hS hD ht) (fun q hq => hS.2.2 q hq) hd hc.2.2.2.2.2.2.1
theorem rf_or (r : Option Nat) : va_rf r = .null ∨ ∃ a, va_rf r = .ref a := by
  cases r with
  | none => exact Or.inl rfl
  | some a => exact Or.inr ⟨a, rfl⟩
theorem ok_areturn {Γ : Gam} {y : Mth} {d pc : Nat} {lv : List (Nat × Value)} {r : Option Nat} {ty : FieldType} (hd : decode y.2.1 pc = .ok (.areturn, 1)) (hr : y.2.2.2 = some ty) (hty : (∃ n, ty = .object n) ∨ ∃ t, ty = .array t) : Ok Γ y d vP pc lv [va_rf r] (rt r) := by
  intro μ w μ' h
  cases h
  refine ⟨⟨Nat.le_refl _, Nat.le_refl _⟩, ?_⟩
  intro p e s m args below meth c x0 s0 H locs ls hc h1 h2 hS hD hl
  exact W.aret hc.1 hc.2.1 (hc.2.2.1.trans hr) hty (rf_or r) (fun t ht _ => qo_end hS hD ht) (fun q hq => hS.2.2 q hq) hd hc.2.2.2.2.2.2.1
theorem ok_return {Γ : Gam} {y : Mth} {d pc : Nat} {lv : List (Nat × Value)} (hd : decode y.2.1 pc = .ok (.return_, 1)) (hr : y.2.2.2 = none) : Ok Γ y d vV pc lv [] (rt ()) := by
  intro μ w μ' h
  cases h
  refine ⟨⟨Nat.le_refl _, Nat.le_refl _⟩, ?_⟩
  intro p e s m args below meth c x0 s0 H locs ls hc h1 h2 hS hD hl
  exact W.vret hc.1 hc.2.1 (hc.2.2.1.trans hr) (fun t ht _ => qo_end hS hD ht) (fun q hq => hS.2.2 q hq) hd hc.2.2.2.2.2.2.1
/-- the classes' facts, each decided once -/
def CF (c : Nat) (C : String) (T : u_T) (N : Nat) : Prop := vcl[c]? = some (C, T, N) ∧ (∀ w ∈ u_ws C T N, w ∈ lw_g) ∧ (∃ ty : Nat → FieldType, ∀ k, k < N → parseFieldDescriptor (T k).2.2.1 = some (ty k)) ∧ (∀ a, a < N → ∀ b, b < N → a ≠ b → (T a).2.1 ≠ (T b).2.1)
/-- a field's link in a class's pool -/
def FL (own : String) (idx c k : Nat) (C : String) (T : u_T) (N : Nat) : Prop := CF c C T N ∧ k < N ∧ ∃ ref, Cond.fieldLink own idx ref (T k).2.1 (T k).2.2.1 ∈ lw_g ∧ (ref = (T k).1 ∨ Cond.sameField ref (T k).1 (T k).2.1 (T k).2.2.1 ∈ lw_g)
theorem fl_same {args : Array Value} {s : State} {own : String} {idx c k : Nat} {C : String} {T : u_T} {N : Nat} (hts : ∀ w ∈ lw_g, w.before args s = true) (h : FL own idx c k C T N) : ∃ ref, (Cond.fieldLink own idx ref (T k).2.1 (T k).2.2.1).before args s = true ∧ ∀ x, s.fieldFound? (T k).1 (T k).2.1 (T k).2.2.1 = some x → s.fieldFound? ref (T k).2.1 (T k).2.2.1 = some x := by
  obtain ⟨-, -, ref, h1, h2⟩ := h
  refine ⟨ref, hts _ h1, fun x hx => ?_⟩
  rcases h2 with rfl | h2
  · exact hx
  · exact u_same (hts _ h2) x hx
/-- a receiver -/
theorem pRc_some {c : Nat} {r : Option Nat} {μ : Mem} {q : Nat × Mem} (h : pRc c r μ = some q) : ∃ a, r = some a ∧ mK μ a = c + 1 ∧ q = (a, μ) := by
  unfold pRc at h
  cases r with
  | none => cases h
  | some a =>
    simp only at h
    by_cases hk : mK μ a = c + 1
    · rw [if_pos hk] at h
      exact ⟨a, rfl, hk, (Option.some.inj h).symm⟩
    · rw [if_neg hk] at h
      cases h
theorem pArr_some {k : Nat} {r : Option Nat} {μ : Mem} {q : Nat × Mem} (h : pArr k r μ = some q) : ∃ a, r = some a ∧ mK μ a = k ∧ q = (a, μ) := by
  unfold pArr at h
  cases r with
  | none => cases h
  | some a =>
    simp only at h
    by_cases hk : mK μ a = k
    · rw [if_pos hk] at h
      exact ⟨a, rfl, hk, (Option.some.inj h).symm⟩
    · rw [if_neg hk] at h
      cases h
/-- reading a field -/
theorem wd_get {Γ : Gam} {μ : Mem} {H : Heap} {y : Mth} {p : Program} {l : Launch} {e : Env} {R : Room} {s : State} {m : MethodId} {args : Array Value} {below : List Frame} {meth : Method} {c : Code} {locs : List Loc} {cells slots : Nat} {Q : State → Prop} {pc idx : Nat} {ls : Array Slot} {st : List Value} {cn k : Nat} {C : String} {T : u_T} {N a : Nat}
    (hc : Ctx Γ y p s m args meth c) (hD : Wd Γ μ H) (hF : FL y.1.cls idx cn k C T N) (hK : mK μ a = cn + 1) (hd : decode y.2.1 pc = .ok (.getfield idx, 3))
    (kk : W p l e R s m args below meth c H locs cells slots Q (F0 m (pc + 3) ls (fv μ cn a k :: st))) : W p l e R s m args below meth c H locs cells slots Q (F0 m pc ls (.ref a :: st)) := by
  obtain ⟨ref, hlink, hsame⟩ := fl_same hc.2.2.2.2.2.1 hF
  obtain ⟨⟨hcl, hin, -, -⟩, hk, -⟩ := hF
  have hat := ((hD.2.2 a (by rw [hK]; exact Nat.succ_ne_zero _)).1.2).1 cn _ hK hcl
  obtain ⟨cell, q1, q2, q3, q4⟩ := hat
  obtain ⟨hS, hfc, kC, hkC, hkind⟩ := hc.2.2.2.2.2.2.2.2.1.1.1 cn _ hcl
  obtain ⟨cf, kf, fi, f, hi, hsl⟩ := hS k hk
  refine W.getf hc.1 hc.2.1 hc.2.2.2.2.1 hlink (hsame _ hi) (u_facts hfc hkC (u_lays hc.2.2.2.2.2.1 hin hk) hi).1 q1 (by rw [q3]; exact fun h => by cases h) (v := fv μ cn a k) ?_ rfl rfl hd kk
  rw [hsl, q4 k hk]
theorem ok_gI {α : Type} {Γ : Gam} {y : Mth} {d : Nat} {rv : α → Option Value} {pc : Nat} {lv : List (Nat × Value)} {st : List Value} {F : Int32 → M α} {r : Option Nat} {idx cn k : Nat} {C : String} {T : u_T} {N : Nat} (hF : FL y.1.cls idx cn k C T N) (hf : fty cn k = 0) (hd : decode y.2.1 pc = .ok (.getfield idx, 3)) (kk : ∀ x : Int32, Ok Γ y d rv (pc + 3) lv ((.int x) :: st) (F x)) : Ok Γ y d rv pc lv (va_rf r :: st) (bn (gI cn k r) F) := by
  intro μ w μ' h
  obtain ⟨u, μ1, h1, h2⟩ := bn_some h
  obtain ⟨a, μ2, h3, h4⟩ := bn_some h1
  obtain ⟨a', rfl, hK, e⟩ := pRc_some h3
  cases e
  cases h4
  refine ⟨(kk _ μ w μ' h2).1, ?_⟩
  intro p e s m args below meth c x0 s0 H locs ls hc g1 g2 hS hD hl
  refine wd_get hc hD hF hK hd ?_
  have he : fv μ cn a k = .int (mI μ (64 * cn + k) a) := by simp [fv, hf]
  rw [he]
  exact (kk _ μ w μ' h2).2 p e s m args below meth c x0 s0 H locs ls hc g1 g2 hS hD hl
theorem ok_gZ {α : Type} {Γ : Gam} {y : Mth} {d : Nat} {rv : α → Option Value} {pc : Nat} {lv : List (Nat × Value)} {st : List Value} {F : Int32 → M α} {r : Option Nat} {idx cn k : Nat} {C : String} {T : u_T} {N : Nat} (hF : FL y.1.cls idx cn k C T N) (hf : fty cn k = 3) (hd : decode y.2.1 pc = .ok (.getfield idx, 3)) (kk : ∀ x : Int32, Ok Γ y d rv (pc + 3) lv ((.int x) :: st) (F x)) : Ok Γ y d rv pc lv (va_rf r :: st) (bn (gI cn k r) F) := by
  intro μ w μ' h
  obtain ⟨u, μ1, h1, h2⟩ := bn_some h
  obtain ⟨a, μ2, h3, h4⟩ := bn_some h1
  obtain ⟨a', rfl, hK, e⟩ := pRc_some h3
  cases e
  cases h4
  refine ⟨(kk _ μ w μ' h2).1, ?_⟩
  intro p e s m args below meth c x0 s0 H locs ls hc g1 g2 hS hD hl
  refine wd_get hc hD hF hK hd ?_
  have he : fv μ cn a k = .int (mI μ (64 * cn + k) a) := by simp [fv, hf]
  rw [he]
  exact (kk _ μ w μ' h2).2 p e s m args below meth c x0 s0 H locs ls hc g1 g2 hS hD hl
theorem ok_gL {α : Type} {Γ : Gam} {y : Mth} {d : Nat} {rv : α → Option Value} {pc : Nat} {lv : List (Nat × Value)} {st : List Value} {F : Int64 → M α} {r : Option Nat} {idx cn k : Nat} {C : String} {T : u_T} {N : Nat} (hF : FL y.1.cls idx cn k C T N) (hf : fty cn k = 1) (hd : decode y.2.1 pc = .ok (.getfield idx, 3)) (kk : ∀ x : Int64, Ok Γ y d rv (pc + 3) lv ((.long x) :: st) (F x)) : Ok Γ y d rv pc lv (va_rf r :: st) (bn (gLg cn k r) F) := by
  intro μ w μ' h
  obtain ⟨u, μ1, h1, h2⟩ := bn_some h
  obtain ⟨a, μ2, h3, h4⟩ := bn_some h1
  obtain ⟨a', rfl, hK, e⟩ := pRc_some h3
  cases e
  cases h4
  refine ⟨(kk _ μ w μ' h2).1, ?_⟩
  intro p e s m args below meth c x0 s0 H locs ls hc g1 g2 hS hD hl
  refine wd_get hc hD hF hK hd ?_
  have he : fv μ cn a k = .long (mL μ (64 * cn + k) a) := by simp [fv, hf]
  rw [he]
  exact (kk _ μ w μ' h2).2 p e s m args below meth c x0 s0 H locs ls hc g1 g2 hS hD hl
theorem ok_gP {α : Type} {Γ : Gam} {y : Mth} {d : Nat} {rv : α → Option Value} {pc : Nat} {lv : List (Nat × Value)} {st : List Value} {F : Option Nat → M α} {r : Option Nat} {idx cn k : Nat} {C : String} {T : u_T} {N : Nat} (hF : FL y.1.cls idx cn k C T N) (hf : fty cn k = 2) (hd : decode y.2.1 pc = .ok (.getfield idx, 3)) (kk : ∀ x : Option Nat, Ok Γ y d rv (pc + 3) lv ((va_rf x) :: st) (F x)) : Ok Γ y d rv pc lv (va_rf r :: st) (bn (gP cn k r) F) := by
  intro μ w μ' h
  obtain ⟨u, μ1, h1, h2⟩ := bn_some h
  obtain ⟨a, μ2, h3, h4⟩ := bn_some h1
  obtain ⟨a', rfl, hK, e⟩ := pRc_some h3
  cases e
  cases h4
  refine ⟨(kk _ μ w μ' h2).1, ?_⟩
  intro p e s m args below meth c x0 s0 H locs ls hc g1 g2 hS hD hl
  refine wd_get hc hD hF hK hd ?_
  have he : fv μ cn a k = va_rf (mP μ (64 * cn + k) a) := by simp [fv, hf]
  rw [he]
  exact (kk _ μ w μ' h2).2 p e s m args below meth c x0 s0 H locs ls hc g1 g2 hS hD hl
end
section
/-- a field is written: the world behind it -/
theorem wd_fput {Γ : Gam} {μ μ' : Mem} {H H' : Heap} {a cn k : Nat} {C : String} {T : u_T} {N : Nat} {v : Value} {cell : Cell} (hD : Wd Γ μ H) (hK : mK μ a = cn + 1) (hcl : vcl[cn]? = some (C, T, N)) (hk : k < N)
    (hap : ∀ x y, x < N → y < N → x ≠ y → ((gD Γ).2 cn) x ≠ ((gD Γ).2 cn) y) (q2 : cell.cls = (gD Γ).1 cn) (q3 : cell.vm = .none) (q4 : ∀ k, k < N → cell.slots[(gD Γ).2 cn k]? = some (fv μ cn a k))
    (e1 : H'[a]? = some (cell.setSlot ((gD Γ).2 cn k) v)) (e2 : H'.size = H.size) (e3 : ∀ q, q ≠ a → H'[q]? = H[q]?)
    (m1 : mK μ' = mK μ) (m2 : mN μ' = mN μ) (m3 : mX μ' = mX μ) (m5 : mT μ' = mT μ) (m4 : ev μ' = ev μ) (hf : ∀ c b j, b ≠ a → fv μ' c b j = fv μ c b j) (hf2 : ∀ j, j ≠ k → fv μ' cn a j = fv μ cn a j) (hv : fv μ' cn a k = v) : Wd Γ μ' H' := by
  refine ⟨by rw [e2, m3]; exact hD.1, m5.trans hD.2.1, fun b hb => ?_⟩
  rw [m1] at hb
  obtain ⟨⟨hlt, hat⟩, hbase⟩ := hD.2.2 b hb
  refine ⟨⟨by rw [e2]; exact hlt, ?_⟩, by rw [m1]; exact hbase⟩
  by_cases hba : b = a
  · subst hba
    refine ⟨fun c q hc hq => ?_, fun h => ?_⟩
    · rw [m1, hK] at hc
      have hcc : cn = c := Nat.succ.inj hc
      subst hcc
      rw [hcl] at hq
      cases hq
      refine t_OB.to (V := updV (fv μ cn b) k v) ⟨_, e1, q2, q3, t_set q4 hap hk v⟩ (fun j _ => ?_)
      by_cases hj : j = k
      · subst hj; simp [updV, hv]
      · simp [updV, hj, hf2 j hj]
    · rw [m1, hK] at h
      have hl : cn < vcl.length := (List.getElem?_eq_some_iff.mp hcl).1
      have h14 : vcl.length = 14 := rfl
      omega
  · refine ⟨fun c q hc hq => ?_, fun h => ?_⟩
    · rw [m1] at hc
      exact ((hat.1 c q hc hq).kept (e3 b hba)).to (fun j _ => (hf c b j hba).symm)
    · rw [e3 b hba, m1, m2, m4]
      rw [m1] at h
      exact hat.2 h
theorem up2_ne {α : Type} {m : Nat → Nat → α} {f a g b : Nat} {v : α} (h : b ≠ a ∨ g ≠ f) : up2 m f a v g b = m g b := by
  unfold up2
  rw [if_neg]
  rintro ⟨rfl, rfl⟩
  rcases h with h | h <;> exact h rfl
theorem up2_eq {α : Type} {m : Nat → Nat → α} {f a : Nat} {v : α} : up2 m f a v f a = v := by
  unfold up2
  rw [if_pos ⟨rfl, rfl⟩]
/-- writing a field, one that isn't final, or a final one in its own constructor -/
theorem wd_put {Γ : Gam} {μ μ' : Mem} {H : Heap} {y : Mth} {p : Program} {l : Launch} {e : Env} {R : Room} {s : State} {m : MethodId} {args : Array Value} {below : List Frame} {meth : Method} {c : Code} {locs : List Loc} {cells slots : Nat} {Q : State → Prop} {pc idx : Nat} {ls : Array Slot} {st : List Value} {cn k : Nat} {C : String} {T : u_T} {N a : Nat} {v : Value} {ty : FieldType}
    (hc : Ctx Γ y p s m args meth c) (hS0 : va_S (fun q => gB Γ ≤ q) s.heap H locs) (hD : Wd Γ μ H) (hF : FL y.1.cls idx cn k C T N) (hfin : (T k).2.2.2 = false ∨ ((T k).2.2.2 = true ∧ y.1.name = "<init>" ∧ (T k).1 = y.1.cls)) (hK : mK μ a = cn + 1) (hty : parseFieldDescriptor (T k).2.2.1 = some ty) (hn : narrow ty v = v) (hfit : fits ty v = true) (hd : decode y.2.1 pc = .ok (.putfield idx, 3))
    (m1 : mK μ' = mK μ) (m2 : mN μ' = mN μ) (m3 : mX μ' = mX μ) (m5 : mT μ' = mT μ) (m4 : ev μ' = ev μ) (hf : ∀ c b j, b ≠ a → fv μ' c b j = fv μ c b j) (hf2 : ∀ j, j ≠ k → fv μ' cn a j = fv μ cn a j) (hv : fv μ' cn a k = v)
    (kk : ∀ (H' : Heap) (locs' : List Loc), Wd Γ μ' H' → va_S (fun q => gB Γ ≤ q) s.heap H' locs' → W p l e R s m args below meth c H' locs' cells slots Q (F0 m (pc + 3) ls st)) : W p l e R s m args below meth c H locs cells slots Q (F0 m pc ls (v :: .ref a :: st)) := by
  have hts := hc.2.2.2.2.2.1
  obtain ⟨ref, hlink, hsame⟩ := fl_same hts hF
  obtain ⟨⟨hcl, hin, ⟨ty0, hty0⟩, hnm⟩, hk, -⟩ := hF
  have hKK := hc.2.2.2.2.2.2.2.2.1.1
  have hap := va_apart (own := y.1.cls) hts hin ty0 hty0 hnm hKK hcl
  have hb0 := hD.2.2 a (by rw [hK]; exact Nat.succ_ne_zero _)
  obtain ⟨cell, q1, q2, q3, q4⟩ := hb0.1.2.1 cn _ hK hcl
  have hba : gB Γ ≤ a := hb0.2 (by
    have hl : cn < vcl.length := (List.getElem?_eq_some_iff.mp hcl).1
    have h14 : vcl.length = 14 := rfl
    omega)
  obtain ⟨hS, hfc, kC, hkC, hkind⟩ := hKK.1 cn _ hcl
  obtain ⟨cf, kf, fi, f, hi, hsl⟩ := hS k hk
  have hlay := hts _ (hin _ (u_in_lay hk))
  unfold u_lay at hlay
  have hst := (u_facts hfc hkC (u_lays hts hin hk) hi).1
  rcases hfin with hfin | ⟨hfin, hinit, hdecl⟩
  · rw [if_neg (by rw [hfin]; decide)] at hlay
    have h6 := u_store hfc hkC hkind hlay hi hty hn hfit
    refine W.putK hc.1 hc.2.1 (f := f) ⟨hc.2.2.2.2.1, hlink, ⟨_, _, _, hsame _ hi⟩, hst⟩ (by rw [q2]; exact h6) q1 q3 (by rw [hsl]; exact k2_hasslot (q4 k hk)) rfl rfl hd fun H' e1 e2 e3 => ?_
    rw [hsl] at e1 ⊢
    exact kk H' _ (wd_fput hD hK hcl hk hap q2 q3 q4 e1 e2 e3 m1 m2 m3 m5 m4 hf hf2 hv) (hS0.put e2 e3 hba)
  · rw [if_pos hfin] at hlay
    have hcf : m.cls = cf := by
      obtain ⟨_, _, c', _, _, _, -, -, hf', -, -, -, hown2, -⟩ := Cond.laysFinal_spec hlay
      have e1 : c' = cf := by have := hi.symm.trans hf'; simp at this; exact this.1.symm
      rw [hdecl] at hown2
      rw [← e1]; exact Option.some.inj (hc.2.2.2.2.1.symm.trans hown2)
    have h6 := u_fits hfc hkC hkind (Or.inr hlay) hi hty hn hfit
    refine W.putFinK hc.1 hc.2.1 hc.2.2.2.2.1 hlink (hsame _ hi) hst hcf (hc.2.2.2.2.2.2.2.1.trans hinit) (by rw [q2]; exact h6) q1 q3 (by rw [hsl]; exact k2_hasslot (q4 k hk)) rfl rfl hd fun H' e1 e2 e3 => ?_
    rw [hsl] at e1 ⊢
    exact kk H' _ (wd_fput hD hK hcl hk hap q2 q3 q4 e1 e2 e3 m1 m2 m3 m5 m4 hf hf2 hv) (hS0.put e2 e3 hba)
theorem fid_ne {c k c' k' : Nat} (hk : k < 64) (hk' : k' < 64) (h : c' ≠ c ∨ k' ≠ k) : 64 * c' + k' ≠ 64 * c + k := by omega
theorem ok_wI {α : Type} {Γ : Gam} {y : Mth} {d : Nat} {rv : α → Option Value} {pc : Nat} {lv : List (Nat × Value)} {st : List Value} {F : M α} {r : Option Nat} {x : Int32} {idx cn k : Nat} {C : String} {T : u_T} {N : Nat} (hF : FL y.1.cls idx cn k C T N) (hfin : (T k).2.2.2 = false ∨ ((T k).2.2.2 = true ∧ y.1.name = "<init>" ∧ (T k).1 = y.1.cls)) (hty : parseFieldDescriptor (T k).2.2.1 = some .int) (hN : k < 64) (hf : fty cn k = 0) (hd : decode y.2.1 pc = .ok (.putfield idx, 3)) (kk : Ok Γ y d rv (pc + 3) lv st F) : Ok Γ y d rv pc lv (.int x :: va_rf r :: st) (bn (wI cn k r x) fun _ => F) := by
  intro μ w μ' h
  obtain ⟨u, μ1, h1, h2⟩ := bn_some h
  obtain ⟨a, μ2, h3, h4⟩ := bn_some h1
  obtain ⟨a', rfl, hK, e⟩ := pRc_some h3
  cases e
  cases h4
  refine ⟨(kk _ w μ' h2).1, ?_⟩
  intro p e s m args below meth c x0 s0 H locs ls hc g1 g2 hS hD hl
  refine wd_put (μ' := sI μ (64 * cn + k) a x) hc hS hD hF hfin hK hty rfl rfl hd rfl rfl rfl rfl rfl (fun c b j hb => ?_) (fun j hj => ?_) ?_ (fun H' locs' hD' hS' => (kk _ w μ' h2).2 p e s m args below meth c x0 s0 H' locs' ls hc g1 g2 hS' hD' hl)
  · show (if fty c j = 1 then _ else _) = _
    unfold fv
    simp only [sI, mI, mL, mP, up2_ne (Or.inl hb)]
  · have hz : ∀ {β : Type} (m : Nat → Nat → β) (v : β), up2 m (64 * cn + k) a v (64 * cn + j) a = m (64 * cn + j) a := fun m v => up2_ne (Or.inr (by omega))
    unfold fv
    simp only [sI, mI, mL, mP, hz]
  · unfold fv
    simp [hf, sI, mI, mL, mP, up2_eq]
theorem ok_wL {α : Type} {Γ : Gam} {y : Mth} {d : Nat} {rv : α → Option Value} {pc : Nat} {lv : List (Nat × Value)} {st : List Value} {F : M α} {r : Option Nat} {x : Int64} {idx cn k : Nat} {C : String} {T : u_T} {N : Nat} (hF : FL y.1.cls idx cn k C T N) (hfin : (T k).2.2.2 = false ∨ ((T k).2.2.2 = true ∧ y.1.name = "<init>" ∧ (T k).1 = y.1.cls)) (hty : parseFieldDescriptor (T k).2.2.1 = some .long) (hN : k < 64) (hf : fty cn k = 1) (hd : decode y.2.1 pc = .ok (.putfield idx, 3)) (kk : Ok Γ y d rv (pc + 3) lv st F) : Ok Γ y d rv pc lv (.long x :: va_rf r :: st) (bn (wL cn k r x) fun _ => F) := by
  intro μ w μ' h
  obtain ⟨u, μ1, h1, h2⟩ := bn_some h
  obtain ⟨a, μ2, h3, h4⟩ := bn_some h1
  obtain ⟨a', rfl, hK, e⟩ := pRc_some h3
  cases e
  cases h4
  refine ⟨(kk _ w μ' h2).1, ?_⟩
  intro p e s m args below meth c x0 s0 H locs ls hc g1 g2 hS hD hl
  refine wd_put (μ' := sL μ (64 * cn + k) a x) hc hS hD hF hfin hK hty rfl rfl hd rfl rfl rfl rfl rfl (fun c b j hb => ?_) (fun j hj => ?_) ?_ (fun H' locs' hD' hS' => (kk _ w μ' h2).2 p e s m args below meth c x0 s0 H' locs' ls hc g1 g2 hS' hD' hl)
  · show (if fty c j = 1 then _ else _) = _
    unfold fv
    simp only [sL, mI, mL, mP, up2_ne (Or.inl hb)]
  · have hz : ∀ {β : Type} (m : Nat → Nat → β) (v : β), up2 m (64 * cn + k) a v (64 * cn + j) a = m (64 * cn + j) a := fun m v => up2_ne (Or.inr (by omega))
    unfold fv
    simp only [sL, mI, mL, mP, hz]
  · unfold fv
    simp [hf, sL, mI, mL, mP, up2_eq]
theorem ok_wP {α : Type} {Γ : Gam} {y : Mth} {d : Nat} {rv : α → Option Value} {pc : Nat} {lv : List (Nat × Value)} {st : List Value} {F : M α} {r : Option Nat} {x : Option Nat} {idx cn k : Nat} {C : String} {T : u_T} {N : Nat} (hF : FL y.1.cls idx cn k C T N) (hfin : (T k).2.2.2 = false ∨ ((T k).2.2.2 = true ∧ y.1.name = "<init>" ∧ (T k).1 = y.1.cls)) {ty : FieldType} (hty : parseFieldDescriptor (T k).2.2.1 = some ty) (hrf : ∀ r : Option Nat, narrow ty (va_rf r) = va_rf r ∧ fits ty (va_rf r) = true) (hN : k < 64) (hf : fty cn k = 2) (hd : decode y.2.1 pc = .ok (.putfield idx, 3)) (kk : Ok Γ y d rv (pc + 3) lv st F) : Ok Γ y d rv pc lv (va_rf x :: va_rf r :: st) (bn (wP cn k r x) fun _ => F) := by
  intro μ w μ' h
  obtain ⟨u, μ1, h1, h2⟩ := bn_some h
  obtain ⟨a, μ2, h3, h4⟩ := bn_some h1
  obtain ⟨a', rfl, hK, e⟩ := pRc_some h3
  cases e
  cases h4
  refine ⟨(kk _ w μ' h2).1, ?_⟩
  intro p e s m args below meth c x0 s0 H locs ls hc g1 g2 hS hD hl
  refine wd_put (μ' := sP μ (64 * cn + k) a x) hc hS hD hF hfin hK hty (hrf x).1 (hrf x).2 hd rfl rfl rfl rfl rfl (fun c b j hb => ?_) (fun j hj => ?_) ?_ (fun H' locs' hD' hS' => (kk _ w μ' h2).2 p e s m args below meth c x0 s0 H' locs' ls hc g1 g2 hS' hD' hl)
  · show (if fty c j = 1 then _ else _) = _
    unfold fv
    simp only [sP, mI, mL, mP, up2_ne (Or.inl hb)]
  · have hz : ∀ {β : Type} (m : Nat → Nat → β) (v : β), up2 m (64 * cn + k) a v (64 * cn + j) a = m (64 * cn + j) a := fun m v => up2_ne (Or.inr (by omega))
    unfold fv
    simp only [sP, mI, mL, mP, hz]
  · unfold fv
    simp [hf, sP, mI, mL, mP, up2_eq]
theorem ok_wZ {α : Type} {Γ : Gam} {y : Mth} {d : Nat} {rv : α → Option Value} {pc : Nat} {lv : List (Nat × Value)} {st : List Value} {F : M α} {r : Option Nat} {x : Int32} {idx cn k : Nat} {C : String} {T : u_T} {N : Nat} (hF : FL y.1.cls idx cn k C T N) (hfin : (T k).2.2.2 = false ∨ ((T k).2.2.2 = true ∧ y.1.name = "<init>" ∧ (T k).1 = y.1.cls)) (hty : parseFieldDescriptor (T k).2.2.1 = some .boolean) (hN : k < 64) (hf : fty cn k = 3) (hd : decode y.2.1 pc = .ok (.putfield idx, 3)) (kk : Ok Γ y d rv (pc + 3) lv st F) : Ok Γ y d rv pc lv (.int x :: va_rf r :: st) (bn (wZ cn k r x) fun _ => F) := by
  intro μ w μ' h
  obtain ⟨u, μ1, h1, h2⟩ := bn_some h
  obtain ⟨a, μ2, h3, h4⟩ := bn_some h1
  obtain ⟨a', rfl, hK, e⟩ := pRc_some h3
  cases e
  by_cases hx : x = 0 ∨ x = 1
  case neg => simp only [if_neg hx] at h4; cases h4
  simp only [if_pos hx] at h4
  cases h4
  refine ⟨(kk _ w μ' h2).1, ?_⟩
  intro p e s m args below meth c x0 s0 H locs ls hc g1 g2 hS hD hl
  refine wd_put (μ' := sI μ (64 * cn + k) a x) hc hS hD hF hfin hK hty (nar_z hx) (by rcases hx with rfl | rfl <;> rfl) hd rfl rfl rfl rfl rfl (fun c b j hb => ?_) (fun j hj => ?_) ?_ (fun H' locs' hD' hS' => (kk _ w μ' h2).2 p e s m args below meth c x0 s0 H' locs' ls hc g1 g2 hS' hD' hl)
  · show (if fty c j = 1 then _ else _) = _
    unfold fv
    simp only [sI, mI, mL, mP, up2_ne (Or.inl hb)]
  · have hz : ∀ {β : Type} (m : Nat → Nat → β) (v : β), up2 m (64 * cn + k) a v (64 * cn + j) a = m (64 * cn + j) a := fun m v => up2_ne (Or.inr (by omega))
    unfold fv
    simp only [sI, mI, mL, mP, hz]
  · unfold fv
    simp [hf, sI, mI, mL, mP, up2_eq]
end
section
/-- an array of kind k -/
theorem wd_arr {Γ : Gam} {μ : Mem} {H : Heap} {a k : Nat} (hD : Wd Γ μ H) (hk : 64 ≤ k) (hK : mK μ a = k) : H[a]? = some (arrV (gA Γ (k % 8)) (mN μ a) (ev μ a)) := by
  have h := (hD.2.2 a (by omega)).1.2.2 (by omega)
  rw [hK] at h
  exact h
theorem tys_at {f : Nat → ClassId} {j : Nat} {ty : FieldType} (h : (tysA f)[j]? = some (f j, ty)) {Γ : Gam} (hf : f = gA Γ) {s : State} (hK : va_K (gD Γ) vcl (tysA (gA Γ)) s) : ArrOfT s (gA Γ j) ty ∧ va_RA s (gA Γ j) ty := by
  subst hf
  exact hK.2 j _ h
/-- an array is written: the world behind it -/
theorem wd_aput {Γ : Gam} {μ μ' : Mem} {H H' : Heap} {a k : Nat} (hD : Wd Γ μ H) (hk : 64 ≤ k) (hK : mK μ a = k)
    (e1 : H'[a]? = some (arrV (gA Γ (k % 8)) (mN μ a) (ev μ' a))) (e2 : H'.size = H.size) (e3 : ∀ q, q ≠ a → H'[q]? = H[q]?)
    (m1 : mK μ' = mK μ) (m2 : mN μ' = mN μ) (m3 : mX μ' = mX μ) (m5 : mT μ' = mT μ) (hf : fv μ' = fv μ) (he : ∀ b, b ≠ a → ev μ' b = ev μ b) : Wd Γ μ' H' := by
  refine ⟨by rw [e2, m3]; exact hD.1, m5.trans hD.2.1, fun b hb => ?_⟩
  rw [m1] at hb
  obtain ⟨⟨hlt, hat⟩, hbase⟩ := hD.2.2 b hb
  refine ⟨⟨by rw [e2]; exact hlt, ?_⟩, by rw [m1]; exact hbase⟩
  by_cases hba : b = a
  · subst hba
    refine ⟨fun c q hc hq => ?_, fun h => ?_⟩
    · rw [m1, hK] at hc
      have hl : c < vcl.length := (List.getElem?_eq_some_iff.mp hq).1
      have h14 : vcl.length = 14 := rfl
      omega
    · rw [e1, m1, m2, hK]
  · refine ⟨fun c q hc hq => ?_, fun h => ?_⟩
    · rw [m1] at hc
      rw [hf]
      exact (hat.1 c q hc hq).kept (e3 b hba)
    · rw [e3 b hba, m1, m2, he b hba]
      rw [m1] at h
      exact hat.2 h
theorem up3_ne {α : Type} {m : Nat → Nat → Nat → α} {f a i g b j : Nat} {v : α} (h : b ≠ a ∨ j ≠ i) : up3 m f a i v g b j = m g b j := by
  unfold up3
  rw [if_neg]
  rintro ⟨-, rfl, rfl⟩
  rcases h with h | h <;> exact h rfl
theorem up3_eq {α : Type} {m : Nat → Nat → Nat → α} {f a i : Nat} {v : α} : up3 m f a i v f a i = v := by
  unfold up3
  rw [if_pos ⟨rfl, rfl, rfl⟩]
theorem arr_base {Γ : Gam} {μ : Mem} {H : Heap} {a k : Nat} (hD : Wd Γ μ H) (hk : 64 ≤ k) (h76 : k ≠ 76) (hK : mK μ a = k) : gB Γ ≤ a := (hD.2.2 a (by omega)).2 (by omega)
theorem ok_len {α : Type} {Γ : Gam} {y : Mth} {d : Nat} {rv : α → Option Value} {pc : Nat} {lv : List (Nat × Value)} {st : List Value} {F : Int32 → M α} {r : Option Nat} (hd : decode y.2.1 pc = .ok (.arraylength, 1)) (kk : ∀ x : Int32, Ok Γ y d rv (pc + 1) lv (.int x :: st) (F x)) : Ok Γ y d rv pc lv (va_rf r :: st) (bn (len r) F) := by
  intro μ w μ' h
  obtain ⟨u, μ1, h1, h2⟩ := bn_some h
  unfold len at h1
  cases r with
  | none => cases h1
  | some a =>
    simp only at h1
    by_cases hk : 64 ≤ mK μ a
    case neg => rw [if_neg hk] at h1; cases h1
    rw [if_pos hk] at h1
    cases h1
    refine ⟨(kk _ μ w μ' h2).1, ?_⟩
    intro p e s m args below meth c x0 s0 H locs ls hc g1 g2 hS hD hl
    have hb0 := (hD.2.2 a (by omega)).1.2.2 hk
    have hty : ∃ ty, ArrOfT s (gA Γ (mK μ a % 8)) ty := by
      have hK := hc.2.2.2.2.2.2.2.2.1.1.2
      have h8 : mK μ a % 8 < 8 := Nat.mod_lt _ (by decide)
      rcases (show mK μ a % 8 = 0 ∨ mK μ a % 8 = 1 ∨ mK μ a % 8 = 2 ∨ mK μ a % 8 = 3 ∨ mK μ a % 8 = 4 ∨ mK μ a % 8 = 5 ∨ mK μ a % 8 = 6 ∨ mK μ a % 8 = 7 by omega) with e | e | e | e | e | e | e | e <;> rw [e]
      · exact ⟨_, (hK 0 _ rfl).1⟩
      · exact ⟨_, (hK 1 _ rfl).1⟩
      · exact ⟨_, (hK 2 _ rfl).1⟩
      · exact ⟨_, (hK 3 _ rfl).1⟩
      · exact ⟨_, (hK 4 _ rfl).1⟩
      · exact ⟨_, (hK 5 _ rfl).1⟩
      · exact ⟨_, (hK 6 _ rfl).1⟩
      · exact ⟨_, (hK 7 _ rfl).1⟩
    obtain ⟨ty, hty⟩ := hty
    exact W.alen hc.1 hc.2.1 hb0 (hty _ _) (by rw [arrV_size]) rfl rfl hd ((kk _ μ w μ' h2).2 p e s m args below meth c x0 s0 H locs ls hc g1 g2 hS hD hl)
theorem ok_lI {α : Type} {Γ : Gam} {y : Mth} {d : Nat} {rv : α → Option Value} {pc : Nat} {lv : List (Nat × Value)} {st : List Value} {F : Int32 → M α} {r : Option Nat} {i : Int32} {kd : Nat} (hk : 64 ≤ kd) (hj : kd % 8 = 0) (hd : decode y.2.1 pc = .ok (.iaload, 1)) (kk : ∀ x : Int32, Ok Γ y d rv (pc + 1) lv (.int x :: st) (F x)) : Ok Γ y d rv pc lv (.int i :: va_rf r :: st) (bn (lI kd r i) F) := by
  intro μ w μ' h
  obtain ⟨u, μ1, h1, h2⟩ := bn_some h
  obtain ⟨a, μ2, h3, h4⟩ := bn_some h1
  obtain ⟨a', rfl, hK, e⟩ := pArr_some h3
  cases e
  by_cases hin : ¬ (i < 0 ∨ mN μ a ≤ i.toNatClampNeg)
  case neg => simp only [if_neg hin] at h4; cases h4
  simp only [if_pos hin] at h4
  cases h4
  refine ⟨(kk _ μ w μ' h2).1, ?_⟩
  intro p e s m args below meth c x0 s0 H locs ls hc g1 g2 hS hD hl
  have hcell := wd_arr hD hk hK
  rw [hj] at hcell
  have hA := (hc.2.2.2.2.2.2.2.2.1.1.2 0 _ rfl).1
  have hev : ev μ a i.toNatClampNeg = .int (aI μ kd a i.toNatClampNeg) := by simp [ev, hK, hj]
  refine W.iald (v := .int (aI μ kd a i.toNatClampNeg)) hc.1 hc.2.1 hcell (hA _ _)  (fun q => by cases q) (by rw [arrV_size]; exact hin) (by rw [arrV_read _ _ (Nat.not_le.mp fun q => hin (Or.inr q)), hev]) rfl rfl hd ((kk _ μ w μ' h2).2 p e s m args below meth c x0 s0 H locs ls hc g1 g2 hS hD hl)
theorem ok_lZ {α : Type} {Γ : Gam} {y : Mth} {d : Nat} {rv : α → Option Value} {pc : Nat} {lv : List (Nat × Value)} {st : List Value} {F : Int32 → M α} {r : Option Nat} {i : Int32} {kd : Nat} (hk : 64 ≤ kd) (hj : kd % 8 = 2) (hd : decode y.2.1 pc = .ok (.baload, 1)) (kk : ∀ x : Int32, Ok Γ y d rv (pc + 1) lv (.int x :: st) (F x)) : Ok Γ y d rv pc lv (.int i :: va_rf r :: st) (bn (lI kd r i) F) := by
  intro μ w μ' h
  obtain ⟨u, μ1, h1, h2⟩ := bn_some h
  obtain ⟨a, μ2, h3, h4⟩ := bn_some h1
  obtain ⟨a', rfl, hK, e⟩ := pArr_some h3
  cases e
  by_cases hin : ¬ (i < 0 ∨ mN μ a ≤ i.toNatClampNeg)
  case neg => simp only [if_neg hin] at h4; cases h4
  simp only [if_pos hin] at h4
  cases h4
  refine ⟨(kk _ μ w μ' h2).1, ?_⟩
  intro p e s m args below meth c x0 s0 H locs ls hc g1 g2 hS hD hl
  have hcell := wd_arr hD hk hK
  rw [hj] at hcell
  have hA := (hc.2.2.2.2.2.2.2.2.1.1.2 2 _ rfl).1
  have hev : ev μ a i.toNatClampNeg = .int (aI μ kd a i.toNatClampNeg) := by simp [ev, hK, hj]
  refine W.zald (v := .int (aI μ kd a i.toNatClampNeg)) hc.1 hc.2.1 hcell (hA _ _)  (fun q => by cases q) (by rw [arrV_size]; exact hin) (by rw [arrV_read _ _ (Nat.not_le.mp fun q => hin (Or.inr q)), hev]) rfl rfl hd ((kk _ μ w μ' h2).2 p e s m args below meth c x0 s0 H locs ls hc g1 g2 hS hD hl)
theorem ok_lC {α : Type} {Γ : Gam} {y : Mth} {d : Nat} {rv : α → Option Value} {pc : Nat} {lv : List (Nat × Value)} {st : List Value} {F : Int32 → M α} {r : Option Nat} {i : Int32} {kd : Nat} (hk : 64 ≤ kd) (hj : kd % 8 = 3) (hd : decode y.2.1 pc = .ok (.caload, 1)) (kk : ∀ x : Int32, Ok Γ y d rv (pc + 1) lv (.int x :: st) (F x)) : Ok Γ y d rv pc lv (.int i :: va_rf r :: st) (bn (lI kd r i) F) := by
  intro μ w μ' h
  obtain ⟨u, μ1, h1, h2⟩ := bn_some h
  obtain ⟨a, μ2, h3, h4⟩ := bn_some h1
  obtain ⟨a', rfl, hK, e⟩ := pArr_some h3
  cases e
  by_cases hin : ¬ (i < 0 ∨ mN μ a ≤ i.toNatClampNeg)
  case neg => simp only [if_neg hin] at h4; cases h4
  simp only [if_pos hin] at h4
  cases h4
  refine ⟨(kk _ μ w μ' h2).1, ?_⟩
  intro p e s m args below meth c x0 s0 H locs ls hc g1 g2 hS hD hl
  have hcell := wd_arr hD hk hK
  rw [hj] at hcell
  have hA := (hc.2.2.2.2.2.2.2.2.1.1.2 3 _ rfl).1
  have hev : ev μ a i.toNatClampNeg = .int (aI μ kd a i.toNatClampNeg) := by simp [ev, hK, hj]
  refine W.cald (v := .int (aI μ kd a i.toNatClampNeg)) hc.1 hc.2.1 hcell (hA _ _)  (fun q => by cases q) (by rw [arrV_size]; exact hin) (by rw [arrV_read _ _ (Nat.not_le.mp fun q => hin (Or.inr q)), hev]) rfl rfl hd ((kk _ μ w μ' h2).2 p e s m args below meth c x0 s0 H locs ls hc g1 g2 hS hD hl)
theorem ok_lL {α : Type} {Γ : Gam} {y : Mth} {d : Nat} {rv : α → Option Value} {pc : Nat} {lv : List (Nat × Value)} {st : List Value} {F : Int64 → M α} {r : Option Nat} {i : Int32} {kd : Nat} (hk : 64 ≤ kd) (hj : kd % 8 = 1) (hd : decode y.2.1 pc = .ok (.laload, 1)) (kk : ∀ x : Int64, Ok Γ y d rv (pc + 1) lv (.long x :: st) (F x)) : Ok Γ y d rv pc lv (.int i :: va_rf r :: st) (bn (lL kd r i) F) := by
  intro μ w μ' h
  obtain ⟨u, μ1, h1, h2⟩ := bn_some h
  obtain ⟨a, μ2, h3, h4⟩ := bn_some h1
  obtain ⟨a', rfl, hK, e⟩ := pArr_some h3
  cases e
  by_cases hin : ¬ (i < 0 ∨ mN μ a ≤ i.toNatClampNeg)
  case neg => simp only [if_neg hin] at h4; cases h4
  simp only [if_pos hin] at h4
  cases h4
  refine ⟨(kk _ μ w μ' h2).1, ?_⟩
  intro p e s m args below meth c x0 s0 H locs ls hc g1 g2 hS hD hl
  have hcell := wd_arr hD hk hK
  rw [hj] at hcell
  have hA := (hc.2.2.2.2.2.2.2.2.1.1.2 1 _ rfl).1
  have hev : ev μ a i.toNatClampNeg = .long (aL μ kd a i.toNatClampNeg) := by simp [ev, hK, hj]
  refine W.lald (v := .long (aL μ kd a i.toNatClampNeg)) hc.1 hc.2.1 hcell (hA _ _)  (fun q => by cases q) (by rw [arrV_size]; exact hin) (by rw [arrV_read _ _ (Nat.not_le.mp fun q => hin (Or.inr q)), hev]) rfl rfl hd ((kk _ μ w μ' h2).2 p e s m args below meth c x0 s0 H locs ls hc g1 g2 hS hD hl)
theorem ok_lP4 {α : Type} {Γ : Gam} {y : Mth} {d : Nat} {rv : α → Option Value} {pc : Nat} {lv : List (Nat × Value)} {st : List Value} {F : Option Nat → M α} {r : Option Nat} {i : Int32} {kd : Nat} (hk : 64 ≤ kd) (hj : kd % 8 = 4) (hd : decode y.2.1 pc = .ok (.aaload, 1)) (kk : ∀ x : Option Nat, Ok Γ y d rv (pc + 1) lv (va_rf x :: st) (F x)) : Ok Γ y d rv pc lv (.int i :: va_rf r :: st) (bn (lP kd r i) F) := by
  intro μ w μ' h
  obtain ⟨u, μ1, h1, h2⟩ := bn_some h
  obtain ⟨a, μ2, h3, h4⟩ := bn_some h1
  obtain ⟨a', rfl, hK, e⟩ := pArr_some h3
  cases e
  by_cases hin : ¬ (i < 0 ∨ mN μ a ≤ i.toNatClampNeg)
  case neg => simp only [if_neg hin] at h4; cases h4
  simp only [if_pos hin] at h4
  cases h4
  refine ⟨(kk _ μ w μ' h2).1, ?_⟩
  intro p e s m args below meth c x0 s0 H locs ls hc g1 g2 hS hD hl
  have hcell := wd_arr hD hk hK
  rw [hj] at hcell
  have hA := (hc.2.2.2.2.2.2.2.2.1.1.2 4 _ rfl).1
  have hev : ev μ a i.toNatClampNeg = va_rf (aP μ kd a i.toNatClampNeg) := by simp [ev, hK, hj]
  refine W.aald (v := va_rf (aP μ kd a i.toNatClampNeg)) hc.1 hc.2.1 hcell (hA _ _) rfl (fun q => by cases q) (by rw [arrV_size]; exact hin) (by rw [arrV_read _ _ (Nat.not_le.mp fun q => hin (Or.inr q)), hev]) rfl rfl hd ((kk _ μ w μ' h2).2 p e s m args below meth c x0 s0 H locs ls hc g1 g2 hS hD hl)
theorem ok_lP5 {α : Type} {Γ : Gam} {y : Mth} {d : Nat} {rv : α → Option Value} {pc : Nat} {lv : List (Nat × Value)} {st : List Value} {F : Option Nat → M α} {r : Option Nat} {i : Int32} {kd : Nat} (hk : 64 ≤ kd) (hj : kd % 8 = 5) (hd : decode y.2.1 pc = .ok (.aaload, 1)) (kk : ∀ x : Option Nat, Ok Γ y d rv (pc + 1) lv (va_rf x :: st) (F x)) : Ok Γ y d rv pc lv (.int i :: va_rf r :: st) (bn (lP kd r i) F) := by
  intro μ w μ' h
  obtain ⟨u, μ1, h1, h2⟩ := bn_some h
  obtain ⟨a, μ2, h3, h4⟩ := bn_some h1
  obtain ⟨a', rfl, hK, e⟩ := pArr_some h3
  cases e
  by_cases hin : ¬ (i < 0 ∨ mN μ a ≤ i.toNatClampNeg)
  case neg => simp only [if_neg hin] at h4; cases h4
  simp only [if_pos hin] at h4
  cases h4
  refine ⟨(kk _ μ w μ' h2).1, ?_⟩
  intro p e s m args below meth c x0 s0 H locs ls hc g1 g2 hS hD hl
  have hcell := wd_arr hD hk hK
  rw [hj] at hcell
  have hA := (hc.2.2.2.2.2.2.2.2.1.1.2 5 _ rfl).1
  have hev : ev μ a i.toNatClampNeg = va_rf (aP μ kd a i.toNatClampNeg) := by simp [ev, hK, hj]
  refine W.aald (v := va_rf (aP μ kd a i.toNatClampNeg)) hc.1 hc.2.1 hcell (hA _ _) rfl (fun q => by cases q) (by rw [arrV_size]; exact hin) (by rw [arrV_read _ _ (Nat.not_le.mp fun q => hin (Or.inr q)), hev]) rfl rfl hd ((kk _ μ w μ' h2).2 p e s m args below meth c x0 s0 H locs ls hc g1 g2 hS hD hl)
theorem ok_lP6 {α : Type} {Γ : Gam} {y : Mth} {d : Nat} {rv : α → Option Value} {pc : Nat} {lv : List (Nat × Value)} {st : List Value} {F : Option Nat → M α} {r : Option Nat} {i : Int32} {kd : Nat} (hk : 64 ≤ kd) (hj : kd % 8 = 6) (hd : decode y.2.1 pc = .ok (.aaload, 1)) (kk : ∀ x : Option Nat, Ok Γ y d rv (pc + 1) lv (va_rf x :: st) (F x)) : Ok Γ y d rv pc lv (.int i :: va_rf r :: st) (bn (lP kd r i) F) := by
  intro μ w μ' h
  obtain ⟨u, μ1, h1, h2⟩ := bn_some h
  obtain ⟨a, μ2, h3, h4⟩ := bn_some h1
  obtain ⟨a', rfl, hK, e⟩ := pArr_some h3
  cases e
  by_cases hin : ¬ (i < 0 ∨ mN μ a ≤ i.toNatClampNeg)
  case neg => simp only [if_neg hin] at h4; cases h4
  simp only [if_pos hin] at h4
  cases h4
  refine ⟨(kk _ μ w μ' h2).1, ?_⟩
  intro p e s m args below meth c x0 s0 H locs ls hc g1 g2 hS hD hl
  have hcell := wd_arr hD hk hK
  rw [hj] at hcell
  have hA := (hc.2.2.2.2.2.2.2.2.1.1.2 6 _ rfl).1
  have hev : ev μ a i.toNatClampNeg = va_rf (aP μ kd a i.toNatClampNeg) := by simp [ev, hK, hj]
  refine W.aald (v := va_rf (aP μ kd a i.toNatClampNeg)) hc.1 hc.2.1 hcell (hA _ _) rfl (fun q => by cases q) (by rw [arrV_size]; exact hin) (by rw [arrV_read _ _ (Nat.not_le.mp fun q => hin (Or.inr q)), hev]) rfl rfl hd ((kk _ μ w μ' h2).2 p e s m args below meth c x0 s0 H locs ls hc g1 g2 hS hD hl)
theorem ok_stI {α : Type} {Γ : Gam} {y : Mth} {d : Nat} {rv : α → Option Value} {pc : Nat} {lv : List (Nat × Value)} {st : List Value} {F : M α} {r : Option Nat} {i : Int32} {x : Int32} {kd : Nat} (hk : 64 ≤ kd) (hj : kd % 8 = 0) (hd : decode y.2.1 pc = .ok (.iastore, 1)) (kk : Ok Γ y d rv (pc + 1) lv st F) : Ok Γ y d rv pc lv (.int x :: .int i :: va_rf r :: st) (bn (stI kd r i x) fun _ => F) := by
  intro μ w μ' h
  obtain ⟨u, μ1, h1, h2⟩ := bn_some h
  obtain ⟨a, μ2, h3, h4⟩ := bn_some h1
  obtain ⟨a', rfl, hK, e⟩ := pArr_some h3
  cases e
  by_cases hin : ¬ (i < 0 ∨ mN μ a ≤ i.toNatClampNeg)
  case neg => simp only [if_neg hin] at h4; cases h4
  simp only [if_pos hin] at h4
  cases h4
  refine ⟨(kk _ w μ' h2).1, ?_⟩
  intro p e s m args below meth c x0 s0 H locs ls hc g1 g2 hS hD hl
  have hcell := wd_arr hD hk hK
  rw [hj] at hcell
  have hA := (hc.2.2.2.2.2.2.2.2.1.1.2 0 _ rfl).1
  refine W.iast hc.1 hc.2.1 hcell (hA _ _) (fun q => by cases q) (by rw [arrV_size]; exact hin) rfl rfl hd fun H' e1 e2 e3 => ?_
  have hD' : Wd Γ (tI μ kd a i.toNatClampNeg x) H' := by
    refine wd_aput hD hk hK ?_ e2 e3 rfl rfl rfl rfl rfl (fun b hb => ?_)
    · rw [e1, arrV_store, hj]
      congr 2
      funext q
      by_cases hq : q = i.toNatClampNeg
      · subst hq
        simp [updV, ev, hK, hj, mK_tI, aI_tI, aL_tI, aP_tI, up3_eq]
      · have hz : ∀ {β : Type} (m : Nat → Nat → Nat → β) (v : β), up3 m kd a i.toNatClampNeg v kd a q = m kd a q := fun m v => up3_ne (Or.inr hq)
        simp [updV, hq, ev, hK, hj, mK_tI, aI_tI, aL_tI, aP_tI, hz]
    · funext q
      have hz : ∀ {β : Type} (m : Nat → Nat → Nat → β) (v : β) (g : Nat), up3 m kd a i.toNatClampNeg v g b q = m g b q := fun m v g => up3_ne (Or.inl hb)
      simp only [ev, mK_tI, aI_tI, aL_tI, aP_tI, hz]
  exact (kk _ w μ' h2).2 p e s m args below meth c x0 s0 H' _ ls hc g1 g2 (hS.put e2 e3 (arr_base hD hk (by omega) hK)) hD' hl
theorem ok_stZ {α : Type} {Γ : Gam} {y : Mth} {d : Nat} {rv : α → Option Value} {pc : Nat} {lv : List (Nat × Value)} {st : List Value} {F : M α} {r : Option Nat} {i : Int32} {x : Int32} {kd : Nat} (hk : 64 ≤ kd) (hj : kd % 8 = 2) (hd : decode y.2.1 pc = .ok (.bastore, 1)) (kk : Ok Γ y d rv (pc + 1) lv st F) : Ok Γ y d rv pc lv (.int x :: .int i :: va_rf r :: st) (bn (stZ kd r i x) fun _ => F) := by
  intro μ w μ' h
  obtain ⟨u, μ1, h1, h2⟩ := bn_some h
  obtain ⟨a, μ2, h3, h4⟩ := bn_some h1
  obtain ⟨a', rfl, hK, e⟩ := pArr_some h3
  cases e
  by_cases hin : ¬ (i < 0 ∨ mN μ a ≤ i.toNatClampNeg) ∧ vp_nar .boolean x = x
  case neg => simp only [if_neg hin] at h4; cases h4
  simp only [if_pos hin] at h4
  cases h4
  refine ⟨(kk _ w μ' h2).1, ?_⟩
  intro p e s m args below meth c x0 s0 H locs ls hc g1 g2 hS hD hl
  have hcell := wd_arr hD hk hK
  rw [hj] at hcell
  have hA := (hc.2.2.2.2.2.2.2.2.1.1.2 2 _ rfl).1
  refine W.zast hc.1 hc.2.1 hcell (hA _ _) (fun q => by cases q) (by rw [arrV_size]; exact hin.1) rfl rfl hd fun H' e1 e2 e3 => ?_
  have hD' : Wd Γ (tI μ kd a i.toNatClampNeg x) H' := by
    rw [show narrow .boolean (.int x) = .int x from by have z := hin.2; unfold vp_nar at z; simp only [narrow] at z ⊢; rw [z]] at e1
    refine wd_aput hD hk hK ?_ e2 e3 rfl rfl rfl rfl rfl (fun b hb => ?_)
    · rw [e1, arrV_store, hj]
      congr 2
      funext q
      by_cases hq : q = i.toNatClampNeg
      · subst hq
        simp [updV, ev, hK, hj, mK_tI, aI_tI, aL_tI, aP_tI, up3_eq]
      · have hz : ∀ {β : Type} (m : Nat → Nat → Nat → β) (v : β), up3 m kd a i.toNatClampNeg v kd a q = m kd a q := fun m v => up3_ne (Or.inr hq)
        simp [updV, hq, ev, hK, hj, mK_tI, aI_tI, aL_tI, aP_tI, hz]
    · funext q
      have hz : ∀ {β : Type} (m : Nat → Nat → Nat → β) (v : β) (g : Nat), up3 m kd a i.toNatClampNeg v g b q = m g b q := fun m v g => up3_ne (Or.inl hb)
      simp only [ev, mK_tI, aI_tI, aL_tI, aP_tI, hz]
  exact (kk _ w μ' h2).2 p e s m args below meth c x0 s0 H' _ ls hc g1 g2 (hS.put e2 e3 (arr_base hD hk (by omega) hK)) hD' hl
theorem ok_stC {α : Type} {Γ : Gam} {y : Mth} {d : Nat} {rv : α → Option Value} {pc : Nat} {lv : List (Nat × Value)} {st : List Value} {F : M α} {r : Option Nat} {i : Int32} {x : Int32} {kd : Nat} (hk : 64 ≤ kd) (hj : kd % 8 = 3) (hd : decode y.2.1 pc = .ok (.castore, 1)) (kk : Ok Γ y d rv (pc + 1) lv st F) : Ok Γ y d rv pc lv (.int x :: .int i :: va_rf r :: st) (bn (stC kd r i x) fun _ => F) := by
  intro μ w μ' h
  obtain ⟨u, μ1, h1, h2⟩ := bn_some h
  obtain ⟨a, μ2, h3, h4⟩ := bn_some h1
  obtain ⟨a', rfl, hK, e⟩ := pArr_some h3
  cases e
  by_cases hin : ¬ (i < 0 ∨ mN μ a ≤ i.toNatClampNeg) ∧ vp_nar .char x = x
  case neg => simp only [if_neg hin] at h4; cases h4
  simp only [if_pos hin] at h4
  cases h4
  refine ⟨(kk _ w μ' h2).1, ?_⟩
  intro p e s m args below meth c x0 s0 H locs ls hc g1 g2 hS hD hl
  have hcell := wd_arr hD hk hK
  rw [hj] at hcell
  have hA := (hc.2.2.2.2.2.2.2.2.1.1.2 3 _ rfl).1
  refine W.cast hc.1 hc.2.1 hcell (hA _ _) (fun q => by cases q) (by rw [arrV_size]; exact hin.1) rfl rfl hd fun H' e1 e2 e3 => ?_
  have hD' : Wd Γ (tI μ kd a i.toNatClampNeg x) H' := by
    rw [show narrow .char (.int x) = .int x from by have z := hin.2; unfold vp_nar at z; simp only [narrow] at z ⊢; rw [z]] at e1
    refine wd_aput hD hk hK ?_ e2 e3 rfl rfl rfl rfl rfl (fun b hb => ?_)
    · rw [e1, arrV_store, hj]
      congr 2
      funext q
      by_cases hq : q = i.toNatClampNeg
      · subst hq
        simp [updV, ev, hK, hj, mK_tI, aI_tI, aL_tI, aP_tI, up3_eq]
      · have hz : ∀ {β : Type} (m : Nat → Nat → Nat → β) (v : β), up3 m kd a i.toNatClampNeg v kd a q = m kd a q := fun m v => up3_ne (Or.inr hq)
        simp [updV, hq, ev, hK, hj, mK_tI, aI_tI, aL_tI, aP_tI, hz]
    · funext q
      have hz : ∀ {β : Type} (m : Nat → Nat → Nat → β) (v : β) (g : Nat), up3 m kd a i.toNatClampNeg v g b q = m g b q := fun m v g => up3_ne (Or.inl hb)
      simp only [ev, mK_tI, aI_tI, aL_tI, aP_tI, hz]
  exact (kk _ w μ' h2).2 p e s m args below meth c x0 s0 H' _ ls hc g1 g2 (hS.put e2 e3 (arr_base hD hk (by omega) hK)) hD' hl
theorem ok_stL {α : Type} {Γ : Gam} {y : Mth} {d : Nat} {rv : α → Option Value} {pc : Nat} {lv : List (Nat × Value)} {st : List Value} {F : M α} {r : Option Nat} {i : Int32} {x : Int64} {kd : Nat} (hk : 64 ≤ kd) (hj : kd % 8 = 1) (hd : decode y.2.1 pc = .ok (.lastore, 1)) (kk : Ok Γ y d rv (pc + 1) lv st F) : Ok Γ y d rv pc lv (.long x :: .int i :: va_rf r :: st) (bn (stL kd r i x) fun _ => F) := by
  intro μ w μ' h
  obtain ⟨u, μ1, h1, h2⟩ := bn_some h
  obtain ⟨a, μ2, h3, h4⟩ := bn_some h1
  obtain ⟨a', rfl, hK, e⟩ := pArr_some h3
  cases e
  by_cases hin : ¬ (i < 0 ∨ mN μ a ≤ i.toNatClampNeg)
  case neg => simp only [if_neg hin] at h4; cases h4
  simp only [if_pos hin] at h4
  cases h4
  refine ⟨(kk _ w μ' h2).1, ?_⟩
  intro p e s m args below meth c x0 s0 H locs ls hc g1 g2 hS hD hl
  have hcell := wd_arr hD hk hK
  rw [hj] at hcell
  have hA := (hc.2.2.2.2.2.2.2.2.1.1.2 1 _ rfl).1
  refine W.last hc.1 hc.2.1 hcell (hA _ _) (fun q => by cases q) (by rw [arrV_size]; exact hin) rfl rfl hd fun H' e1 e2 e3 => ?_
  have hD' : Wd Γ (tL μ kd a i.toNatClampNeg x) H' := by
    refine wd_aput hD hk hK ?_ e2 e3 rfl rfl rfl rfl rfl (fun b hb => ?_)
    · rw [e1, arrV_store, hj]
      congr 2
      funext q
      by_cases hq : q = i.toNatClampNeg
      · subst hq
        simp [updV, ev, hK, hj, mK_tL, aI_tL, aL_tL, aP_tL, up3_eq]
      · have hz : ∀ {β : Type} (m : Nat → Nat → Nat → β) (v : β), up3 m kd a i.toNatClampNeg v kd a q = m kd a q := fun m v => up3_ne (Or.inr hq)
        simp [updV, hq, ev, hK, hj, mK_tL, aI_tL, aL_tL, aP_tL, hz]
    · funext q
      have hz : ∀ {β : Type} (m : Nat → Nat → Nat → β) (v : β) (g : Nat), up3 m kd a i.toNatClampNeg v g b q = m g b q := fun m v g => up3_ne (Or.inl hb)
      simp only [ev, mK_tL, aI_tL, aL_tL, aP_tL, hz]
      rfl
  exact (kk _ w μ' h2).2 p e s m args below meth c x0 s0 H' _ ls hc g1 g2 (hS.put e2 e3 (arr_base hD hk (by omega) hK)) hD' hl
end
section
theorem cat_rf (r : Option Nat) : (va_rf r).category = 1 := by cases r <;> rfl
theorem cat_sum (st : List Value) : (st.map fun v => v.category).sum ≤ 2 * st.length := by
  induction st with
  | nil => exact Nat.le_refl _
  | cons v r ih =>
    have h : v.category ≤ 2 := by cases v <;> simp [Value.category]
    simp only [List.map_cons, List.sum_cons, List.length_cons]
    omega
def dvf (c k : Nat) : Value := if fty c k = 1 then .long 0 else if fty c k = 2 then .null else .int 0
/-- a cell more: the world behind it -/
theorem wd_new {Γ : Gam} {μ μ' : Mem} {H H' : Heap} (hD : Wd Γ μ H) (e2 : H'.size = H.size + 1) (e3 : ∀ q, q < H.size → H'[q]? = H[q]?) (hb : gB Γ ≤ H.size) (hfresh : mK μ (mX μ) = 0 ∨ True)
    (m1 : ∀ b, b ≠ mX μ → mK μ' b = mK μ b) (m2 : ∀ b, b ≠ mX μ → mN μ' b = mN μ b) (m3 : mX μ' = mX μ + 1) (m5 : mT μ' = mT μ) (hf : ∀ c b j, b ≠ mX μ → fv μ' c b j = fv μ c b j) (he : ∀ b, b ≠ mX μ → ev μ' b = ev μ b) (hn : atC Γ μ' (mX μ) H') : Wd Γ μ' H' := by
  refine ⟨by rw [e2, m3, hD.1], m5.trans hD.2.1, fun b hbk => ?_⟩
  by_cases hbx : b = mX μ
  · subst hbx
    exact ⟨⟨by rw [e2, hD.1]; exact Nat.lt_succ_self _, hn⟩, fun _ => by rw [← hD.1]; exact hb⟩
  · rw [m1 b hbx] at hbk ⊢
    obtain ⟨⟨hlt, hat⟩, hbase⟩ := hD.2.2 b hbk
    refine ⟨⟨by omega, fun c q hc hq => ?_, fun h => ?_⟩, hbase⟩
    · rw [m1 b hbx] at hc
      exact ((hat.1 c q hc hq).kept (e3 b hlt)).to (fun j _ => (hf c b j hbx).symm)
    · rw [m1 b hbx] at h ⊢
      rw [e3 b hlt, m2 b hbx, he b hbx]
      exact hat.2 h
theorem vs_grow {A : Nat → Prop} {H0 H H1 : Heap} {locs : List Loc} (h : va_S A H0 H locs) (z : H1.size = H.size + 1) (oq : ∀ q, q < H.size → H1[q]? = H[q]?) : va_S A H0 H1 locs := ⟨Nat.le_trans h.1 (by omega), fun q h1 h2 => (oq q (Nat.lt_of_lt_of_le h1 h.1)).trans (h.2.1 q h1 h2), h.2.2⟩
theorem ok_newO {α : Type} {Γ : Gam} {y : Mth} {d : Nat} {rv : α → Option Value} {pc : Nat} {lv : List (Nat × Value)} {st : List Value} {F : Option Nat → M α} {idx cn : Nat} {C : String} {T : u_T} {N : Nat} (hF : CF cn C T N) (ty : Nat → FieldType) (hty : ∀ k, k < N → parseFieldDescriptor (T k).2.2.1 = some (ty k)) (hdf : ∀ k, k < N → defaultValue (ty k) = dvf cn k)
    (w1 : Cond.classLink y.1.cls idx C ∈ lw_g) (w2 : Cond.instantiable C N ∈ lw_g) (w3 : Cond.initialized C ∈ lw_g) (hd : decode y.2.1 pc = .ok (.new idx, 3)) (kk : ∀ r : Option Nat, Ok Γ y d rv (pc + 3) lv (va_rf r :: st) (F r)) : Ok Γ y d rv pc lv st (bn (newO cn N) F) := by
  intro μ w μ' h
  obtain ⟨u, μ1, h1, h2⟩ := bn_some h
  cases h1
  have hm := (kk _ _ w μ' h2).1
  rw [mX_nO, mS_nO] at hm
  refine ⟨⟨by omega, by omega⟩, ?_⟩
  intro p e s m args below meth c x0 s0 H locs ls hc g1 g2 hS hD hl
  have hts := hc.2.2.2.2.2.1
  have hKn := hc.2.2.2.2.2.2.2.2.1.1.1 cn _ hF.1
  refine W.newcK hc.1 hc.2.1 hc.2.2.2.2.1 (hts _ w1) (hts _ w2) (hts _ w3) rfl hd (by show _ ≤ mX μ' - x0; omega) (by show _ ≤ mS μ' - s0; omega) hKn.2.1 hD.1 fun H' kC hkC e1 e2 e3 => ?_
  have hlen : cn < 14 := by
    have hl : cn < vcl.length := (List.getElem?_eq_some_iff.mp hF.1).1
    exact hl
  have hD' : Wd Γ (nO cn N μ) H' := by
    refine wd_new hD (by rw [e2, hD.1]) (fun q hq => e3 q (by rw [← hD.1]; exact hq)) (Nat.le_trans hc.2.2.2.2.2.2.2.2.2.2 hS.1) (Or.inr trivial) (fun b hb => by simp [mK_nO, hb]) (fun b hb => rfl) rfl rfl (fun c b j hb => ?_) (fun b hb => ?_) ⟨fun c q hcq hq => ?_, fun h64 => ?_⟩
    · simp [fv, mI_nO, mL_nO, mP_nO, hb]
    · funext q
      simp [ev, mK_nO, aI_nO, aL_nO, aP_nO, hb]
    · simp only [mK_nO, if_pos] at hcq
      have hcc : cn = c := Nat.succ.inj hcq
      subst hcc
      rw [hF.1] at hq
      cases hq
      refine (u_born ty hts hF.2.1 hKn hkC e1 hty).to (fun k hk => ?_)
      rw [hdf k hk]
      simp [dvf, fv, mI_nO, mL_nO, mP_nO, va_rf]
    · simp only [mK_nO, if_pos] at h64
      omega
  have hW := (kk _ _ w μ' h2).2 p e s m args below meth c x0 s0 H' locs ls hc (by rw [mX_nO]; omega) (by rw [mS_nO]; omega) (vs_grow hS (by rw [e2, hD.1]) (fun q hq => e3 q (by rw [← hD.1]; exact hq))) hD' hl
  rw [mX_nO, mS_nO, show mX μ + 1 - x0 = mX μ - x0 + 1 by omega, show mS μ + N - s0 = mS μ - s0 + N by omega] at hW
  exact hW
theorem ok_newAI {α : Type} {Γ : Gam} {y : Mth} {d : Nat} {rv : α → Option Value} {pc : Nat} {lv : List (Nat × Value)} {st : List Value} {F : Option Nat → M α} {n : Int32} {kd : Nat} (hk : 64 ≤ kd) (hj : kd % 8 = 0) (w1 : Cond.arrayClass .int ∈ lw_g) (hd : decode y.2.1 pc = .ok (.newarray .int, 2)) (kk : ∀ r : Option Nat, Ok Γ y d rv (pc + 2) lv (va_rf r :: st) (F r)) : Ok Γ y d rv pc lv (.int n :: st) (bn (newA kd n) F) := by
  intro μ w μ' h
  obtain ⟨u, μ1, h1, h2⟩ := bn_some h
  unfold newA at h1
  by_cases hn : ¬ n < 0 ∧ n.toNatClampNeg ≤ 1000000
  case neg => rw [if_neg hn] at h1; cases h1
  rw [if_pos hn] at h1
  cases h1
  have hm := (kk _ _ w μ' h2).1
  rw [mX_nA, mS_nA] at hm
  refine ⟨⟨by omega, by omega⟩, ?_⟩
  intro p e s m args below meth c x0 s0 H locs ls hc g1 g2 hS hD hl
  have hts := hc.2.2.2.2.2.1
  refine va_newaK hc.1 hc.2.1 (atype := .int) (hts _ w1) rfl hd rfl hn.1 rfl (by show n.toNatClampNeg * 4 ≤ 536870912; omega) (by show _ ≤ mX μ' - x0; omega) (by show _ ≤ mS μ' - s0; omega) hD.1 fun H' cA e1 e2 e3 hAr hNm => ?_
  have hcA : cA = gA Γ 0 := Option.some.inj (hNm.symm.trans (hc.2.2.2.2.2.2.2.2.1.1.2 0 _ rfl).2)
  have hD' : Wd Γ (nA kd n.toNatClampNeg μ) H' := by
    refine wd_new hD (by rw [e2, hD.1]) (fun q hq => e3 q (by rw [← hD.1]; exact hq)) (Nat.le_trans hc.2.2.2.2.2.2.2.2.2.2 hS.1) (Or.inr trivial) (fun b hb => by simp [mK_nA, hb]) (fun b hb => by simp [mN_nA, hb]) rfl rfl (fun c b j hb => rfl) (fun b hb => ?_) ⟨fun c q hcq hq => ?_, fun h64 => ?_⟩
    · funext q
      simp [ev, mK_nA, aI_nA, aL_nA, aP_nA, hb]
    · simp only [mK_nA, if_pos] at hcq
      have hl : c < vcl.length := (List.getElem?_eq_some_iff.mp hq).1
      have h14 : vcl.length = 14 := rfl
      omega
    · rw [e1, hcA]
      simp only [mK_nA, mN_nA, if_pos, hj]
      congr 2
      funext q
      simp [ev, mK_nA, aI_nA, aL_nA, aP_nA, hj, newarray.typeOf, defaultValue]
  have hW := (kk _ _ w μ' h2).2 p e s m args below meth c x0 s0 H' locs ls hc (by rw [mX_nA]; omega) (by rw [mS_nA]; omega) (vs_grow hS (by rw [e2, hD.1]) (fun q hq => e3 q (by rw [← hD.1]; exact hq))) hD' hl
  rw [mX_nA, mS_nA, show mX μ + 1 - x0 = mX μ - x0 + 1 by omega, show mS μ + n.toNatClampNeg - s0 = mS μ - s0 + n.toNatClampNeg by omega] at hW
  exact hW
theorem ok_newAL {α : Type} {Γ : Gam} {y : Mth} {d : Nat} {rv : α → Option Value} {pc : Nat} {lv : List (Nat × Value)} {st : List Value} {F : Option Nat → M α} {n : Int32} {kd : Nat} (hk : 64 ≤ kd) (hj : kd % 8 = 1) (w1 : Cond.arrayClass .long ∈ lw_g) (hd : decode y.2.1 pc = .ok (.newarray .long, 2)) (kk : ∀ r : Option Nat, Ok Γ y d rv (pc + 2) lv (va_rf r :: st) (F r)) : Ok Γ y d rv pc lv (.int n :: st) (bn (newA kd n) F) := by
  intro μ w μ' h
  obtain ⟨u, μ1, h1, h2⟩ := bn_some h
  unfold newA at h1
  by_cases hn : ¬ n < 0 ∧ n.toNatClampNeg ≤ 1000000
  case neg => rw [if_neg hn] at h1; cases h1
  rw [if_pos hn] at h1
  cases h1
  have hm := (kk _ _ w μ' h2).1
  rw [mX_nA, mS_nA] at hm
  refine ⟨⟨by omega, by omega⟩, ?_⟩
  intro p e s m args below meth c x0 s0 H locs ls hc g1 g2 hS hD hl
  have hts := hc.2.2.2.2.2.1
  refine va_newaK hc.1 hc.2.1 (atype := .long) (hts _ w1) rfl hd rfl hn.1 rfl (by show n.toNatClampNeg * 8 ≤ 536870912; omega) (by show _ ≤ mX μ' - x0; omega) (by show _ ≤ mS μ' - s0; omega) hD.1 fun H' cA e1 e2 e3 hAr hNm => ?_
  have hcA : cA = gA Γ 1 := Option.some.inj (hNm.symm.trans (hc.2.2.2.2.2.2.2.2.1.1.2 1 _ rfl).2)
  have hD' : Wd Γ (nA kd n.toNatClampNeg μ) H' := by
    refine wd_new hD (by rw [e2, hD.1]) (fun q hq => e3 q (by rw [← hD.1]; exact hq)) (Nat.le_trans hc.2.2.2.2.2.2.2.2.2.2 hS.1) (Or.inr trivial) (fun b hb => by simp [mK_nA, hb]) (fun b hb => by simp [mN_nA, hb]) rfl rfl (fun c b j hb => rfl) (fun b hb => ?_) ⟨fun c q hcq hq => ?_, fun h64 => ?_⟩
    · funext q
      simp [ev, mK_nA, aI_nA, aL_nA, aP_nA, hb]
    · simp only [mK_nA, if_pos] at hcq
      have hl : c < vcl.length := (List.getElem?_eq_some_iff.mp hq).1
      have h14 : vcl.length = 14 := rfl
      omega
    · rw [e1, hcA]
      simp only [mK_nA, mN_nA, if_pos, hj]
      congr 2
      funext q
      simp [ev, mK_nA, aI_nA, aL_nA, aP_nA, hj, newarray.typeOf, defaultValue]
  have hW := (kk _ _ w μ' h2).2 p e s m args below meth c x0 s0 H' locs ls hc (by rw [mX_nA]; omega) (by rw [mS_nA]; omega) (vs_grow hS (by rw [e2, hD.1]) (fun q hq => e3 q (by rw [← hD.1]; exact hq))) hD' hl
  rw [mX_nA, mS_nA, show mX μ + 1 - x0 = mX μ - x0 + 1 by omega, show mS μ + n.toNatClampNeg - s0 = mS μ - s0 + n.toNatClampNeg by omega] at hW
  exact hW
theorem ok_newAZ {α : Type} {Γ : Gam} {y : Mth} {d : Nat} {rv : α → Option Value} {pc : Nat} {lv : List (Nat × Value)} {st : List Value} {F : Option Nat → M α} {n : Int32} {kd : Nat} (hk : 64 ≤ kd) (hj : kd % 8 = 2) (w1 : Cond.arrayClass .boolean ∈ lw_g) (hd : decode y.2.1 pc = .ok (.newarray .boolean, 2)) (kk : ∀ r : Option Nat, Ok Γ y d rv (pc + 2) lv (va_rf r :: st) (F r)) : Ok Γ y d rv pc lv (.int n :: st) (bn (newA kd n) F) := by
  intro μ w μ' h
  obtain ⟨u, μ1, h1, h2⟩ := bn_some h
  unfold newA at h1
  by_cases hn : ¬ n < 0 ∧ n.toNatClampNeg ≤ 1000000
  case neg => rw [if_neg hn] at h1; cases h1
  rw [if_pos hn] at h1
  cases h1
  have hm := (kk _ _ w μ' h2).1
  rw [mX_nA, mS_nA] at hm
  refine ⟨⟨by omega, by omega⟩, ?_⟩
  intro p e s m args below meth c x0 s0 H locs ls hc g1 g2 hS hD hl
  have hts := hc.2.2.2.2.2.1
  refine va_newaK hc.1 hc.2.1 (atype := .boolean) (hts _ w1) rfl hd rfl hn.1 rfl (by show n.toNatClampNeg * 1 ≤ 536870912; omega) (by show _ ≤ mX μ' - x0; omega) (by show _ ≤ mS μ' - s0; omega) hD.1 fun H' cA e1 e2 e3 hAr hNm => ?_
  have hcA : cA = gA Γ 2 := Option.some.inj (hNm.symm.trans (hc.2.2.2.2.2.2.2.2.1.1.2 2 _ rfl).2)
  have hD' : Wd Γ (nA kd n.toNatClampNeg μ) H' := by
    refine wd_new hD (by rw [e2, hD.1]) (fun q hq => e3 q (by rw [← hD.1]; exact hq)) (Nat.le_trans hc.2.2.2.2.2.2.2.2.2.2 hS.1) (Or.inr trivial) (fun b hb => by simp [mK_nA, hb]) (fun b hb => by simp [mN_nA, hb]) rfl rfl (fun c b j hb => rfl) (fun b hb => ?_) ⟨fun c q hcq hq => ?_, fun h64 => ?_⟩
    · funext q
      simp [ev, mK_nA, aI_nA, aL_nA, aP_nA, hb]
    · simp only [mK_nA, if_pos] at hcq
      have hl : c < vcl.length := (List.getElem?_eq_some_iff.mp hq).1
      have h14 : vcl.length = 14 := rfl
      omega
    · rw [e1, hcA]
      simp only [mK_nA, mN_nA, if_pos, hj]
      congr 2
      funext q
      simp [ev, mK_nA, aI_nA, aL_nA, aP_nA, hj, newarray.typeOf, defaultValue]
  have hW := (kk _ _ w μ' h2).2 p e s m args below meth c x0 s0 H' locs ls hc (by rw [mX_nA]; omega) (by rw [mS_nA]; omega) (vs_grow hS (by rw [e2, hD.1]) (fun q hq => e3 q (by rw [← hD.1]; exact hq))) hD' hl
  rw [mX_nA, mS_nA, show mX μ + 1 - x0 = mX μ - x0 + 1 by omega, show mS μ + n.toNatClampNeg - s0 = mS μ - s0 + n.toNatClampNeg by omega] at hW
  exact hW
theorem ok_newAC {α : Type} {Γ : Gam} {y : Mth} {d : Nat} {rv : α → Option Value} {pc : Nat} {lv : List (Nat × Value)} {st : List Value} {F : Option Nat → M α} {n : Int32} {kd : Nat} (hk : 64 ≤ kd) (hj : kd % 8 = 3) (w1 : Cond.arrayClass .char ∈ lw_g) (hd : decode y.2.1 pc = .ok (.newarray .char, 2)) (kk : ∀ r : Option Nat, Ok Γ y d rv (pc + 2) lv (va_rf r :: st) (F r)) : Ok Γ y d rv pc lv (.int n :: st) (bn (newA kd n) F) := by
  intro μ w μ' h
  obtain ⟨u, μ1, h1, h2⟩ := bn_some h
  unfold newA at h1
  by_cases hn : ¬ n < 0 ∧ n.toNatClampNeg ≤ 1000000
  case neg => rw [if_neg hn] at h1; cases h1
  rw [if_pos hn] at h1
  cases h1
  have hm := (kk _ _ w μ' h2).1
  rw [mX_nA, mS_nA] at hm
  refine ⟨⟨by omega, by omega⟩, ?_⟩
  intro p e s m args below meth c x0 s0 H locs ls hc g1 g2 hS hD hl
  have hts := hc.2.2.2.2.2.1
  refine va_newaK hc.1 hc.2.1 (atype := .char) (hts _ w1) rfl hd rfl hn.1 rfl (by show n.toNatClampNeg * 2 ≤ 536870912; omega) (by show _ ≤ mX μ' - x0; omega) (by show _ ≤ mS μ' - s0; omega) hD.1 fun H' cA e1 e2 e3 hAr hNm => ?_
  have hcA : cA = gA Γ 3 := Option.some.inj (hNm.symm.trans (hc.2.2.2.2.2.2.2.2.1.1.2 3 _ rfl).2)
  have hD' : Wd Γ (nA kd n.toNatClampNeg μ) H' := by
    refine wd_new hD (by rw [e2, hD.1]) (fun q hq => e3 q (by rw [← hD.1]; exact hq)) (Nat.le_trans hc.2.2.2.2.2.2.2.2.2.2 hS.1) (Or.inr trivial) (fun b hb => by simp [mK_nA, hb]) (fun b hb => by simp [mN_nA, hb]) rfl rfl (fun c b j hb => rfl) (fun b hb => ?_) ⟨fun c q hcq hq => ?_, fun h64 => ?_⟩
    · funext q
      simp [ev, mK_nA, aI_nA, aL_nA, aP_nA, hb]
    · simp only [mK_nA, if_pos] at hcq
      have hl : c < vcl.length := (List.getElem?_eq_some_iff.mp hq).1
      have h14 : vcl.length = 14 := rfl
      omega
    · rw [e1, hcA]
      simp only [mK_nA, mN_nA, if_pos, hj]
      congr 2
      funext q
      simp [ev, mK_nA, aI_nA, aL_nA, aP_nA, hj, newarray.typeOf, defaultValue]
  have hW := (kk _ _ w μ' h2).2 p e s m args below meth c x0 s0 H' locs ls hc (by rw [mX_nA]; omega) (by rw [mS_nA]; omega) (vs_grow hS (by rw [e2, hD.1]) (fun q hq => e3 q (by rw [← hD.1]; exact hq))) hD' hl
  rw [mX_nA, mS_nA, show mX μ + 1 - x0 = mX μ - x0 + 1 by omega, show mS μ + n.toNatClampNeg - s0 = mS μ - s0 + n.toNatClampNeg by omega] at hW
  exact hW
theorem ok_newA4 {α : Type} {Γ : Gam} {y : Mth} {d : Nat} {rv : α → Option Value} {pc : Nat} {lv : List (Nat × Value)} {st : List Value} {F : Option Nat → M α} {n : Int32} {kd idx : Nat} (hk : 64 ≤ kd) (hj : kd % 8 = 4) (w1 : Cond.classLink y.1.cls idx "java/lang/Object" ∈ lw_g) (w2 : Cond.arrayOver (.object "java/lang/Object") ∈ lw_nn) (hd : decode y.2.1 pc = .ok (.anewarray idx, 3)) (kk : ∀ r : Option Nat, Ok Γ y d rv (pc + 3) lv (va_rf r :: st) (F r)) : Ok Γ y d rv pc lv (.int n :: st) (bn (newA kd n) F) := by
  intro μ w μ' h
  obtain ⟨u, μ1, h1, h2⟩ := bn_some h
  unfold newA at h1
  by_cases hn : ¬ n < 0 ∧ n.toNatClampNeg ≤ 1000000
  case neg => rw [if_neg hn] at h1; cases h1
  rw [if_pos hn] at h1
  cases h1
  have hm := (kk _ _ w μ' h2).1
  rw [mX_nA, mS_nA] at hm
  refine ⟨⟨by omega, by omega⟩, ?_⟩
  intro p e s m args below meth c x0 s0 H locs ls hc g1 g2 hS hD hl
  have hts := hc.2.2.2.2.2.1
  refine W.anew hc.1 hc.2.1 hc.2.2.2.2.1 (hts _ w1) (va_AO.use (hc.2.2.2.2.2.2.2.2.1.2.1 _ w2)) rfl hd rfl hn.1 (by omega) (by show _ ≤ mX μ' - x0; omega) (by show _ ≤ mS μ' - s0; omega) fun cA kA comp f1 f2 f3 f4 => ?_
  have hcA : cA = gA Γ 4 := by
    obtain ⟨_, _, _, _, _, z⟩ := (hc.2.2.2.2.2.2.2.2.1.1.2 4 _ rfl).2
    exact Option.some.inj (f1.symm.trans z)
  generalize hH : H.push { cls := cA, slots := Array.replicate n.toNatClampNeg .null, vm := .none } = H'
  have e1 : H'[mX μ]? = some (arrV cA n.toNatClampNeg (fun _ => .null)) := by rw [← hH, ← arrV_new, ← hD.1]; simp
  have e2 : H'.size = mX μ + 1 := by rw [← hH, Array.size_push, hD.1]
  have e3 : ∀ q, q < mX μ → H'[q]? = H[q]? := fun q hq => by rw [← hH, Array.getElem?_push, if_neg (by rw [hD.1]; exact Nat.ne_of_lt hq)]
  have hD' : Wd Γ (nA kd n.toNatClampNeg μ) H' := by
    refine wd_new hD (by rw [e2, hD.1]) (fun q hq => e3 q (by rw [← hD.1]; exact hq)) (Nat.le_trans hc.2.2.2.2.2.2.2.2.2.2 hS.1) (Or.inr trivial) (fun b hb => by simp [mK_nA, hb]) (fun b hb => by simp [mN_nA, hb]) rfl rfl (fun c b j hb => rfl) (fun b hb => ?_) ⟨fun c q hcq hq => ?_, fun h64 => ?_⟩
    · funext q
      simp [ev, mK_nA, aI_nA, aL_nA, aP_nA, hb]
    · simp only [mK_nA, if_pos] at hcq
      have hl : c < vcl.length := (List.getElem?_eq_some_iff.mp hq).1
      have h14 : vcl.length = 14 := rfl
      omega
    · rw [e1, hcA]
      simp only [mK_nA, mN_nA, if_pos, hj]
      congr 2
      funext q
      simp [ev, mK_nA, aI_nA, aL_nA, aP_nA, hj, va_rf]
  have hW := (kk _ _ w μ' h2).2 p e s m args below meth c x0 s0 H' locs ls hc (by rw [mX_nA]; omega) (by rw [mS_nA]; omega) (vs_grow hS (by rw [e2, hD.1]) (fun q hq => e3 q (by rw [← hD.1]; exact hq))) hD' hl
  rw [mX_nA, mS_nA, show mX μ + 1 - x0 = mX μ - x0 + 1 by omega, show mS μ + n.toNatClampNeg - s0 = mS μ - s0 + n.toNatClampNeg by omega] at hW
  rw [hD.1]
  exact hW
theorem ok_newA5 {α : Type} {Γ : Gam} {y : Mth} {d : Nat} {rv : α → Option Value} {pc : Nat} {lv : List (Nat × Value)} {st : List Value} {F : Option Nat → M α} {n : Int32} {kd idx : Nat} (hk : 64 ≤ kd) (hj : kd % 8 = 5) (w1 : Cond.classLink y.1.cls idx "GrainPit$Month" ∈ lw_g) (w2 : Cond.arrayOver (.object "GrainPit$Month") ∈ lw_nn) (hd : decode y.2.1 pc = .ok (.anewarray idx, 3)) (kk : ∀ r : Option Nat, Ok Γ y d rv (pc + 3) lv (va_rf r :: st) (F r)) : Ok Γ y d rv pc lv (.int n :: st) (bn (newA kd n) F) := by
  intro μ w μ' h
  obtain ⟨u, μ1, h1, h2⟩ := bn_some h
  unfold newA at h1
  by_cases hn : ¬ n < 0 ∧ n.toNatClampNeg ≤ 1000000
  case neg => rw [if_neg hn] at h1; cases h1
  rw [if_pos hn] at h1
  cases h1
  have hm := (kk _ _ w μ' h2).1
  rw [mX_nA, mS_nA] at hm
  refine ⟨⟨by omega, by omega⟩, ?_⟩
  intro p e s m args below meth c x0 s0 H locs ls hc g1 g2 hS hD hl
  have hts := hc.2.2.2.2.2.1
  refine W.anew hc.1 hc.2.1 hc.2.2.2.2.1 (hts _ w1) (va_AO.use (hc.2.2.2.2.2.2.2.2.1.2.1 _ w2)) rfl hd rfl hn.1 (by omega) (by show _ ≤ mX μ' - x0; omega) (by show _ ≤ mS μ' - s0; omega) fun cA kA comp f1 f2 f3 f4 => ?_
  have hcA : cA = gA Γ 5 := by
    obtain ⟨_, _, _, _, _, z⟩ := (hc.2.2.2.2.2.2.2.2.1.1.2 5 _ rfl).2
    exact Option.some.inj (f1.symm.trans z)
  generalize hH : H.push { cls := cA, slots := Array.replicate n.toNatClampNeg .null, vm := .none } = H'
  have e1 : H'[mX μ]? = some (arrV cA n.toNatClampNeg (fun _ => .null)) := by rw [← hH, ← arrV_new, ← hD.1]; simp
  have e2 : H'.size = mX μ + 1 := by rw [← hH, Array.size_push, hD.1]
  have e3 : ∀ q, q < mX μ → H'[q]? = H[q]? := fun q hq => by rw [← hH, Array.getElem?_push, if_neg (by rw [hD.1]; exact Nat.ne_of_lt hq)]
  have hD' : Wd Γ (nA kd n.toNatClampNeg μ) H' := by
    refine wd_new hD (by rw [e2, hD.1]) (fun q hq => e3 q (by rw [← hD.1]; exact hq)) (Nat.le_trans hc.2.2.2.2.2.2.2.2.2.2 hS.1) (Or.inr trivial) (fun b hb => by simp [mK_nA, hb]) (fun b hb => by simp [mN_nA, hb]) rfl rfl (fun c b j hb => rfl) (fun b hb => ?_) ⟨fun c q hcq hq => ?_, fun h64 => ?_⟩
    · funext q
      simp [ev, mK_nA, aI_nA, aL_nA, aP_nA, hb]
    · simp only [mK_nA, if_pos] at hcq
      have hl : c < vcl.length := (List.getElem?_eq_some_iff.mp hq).1
      have h14 : vcl.length = 14 := rfl
      omega
    · rw [e1, hcA]
      simp only [mK_nA, mN_nA, if_pos, hj]
      congr 2
      funext q
      simp [ev, mK_nA, aI_nA, aL_nA, aP_nA, hj, va_rf]
  have hW := (kk _ _ w μ' h2).2 p e s m args below meth c x0 s0 H' locs ls hc (by rw [mX_nA]; omega) (by rw [mS_nA]; omega) (vs_grow hS (by rw [e2, hD.1]) (fun q hq => e3 q (by rw [← hD.1]; exact hq))) hD' hl
  rw [mX_nA, mS_nA, show mX μ + 1 - x0 = mX μ - x0 + 1 by omega, show mS μ + n.toNatClampNeg - s0 = mS μ - s0 + n.toNatClampNeg by omega] at hW
  rw [hD.1]
  exact hW
theorem ok_newA6 {α : Type} {Γ : Gam} {y : Mth} {d : Nat} {rv : α → Option Value} {pc : Nat} {lv : List (Nat × Value)} {st : List Value} {F : Option Nat → M α} {n : Int32} {kd idx : Nat} (hk : 64 ≤ kd) (hj : kd % 8 = 6) (w1 : Cond.classLink y.1.cls idx "GrainPit$Settle" ∈ lw_g) (w2 : Cond.arrayOver (.object "GrainPit$Settle") ∈ lw_nn) (hd : decode y.2.1 pc = .ok (.anewarray idx, 3)) (kk : ∀ r : Option Nat, Ok Γ y d rv (pc + 3) lv (va_rf r :: st) (F r)) : Ok Γ y d rv pc lv (.int n :: st) (bn (newA kd n) F) := by
  intro μ w μ' h
  obtain ⟨u, μ1, h1, h2⟩ := bn_some h
  unfold newA at h1
  by_cases hn : ¬ n < 0 ∧ n.toNatClampNeg ≤ 1000000
  case neg => rw [if_neg hn] at h1; cases h1
  rw [if_pos hn] at h1
  cases h1
  have hm := (kk _ _ w μ' h2).1
  rw [mX_nA, mS_nA] at hm
  refine ⟨⟨by omega, by omega⟩, ?_⟩
  intro p e s m args below meth c x0 s0 H locs ls hc g1 g2 hS hD hl
  have hts := hc.2.2.2.2.2.1
  refine W.anew hc.1 hc.2.1 hc.2.2.2.2.1 (hts _ w1) (va_AO.use (hc.2.2.2.2.2.2.2.2.1.2.1 _ w2)) rfl hd rfl hn.1 (by omega) (by show _ ≤ mX μ' - x0; omega) (by show _ ≤ mS μ' - s0; omega) fun cA kA comp f1 f2 f3 f4 => ?_
  have hcA : cA = gA Γ 6 := by
    obtain ⟨_, _, _, _, _, z⟩ := (hc.2.2.2.2.2.2.2.2.1.1.2 6 _ rfl).2
    exact Option.some.inj (f1.symm.trans z)
  generalize hH : H.push { cls := cA, slots := Array.replicate n.toNatClampNeg .null, vm := .none } = H'
  have e1 : H'[mX μ]? = some (arrV cA n.toNatClampNeg (fun _ => .null)) := by rw [← hH, ← arrV_new, ← hD.1]; simp
  have e2 : H'.size = mX μ + 1 := by rw [← hH, Array.size_push, hD.1]
  have e3 : ∀ q, q < mX μ → H'[q]? = H[q]? := fun q hq => by rw [← hH, Array.getElem?_push, if_neg (by rw [hD.1]; exact Nat.ne_of_lt hq)]
  have hD' : Wd Γ (nA kd n.toNatClampNeg μ) H' := by
    refine wd_new hD (by rw [e2, hD.1]) (fun q hq => e3 q (by rw [← hD.1]; exact hq)) (Nat.le_trans hc.2.2.2.2.2.2.2.2.2.2 hS.1) (Or.inr trivial) (fun b hb => by simp [mK_nA, hb]) (fun b hb => by simp [mN_nA, hb]) rfl rfl (fun c b j hb => rfl) (fun b hb => ?_) ⟨fun c q hcq hq => ?_, fun h64 => ?_⟩
    · funext q
      simp [ev, mK_nA, aI_nA, aL_nA, aP_nA, hb]
    · simp only [mK_nA, if_pos] at hcq
      have hl : c < vcl.length := (List.getElem?_eq_some_iff.mp hq).1
      have h14 : vcl.length = 14 := rfl
      omega
    · rw [e1, hcA]
      simp only [mK_nA, mN_nA, if_pos, hj]
      congr 2
      funext q
      simp [ev, mK_nA, aI_nA, aL_nA, aP_nA, hj, va_rf]
  have hW := (kk _ _ w μ' h2).2 p e s m args below meth c x0 s0 H' locs ls hc (by rw [mX_nA]; omega) (by rw [mS_nA]; omega) (vs_grow hS (by rw [e2, hD.1]) (fun q hq => e3 q (by rw [← hD.1]; exact hq))) hD' hl
  rw [mX_nA, mS_nA, show mX μ + 1 - x0 = mX μ - x0 + 1 by omega, show mS μ + n.toNatClampNeg - s0 = mS μ - s0 + n.toNatClampNeg by omega] at hW
  rw [hD.1]
  exact hW
theorem ok_cst {α : Type} {Γ : Gam} {y : Mth} {d : Nat} {rv : α → Option Value} {pc : Nat} {lv : List (Nat × Value)} {st : List Value} {F : M α} {r : Option Nat} {idx cn : Nat} {C : String} {T : u_T} {N : Nat} (hcl : vcl[cn]? = some (C, T, N)) (w1 : Cond.classLink y.1.cls idx C ∈ lw_g) (hd : decode y.2.1 pc = .ok (.checkcast idx, 3)) (kk : Ok Γ y d rv (pc + 3) lv (va_rf r :: st) F) : Ok Γ y d rv pc lv (va_rf r :: st) (bn (cst cn r) fun _ => F) := by
  intro μ w μ' h
  obtain ⟨u, μ1, h1, h2⟩ := bn_some h
  unfold cst at h1
  cases r with
  | none =>
    cases h1
    exact ok_of (fun hc hl k2 => lv_castN hc.1 hc.2.1 hd (k2 _ hl)) kk μ w μ' h2
  | some a =>
    simp only at h1
    by_cases hK : mK μ a = cn + 1
    case neg => rw [if_neg hK] at h1; cases h1
    rw [if_pos hK] at h1
    cases h1
    refine ⟨(kk μ w μ' h2).1, ?_⟩
    intro p e s m args below meth c x0 s0 H locs ls hc g1 g2 hS hD hl
    obtain ⟨cell, q1, q2, q3, -⟩ := (hD.2.2 a (by omega)).1.2.1 cn _ hK hcl
    have hCA := (hc.2.2.2.2.2.2.2.2.1.1.1 cn _ hcl).2
    exact va_castS hc.1 hc.2.1 hc.2.2.2.2.1 (hc.2.2.2.2.2.1 _ w1) hCA ⟨cell, q1, by rw [q3]; rfl, by rw [q2]; exact hCA.1⟩ hd ((kk μ w μ' h2).2 p e s m args below meth c x0 s0 H locs ls hc g1 g2 hS hD hl)
theorem ok_objInit {α : Type} {Γ : Gam} {y : Mth} {d : Nat} {rv : α → Option Value} {pc : Nat} {lv : List (Nat × Value)} {st : List Value} {F : M α} {r : Option Nat} {idx : Nat} (w1 : Cond.methodLink y.1.cls idx Lib.objectInit ∈ lw_g) (w2 : Cond.instanceMethod Lib.objectInit ∈ lw_g) (w3 : Cond.code Lib.objectInit ⟨#[0xb1]⟩ 1 none ∈ lw_g) (hr : ∃ a, r = some a) (hdep : 1 ≤ d) (hst : st.length ≤ 20) (hd : decode y.2.1 pc = .ok (.invokespecial idx, 3)) (kk : Ok Γ y d rv (pc + 3) lv st F) : Ok Γ y d rv pc lv (va_rf r :: st) F := by
  obtain ⟨a, rfl⟩ := hr
  intro μ w μ' h
  refine ⟨(kk μ w μ' h).1, ?_⟩
  intro p e s m args below meth c x0 s0 H locs ls hc g1 g2 hS hD hl
  have hts := hc.2.2.2.2.2.1
  refine W.objInit hc.1 hc.2.1 hc.2.2.2.2.1 (hts _ w1) (hts _ w2) (hts _ w3) (a := a) (rest := st) rfl (by show ls.size = _; rw [hl.1, hc.2.2.2.1]) rfl hd hdep ?_ ((kk μ w μ' h).2 p e s m args below meth c x0 s0 H locs ls hc g1 g2 hS hD hl)
  have hz := cat_sum st
  show 2 * 0 + _ + 12 ≤ 64 * d
  omega
end
section
theorem nn_warm {s U : State} (hW : s.WarmedH U.vm) {w : Cond} (hw : nnw w = true) (h : va_Nw w s) : va_Nw w U := by
  cases w <;> first
    | (simp [nnw] at hw; done)
    | exact va_Nw.warmM hW h
    | exact va_Nw.warmC hW h
    | exact va_Nw.warmD hW h
    | (rename_i t; cases t <;> first | (simp [nnw] at hw; done) | exact va_AO.moved hW.alike h)
theorem ex_to {Γ : Gam} {s U : State} (hst : Stab Γ) (h : EX Γ s) (hW : s.WarmedH U.vm) (hs : s.heap.size ≤ U.heap.size) (hk : ∀ q, q < s.heap.size → ¬ gB Γ ≤ q → U.heap[q]? = s.heap[q]?) : EX Γ U := by
  obtain ⟨h1, ⟨mi, h2, h3⟩, h4, h5, ⟨aK, aV, g0, g1, g2, g3, g4, g5⟩, h6⟩ := h
  exact ⟨va_Z.kept (va_Z.moved hW.alike h1) hk, ⟨mi, h2, va_Mi.moved hW.alike h3⟩, va_Z.kept (va_Z.moved hW.alike h4) hk, va_Z.kept (va_Z.moved hW.alike h5) hk, ⟨aK, aV, g0, vk_S.kept (vk_S.moved hW.alike g1) hk, vk_R.warm hW g2, vk_R.warm hW g3, vk_R.warm hW g4, vk_R.warm hW g5⟩, hst s U h6 hW hs hk⟩
theorem kk_to {Γ : Gam} {s U : State} (hst : Stab Γ) (h : KK Γ s) (hW : s.WarmedH U.vm) (hs : s.heap.size ≤ U.heap.size) (hk : ∀ q, q < s.heap.size → ¬ gB Γ ≤ q → U.heap[q]? = s.heap[q]?) : KK Γ U :=
  ⟨va_K.moved hW.alike h.1, fun w hw => nn_warm hW (List.mem_filter.mp hw).2 (h.2.1 w hw), ex_to hst h.2.2 hW hs hk⟩
theorem pc_blind {Γ : Gam} (hst : Stab Γ) (μ : Mem) (av : List Value) : FrameBlind (va_Pc av (fun U => Wd Γ μ U.heap ∧ KK Γ U ∧ gB Γ ≤ U.heap.size)) := fun a U g mk h =>
  ⟨h.1, h.2.1, kk_to (s := U) (U := U.calling g mk a) hst h.2.2.1 (State.WarmedH.refl U) (Nat.le_refl _) (fun _ _ _ => rfl), h.2.2.2⟩
theorem pc_at {Γ : Gam} {y : Mth} {p : Program} {s : State} {m : MethodId} {args : Array Value} {meth : Method} {c : Code} {H : Heap} {locs : List Loc} {μ : Mem} (hc : Ctx Γ y p s m args meth c) (hS : va_S (fun q => gB Γ ≤ q) s.heap H locs) (hD : Wd Γ μ H) {av : List Value} {U : State} (hU : U.heap = H) (hW : s.WarmedH U.vm) : va_Pc av (fun U => Wd Γ μ U.heap ∧ KK Γ U ∧ gB Γ ≤ U.heap.size) av.toArray U :=
  ⟨rfl, by rw [hU]; exact hD, kk_to hc.2.2.2.2.2.2.2.2.2.1 hc.2.2.2.2.2.2.2.2.1 hW (by rw [hU]; exact hS.1) (fun q h1 h2 => by rw [hU]; exact hS.2.1 q h1 h2), by rw [hU]; exact Nat.le_trans hc.2.2.2.2.2.2.2.2.2.2 hS.1⟩
/-- behind a call -/
theorem w_back {Γ : Gam} {p : Program} {e : Env} {R : Room} {s : State} {m : MethodId} {args : Array Value} {below : List Frame} {meth : Method} {c : Code} {H : Heap} {locs : List Loc} {Q : State → Prop} {pc : Nat} {ls : Array Slot} {st0 rest : List Value} {a : Array Value} {μ μ1 : Mem} {x0 s0 : Nat} {v : Option Value}
    (hr : va_Run p (gL Γ) e R s m args below meth c H locs (mX μ - x0) (mS μ - s0) (mX μ1 - mX μ) (mS μ1 - mS μ) (F0 m pc ls st0) rest (Qo Γ v μ1 a) (fun q => gB Γ ≤ q)) (hS : va_S (fun q => gB Γ ≤ q) s.heap H locs) (g1 : x0 ≤ mX μ) (g2 : s0 ≤ mS μ) (hm : mX μ ≤ mX μ1 ∧ mS μ ≤ mS μ1)
    (kk : ∀ (H' : Heap) (locs' : List Loc), va_S (fun q => gB Γ ≤ q) s.heap H' locs' → Wd Γ μ1 H' → W p (gL Γ) e R s m args below meth c H' locs' (mX μ1 - x0) (mS μ1 - s0) Q (F0 m (pc + 3) ls (v.toList ++ rest))) : W p (gL Γ) e R s m args below meth c H locs (mX μ - x0) (mS μ - s0) Q (F0 m pc ls st0) := by
  intro T hT X
  obtain ⟨v', st₀, t, T', L, h0, X', hL, e1, e2, ⟨hv, hWd, hF⟩, stp⟩ := hr T hT X
  cases hv
  rw [show mX μ - x0 + (mX μ1 - mX μ) = mX μ1 - x0 by omega, show mS μ - s0 + (mS μ1 - mS μ) = mS μ1 - s0 by omega] at X'
  rw [← e1] at hWd
  have hS' : va_S (fun q => gB Γ ≤ q) s.heap T'.heap (locs ++ L) := by
    refine ⟨?_, fun q h1 h2 => ?_, fun q hq => ?_⟩
    · rw [e1]; exact Nat.le_trans hS.1 (by rw [← h0]; exact hF.1)
    · rw [e1, hF.2 q (by rw [h0]; exact Nat.lt_of_lt_of_le h1 hS.1) h2, h0]
      exact hS.2.1 q h1 h2
    · rcases List.mem_append.mp hq with h | h
      · exact hS.2.2 q h
      · exact hL q h
  obtain ⟨t2, a1, b1⟩ := kk T'.heap (locs ++ L) hS' hWd T' rfl X'
  exact ⟨t2, stp t2 a1, b1⟩
/-- a callee's words and room, decided once a callee -/
def CY (yc : Mth) (n : Nat) : Prop := Cond.code yc.1 yc.2.1 yc.2.2.1 yc.2.2.2 ∈ lw_g ∧ Cond.initialized yc.1.cls ∈ lw_g ∧ (yc.1.cls ≠ "java/lang/invoke/MethodHandle" ∧ yc.1.cls ≠ "java/lang/invoke/VarHandle" ∧ (parseMethodDescriptor yc.1.desc).map (fun d => d.parameters.length) = some n) ∧ yc.2.2.1 ≤ 40
theorem wsy_good {yc : Mth} {n : Nat} (h : CY yc n) : GoodIn lw_g (wsy yc) := fun w hw => by
  rcases List.mem_cons.mp hw with rfl | hw
  · exact ⟨h.1, good_of_word (lw_g_good _ h.1)⟩
  · exact ⟨hw, good_of_word (lw_g_good _ hw)⟩
theorem cy_callB {Γ : Gam} {y yc : Mth} {p : Program} {s : State} {m : MethodId} {args : Array Value} {meth : Method} {c : Code} {n idx d dc c1 s1 c2 s2 : Nat} (hc : Ctx Γ y p s m args meth c) (h : CY yc n) (hl : Cond.methodLink y.1.cls idx yc.1 ∈ lw_g) (hdep : dc + 1 ≤ d) : CallB (rmo d c2 s2) s args y.1.cls idx yc.1 yc.2.1 yc.2.2.1 yc.2.2.2 (wsy yc) (rmo dc c1 s1) c1 s1 n :=
  callB_of n hc.2.2.2.2.2.1 (wsy_good h) rfl rfl rfl (hc.2.2.2.2.2.1 _ h.2.1) (hc.2.2.2.2.2.1 _ hl) h.2.2.1 ⟨hdep, by
    have h4 := h.2.2.2
    show 8 + (yc.2.2.1 + 11) + 64 * dc ≤ 64 * d
    omega⟩
theorem ok_callV {α : Type} {Γ : Gam} {y : Mth} {d : Nat} {rv : α → Option Value} {pc : Nat} {lv : List (Nat × Value)} {st : List Value} {β : Type} {F : β → M α} {G : Nat → M β} {yc : Mth} {dc : Nat} {rvc : β → Option Value} {r : Option Nat} {idx cn : Nat} {C : String} {T : u_T} {N : Nat} (As rest : List Value) (hC : ∀ b : Nat, Ct Γ yc dc rvc (va_rf (some b) :: As) (G b)) (hcl : vcl[cn]? = some (C, T, N)) (hy : CY yc As.length)
    (w1 : Cond.methodLink y.1.cls idx yc.1 ∈ lw_g) (w2 : Cond.instanceMethod yc.1 ∈ lw_g) (w3 : Cond.selects C yc.1 yc.1 ∈ lw_g) (hdep : dc + 1 ≤ d) (hrest : rest.length ≤ 4) (hst : st = As.reverse ++ va_rf r :: rest) (hd : decode y.2.1 pc = .ok (.invokevirtual idx, 3)) (kk : ∀ x : β, Ok Γ y d rv (pc + 3) lv ((rvc x).toList ++ rest) (F x)) : Ok Γ y d rv pc lv st (bn (pRc cn r) fun b => bn (G b) F) := by
  subst hst
  intro μ w μ' h
  obtain ⟨b, μ0, h1, h2⟩ := bn_some h
  obtain ⟨b', rfl, hK, e⟩ := pRc_some h1
  cases e
  obtain ⟨x, μ1, h3, h4⟩ := bn_some h2
  have hk := kk x μ1 w μ' h4
  have hg := hC b μ x μ1 h3
  refine ⟨⟨Nat.le_trans hg.1.1 hk.1.1, Nat.le_trans hg.1.2 hk.1.2⟩, ?_⟩
  intro p e s m args below meth c x0 s0 H locs ls hc g1 g2 hS hD hl
  have hM := hg.2 hc.2.2.2.2.2.2.2.2.2.1
  obtain ⟨cell, q1, q2, q3, -⟩ := (hD.2.2 b (by omega)).1.2.1 cn _ hK hcl
  have hCA := (hc.2.2.2.2.2.2.2.2.1.1.1 cn _ hcl).2
  have hsum := cat_sum rest
  refine w_back (a := (Value.ref b :: As).toArray) (va_runV (As := As) (rest := rest) (b := b) ⟨hc.1, hc.2.1, hc.2.2.2.1, hc.2.2.2.2.1, hc.2.2.2.2.2.1⟩ hM ⟨cy_callB hc hy w1 hdep, hc.2.2.2.2.2.1 _ w2, hc.2.2.2.2.2.1 _ w3⟩ ⟨pc_blind hc.2.2.2.2.2.2.2.2.2.1 _ _, ⟨cell, q1, by rw [q3]; rfl, by rw [q2]; exact hCA.1⟩, fun U hU hW => pc_at hc hS hD hU hW⟩ rfl rfl hl.1 rfl (by show 2 * 0 + _ ≤ 8; omega) hd ⟨by show _ ≤ mX μ' - x0; omega, by show _ ≤ mS μ' - s0; omega⟩) hS g1 g2 hg.1 ?_
  intro H' locs' hS' hD'
  exact hk.2 p e s m args below meth c x0 s0 H' locs' ls hc (by omega) (by omega) hS' hD' hl
theorem ok_callS {α : Type} {Γ : Gam} {y : Mth} {d : Nat} {rv : α → Option Value} {pc : Nat} {lv : List (Nat × Value)} {st : List Value} {β : Type} {F : β → M α} {G : M β} {yc : Mth} {dc : Nat} {rvc : β → Option Value} {idx : Nat} (As rest : List Value) (hC : Ct Γ yc dc rvc As G) (hy : CY yc As.length)
    (w1 : Cond.methodLink y.1.cls idx yc.1 ∈ lw_g) (w2 : Cond.static yc.1 ∈ lw_g) (hdep : dc + 1 ≤ d) (hrest : rest.length ≤ 4) (hst : st = As.reverse ++ rest) (hd : decode y.2.1 pc = .ok (.invokestatic idx, 3)) (kk : ∀ x : β, Ok Γ y d rv (pc + 3) lv ((rvc x).toList ++ rest) (F x)) : Ok Γ y d rv pc lv st (bn G F) := by
  subst hst
  intro μ w μ' h
  obtain ⟨x, μ1, h3, h4⟩ := bn_some h
  have hk := kk x μ1 w μ' h4
  have hg := hC μ x μ1 h3
  refine ⟨⟨Nat.le_trans hg.1.1 hk.1.1, Nat.le_trans hg.1.2 hk.1.2⟩, ?_⟩
  intro p e s m args below meth c x0 s0 H locs ls hc g1 g2 hS hD hl
  have hM := hg.2 hc.2.2.2.2.2.2.2.2.2.1
  have hsum := cat_sum rest
  refine w_back (a := As.toArray) (va_runS (As := As) (rest := rest) ⟨hc.1, hc.2.1, hc.2.2.2.1, hc.2.2.2.2.1, hc.2.2.2.2.2.1⟩ hM ⟨cy_callB hc hy w1 hdep, hc.2.2.2.2.2.1 _ w2⟩ ⟨pc_blind hc.2.2.2.2.2.2.2.2.2.1 _ _, fun U hU hW => pc_at hc hS hD hU hW⟩ rfl rfl hl.1 rfl (by show 2 * 0 + _ ≤ 8; omega) hd ⟨by show _ ≤ mX μ' - x0; omega, by show _ ≤ mS μ' - s0; omega⟩) hS g1 g2 hg.1 ?_
  intro H' locs' hS' hD'
  exact hk.2 p e s m args below meth c x0 s0 H' locs' ls hc (by omega) (by omega) hS' hD' hl
/-- a constructor; the receiver is any cell (an object that was just made) -/
theorem ok_callI {α : Type} {Γ : Gam} {y : Mth} {d : Nat} {rv : α → Option Value} {pc : Nat} {lv : List (Nat × Value)} {st : List Value} {F : M α} {G : Nat → M Unit} {yc : Mth} {dc : Nat} {r : Option Nat} {idx cn : Nat} (As rest : List Value) (hC : ∀ b : Nat, Ct Γ yc dc vV (va_rf (some b) :: As) (G b)) (hy : CY yc As.length) (hret : yc.2.2.2 = none) (hn : yc.1.name = "<init>")
    (w1 : Cond.methodLink y.1.cls idx yc.1 ∈ lw_g) (w2 : Cond.instanceMethod yc.1 ∈ lw_g) (hdep : dc + 1 ≤ d) (hrest : rest.length ≤ 4) (hst : st = As.reverse ++ va_rf r :: rest) (hd : decode y.2.1 pc = .ok (.invokespecial idx, 3)) (kk : Ok Γ y d rv (pc + 3) lv rest F) : Ok Γ y d rv pc lv st (bn (pRc cn r) fun b => bn (G b) fun _ => F) := by
  subst hst
  intro μ w μ' h
  obtain ⟨b, μ0, h1, h2⟩ := bn_some h
  obtain ⟨b', rfl, hK, e⟩ := pRc_some h1
  cases e
  obtain ⟨x, μ1, h3, h4⟩ := bn_some h2
  have hk := kk μ1 w μ' h4
  have hg := hC b μ x μ1 h3
  refine ⟨⟨Nat.le_trans hg.1.1 hk.1.1, Nat.le_trans hg.1.2 hk.1.2⟩, ?_⟩
  intro p e s m args below meth c x0 s0 H locs ls hc g1 g2 hS hD hl
  have hM := hg.2 hc.2.2.2.2.2.2.2.2.2.1
  have hsum := cat_sum rest
  have hB := cy_callB (c1 := mX μ1 - mX μ) (s1 := mS μ1 - mS μ) (c2 := mX μ' - x0) (s2 := mS μ' - s0) hc hy w1 hdep
  rw [hret] at hB
  refine w_back (a := (Value.ref b :: As).toArray) (va_runI (As := As) (rest := rest) (b := b) ⟨hc.1, hc.2.1, hc.2.2.2.1, hc.2.2.2.2.1, hc.2.2.2.2.2.1⟩ hM ⟨hB, hn, hc.2.2.2.2.2.1 _ w2⟩ ⟨pc_blind hc.2.2.2.2.2.2.2.2.2.1 _ _, fun U hU hW => pc_at hc hS hD hU hW⟩ rfl rfl hl.1 rfl (by show 2 * 0 + _ ≤ 8; omega) hd ⟨by show _ ≤ mX μ' - x0; omega, by show _ ≤ mS μ' - s0; omega⟩) hS g1 g2 hg.1 ?_
  intro H' locs' hS' hD'
  exact hk.2 p e s m args below meth c x0 s0 H' locs' ls hc (by omega) (by omega) hS' hD' hl
/-- a nest mate's private constructor -/
theorem ok_callIN {α : Type} {Γ : Gam} {y : Mth} {d : Nat} {rv : α → Option Value} {pc : Nat} {lv : List (Nat × Value)} {st : List Value} {F : M α} {G : Nat → M Unit} {yc : Mth} {dc : Nat} {r : Option Nat} {idx cn : Nat} {host : String} (As rest : List Value) (hC : ∀ b : Nat, Ct Γ yc dc vV (va_rf (some b) :: As) (G b)) (hy : CY yc As.length) (hret : yc.2.2.2 = none) (hn : yc.1.name = "<init>")
    (w1 : Cond.methodLinkNest y.1.cls idx yc.1 host ∈ lw_nn) (w2 : Cond.instanceMethod yc.1 ∈ lw_g) (hdep : dc + 1 ≤ d) (hrest : rest.length ≤ 4) (hst : st = As.reverse ++ va_rf r :: rest) (hd : decode y.2.1 pc = .ok (.invokespecial idx, 3)) (kk : Ok Γ y d rv (pc + 3) lv rest F) : Ok Γ y d rv pc lv st (bn (pRc cn r) fun b => bn (G b) fun _ => F) := by
  subst hst
  intro μ w μ' h
  obtain ⟨b, μ0, h1, h2⟩ := bn_some h
  obtain ⟨b', rfl, hK, e⟩ := pRc_some h1
  cases e
  obtain ⟨x, μ1, h3, h4⟩ := bn_some h2
  have hk := kk μ1 w μ' h4
  have hg := hC b μ x μ1 h3
  refine ⟨⟨Nat.le_trans hg.1.1 hk.1.1, Nat.le_trans hg.1.2 hk.1.2⟩, ?_⟩
  intro p e s m args below meth c x0 s0 H locs ls hc g1 g2 hS hD hl
  have hM := hg.2 hc.2.2.2.2.2.2.2.2.2.1
  have hsum := cat_sum rest
  have h40 := hy.2.2.2
  have hB := va_cnB (R := rmo d (mX μ' - x0) (mS μ' - s0)) (rm := rmo dc (mX μ1 - mX μ) (mS μ1 - mS μ)) (ret := yc.2.2.2) (maxL := yc.2.2.1) (bytes := yc.2.1) (ws' := lw_g) As.length hc.2.2.2.2.2.1 (wsy_good hy) rfl rfl rfl (hc.2.2.2.2.2.2.2.2.1.2.1 _ w1) (hc.2.2.2.2.2.1 _ hy.2.1) hy.2.2.1 ⟨hdep, by show 8 + (yc.2.2.1 + 11) + 64 * dc ≤ 64 * d; omega⟩
  rw [hret] at hB
  refine w_back (a := (Value.ref b :: As).toArray) (va_runIN (As := As) (rest := rest) (b := b) ⟨hc.1, hc.2.1, hc.2.2.2.1, hc.2.2.2.2.1, hc.2.2.2.2.2.1⟩ hM ⟨hB, hn, hc.2.2.2.2.2.1 _ w2⟩ ⟨pc_blind hc.2.2.2.2.2.2.2.2.2.1 _ _, fun U hU hW => pc_at hc hS hD hU hW⟩ rfl rfl hl.1 rfl (by show 2 * 0 + _ ≤ 8; omega) hd ⟨by show _ ≤ mX μ' - x0; omega, by show _ ≤ mS μ' - s0; omega⟩) hS g1 g2 hg.1 ?_
  intro H' locs' hS' hD'
  exact hk.2 p e s m args below meth c x0 s0 H' locs' ls hc (by omega) (by omega) hS' hD' hl
/-- a method's contract out of the walk of its body -/
theorem ct_of {α : Type} {Γ : Gam} {y : Mth} {d : Nat} {rv : α → Option Value} {av : List Value} {F : M α} (hp : plainName y.1.cls = true) (hlen : (lg_sl av).length ≤ y.2.2.1) (k : Ok Γ y d rv 0 (lv_args 0 av) [] F) : Ct Γ y d rv av F := by
  intro μ x μ' h
  refine ⟨(k μ x μ' h).1, fun hst => ?_⟩
  have hm := (k μ x μ' h).1
  refine Met.ofW (cc := y.2.1) (maxL := y.2.2.1) (ret := y.2.2.2) hp rfl ?_
  intro p e s m args below meth c s₁ B hml hv
  obtain ⟨rfl, hD, hKK, hb⟩ := hv
  have hts := atoms_spec (ws := wsy y) B.pre
  have hc : Ctx Γ y p s m av.toArray meth c := ⟨B.exec, B.bytes, B.returns, hml, findClass_of_methodNamed B.named, fun w hw => hts w (List.mem_cons_of_mem _ hw), B.notSynchronized, (name_of_methodNamed B.named B.method).1, hKK, hst, hb⟩
  have hl := lv_entry av (n := y.2.2.1) hlen
  rw [lg_entry_eq]
  have hW := (k μ x μ' h).2 p e s m av.toArray below meth c (mX μ) (mS μ) s.heap [] _ hc (Nat.le_refl _) (Nat.le_refl _) va_S.rf hD hl
  rw [Nat.sub_self, Nat.sub_self] at hW
  exact hW
end
section
theorem ok_mmax {α : Type} {Γ : Gam} {y : Mth} {d : Nat} {rv : α → Option Value} {pc : Nat} {lv : List (Nat × Value)} {st : List Value} {F : M α} {x z : Int32} {idx : Nat} (w1 : Cond.methodLink y.1.cls idx Lib.Math.max.name ∈ lw_g) (w2 : Cond.static Lib.Math.max.name ∈ lw_g) (w3 : Cond.initialized "java/lang/Math" ∈ lw_g) (w4 : Cond.code Lib.Math.max.name Lib.Math.max.code 2 (some .int) ∈ lw_g) (hdep : 1 ≤ d) (hst : st.length ≤ 20) (hd : decode y.2.1 pc = .ok (.invokestatic idx, 3)) (k : Ok Γ y d rv (pc + 3) lv (.int (if x < z then z else x) :: st) F) : Ok Γ y d rv pc lv (.int z :: .int x :: st) F := by
  intro μ w μ' h
  have hm := (k μ w μ' h).1
  refine ⟨hm, ?_⟩
  intro p e s m args below meth c x0 s0 H locs ls hc g1 g2 hS hD hl
  have hts := hc.2.2.2.2.2.1
  have hz := cat_sum st
  exact va_mmax hc.1 hc.2.1 (by rw [hl.1, hc.2.2.2.1]) hc.2.2.2.2.1 (hts _ w1) (hts _ w2) (hts _ w3) (hts _ w4) hdep (by show _ ≤ 64 * d; omega) (by show _ ≤ mX μ' - x0; omega) (by show _ ≤ mS μ' - s0; omega) hd ((k μ w μ' h).2 p e s m args below meth c x0 s0 H locs ls hc g1 g2 hS hD hl)
theorem ok_mmin {α : Type} {Γ : Gam} {y : Mth} {d : Nat} {rv : α → Option Value} {pc : Nat} {lv : List (Nat × Value)} {st : List Value} {F : M α} {x z : Int32} {idx : Nat} (w1 : Cond.methodLink y.1.cls idx Lib.Math.min.name ∈ lw_g) (w2 : Cond.static Lib.Math.min.name ∈ lw_g) (w3 : Cond.initialized "java/lang/Math" ∈ lw_g) (w4 : Cond.code Lib.Math.min.name Lib.Math.min.code 2 (some .int) ∈ lw_g) (hdep : 1 ≤ d) (hst : st.length ≤ 20) (hd : decode y.2.1 pc = .ok (.invokestatic idx, 3)) (k : Ok Γ y d rv (pc + 3) lv (.int (if z < x then z else x) :: st) F) : Ok Γ y d rv pc lv (.int z :: .int x :: st) F := by
  intro μ w μ' h
  have hm := (k μ w μ' h).1
  refine ⟨hm, ?_⟩
  intro p e s m args below meth c x0 s0 H locs ls hc g1 g2 hS hD hl
  have hts := hc.2.2.2.2.2.1
  have hz := cat_sum st
  exact va_mmin hc.1 hc.2.1 (by rw [hl.1, hc.2.2.2.1]) hc.2.2.2.2.1 (hts _ w1) (hts _ w2) (hts _ w3) (hts _ w4) hdep (by show _ ≤ 64 * d; omega) (by show _ ≤ mX μ' - x0; omega) (by show _ ≤ mS μ' - s0; omega) hd ((k μ w μ' h).2 p e s m args below meth c x0 s0 H locs ls hc g1 g2 hS hD hl)
theorem ok_mabs {α : Type} {Γ : Gam} {y : Mth} {d : Nat} {rv : α → Option Value} {pc : Nat} {lv : List (Nat × Value)} {st : List Value} {F : M α} {x : Int32} {idx : Nat} (w1 : Cond.methodLink y.1.cls idx Lib.Math.abs.name ∈ lw_g) (w2 : Cond.static Lib.Math.abs.name ∈ lw_g) (w3 : Cond.initialized "java/lang/Math" ∈ lw_g) (w4 : Cond.code Lib.Math.abs.name Lib.Math.abs.code 1 (some .int) ∈ lw_g) (hdep : 1 ≤ d) (hst : st.length ≤ 20) (hd : decode y.2.1 pc = .ok (.invokestatic idx, 3)) (k : Ok Γ y d rv (pc + 3) lv (.int (if 0 ≤ x then x else 0 - x) :: st) F) : Ok Γ y d rv pc lv (.int x :: st) F := by
  intro μ w μ' h
  have hm := (k μ w μ' h).1
  refine ⟨hm, ?_⟩
  intro p e s m args below meth c x0 s0 H locs ls hc g1 g2 hS hD hl
  have hts := hc.2.2.2.2.2.1
  have hz := cat_sum st
  exact va_mabs hc.1 hc.2.1 (by rw [hl.1, hc.2.2.2.1]) hc.2.2.2.2.1 (hts _ w1) (hts _ w2) (hts _ w3) (hts _ w4) hdep (by show _ ≤ 64 * d; omega) (by show _ ≤ mX μ' - x0; omega) (by show _ ≤ mS μ' - s0; omega) hd ((k μ w μ' h).2 p e s m args below meth c x0 s0 H locs ls hc g1 g2 hS hD hl)
/-- how often a loop may go round: far above what any run needs -/
def FU : Nat := 100000
theorem cf_in {C : String} {T : u_T} {N : Nat} (ps : List Nat) (hp : u_ws C T N = ps.filterMap (fun i => lw_tbl[i]?)) (h : (u_ws C T N).all goodWord = true) : ∀ w ∈ u_ws C T N, w ∈ lw_g := fun w hw => by
  have hg := List.all_eq_true.mp h w hw
  rw [hp] at hw
  obtain ⟨i, -, hi⟩ := List.mem_filterMap.mp hw
  exact List.mem_filter.mpr ⟨List.mem_of_getElem? hi, hg⟩
def dvb (v : Value) (t : Nat) : Bool := match v with
  | .int x => decide (x = 0 ∧ t ≠ 1 ∧ t ≠ 2)
  | .long x => decide (x = 0 ∧ t = 1)
  | .null => decide (t = 2)
  | _ => false
theorem dvb_ok {v : Value} {c k : Nat} (h : dvb v (fty c k) = true) : v = dvf c k := by
  unfold dvb at h
  unfold dvf
  cases v <;> simp at h
  · obtain ⟨h1, h2, h3⟩ := h
    rw [if_neg h2, if_neg h3, h1]
  · obtain ⟨h1, h2⟩ := h
    rw [if_pos h2, h1]
  · rw [if_neg (by omega), if_pos h]
theorem df_all {ty : Nat → FieldType} {c N : Nat} (h : ((List.range N).all fun k => dvb (defaultValue (ty k)) (fty c k)) = true) : ∀ k, k < N → defaultValue (ty k) = dvf c k := fun k hk => dvb_ok (List.all_eq_true.mp h k (List.mem_range.mpr hk))
theorem rf_obj {n : String} : ∀ r : Option Nat, narrow (.object n) (va_rf r) = va_rf r ∧ fits (.object n) (va_rf r) = true := fun r => by cases r <;> exact ⟨rfl, rfl⟩
theorem rf_arr {t : FieldType} : ∀ r : Option Nat, narrow (.array t) (va_rf r) = va_rf r ∧ fits (.array t) (va_rf r) = true := fun r => by cases r <;> exact ⟨rfl, rfl⟩
theorem ct_in {α : Type} {Γ : Gam} {y : Mth} {d : Nat} {rv : α → Option Value} {av : List Value} {F : M α} {lv : List (Nat × Value)} (hp : plainName y.1.cls = true) (hl : lv_args 0 av = lv) (hlen : (lg_sl av).length ≤ y.2.2.1) (k : Ok Γ y d rv 0 lv [] F) : Ct Γ y d rv av F := ct_of hp hlen (by rw [hl]; exact k)
theorem ok_callVI {α : Type} {Γ : Gam} {y : Mth} {d : Nat} {rv : α → Option Value} {pc : Nat} {lv : List (Nat × Value)} {st : List Value} {F : Int32 → M α} {G : Nat → M Int32} {yc : Mth} {dc : Nat} {r : Option Nat} {idx cn : Nat} {C : String} {T : u_T} {N : Nat} (As rest : List Value) (hC : ∀ b : Nat, Ct Γ yc dc vI (va_rf (some b) :: As) (G b)) (hcl : vcl[cn]? = some (C, T, N)) (hy : CY yc As.length)
    (w1 : Cond.methodLink y.1.cls idx yc.1 ∈ lw_g) (w2 : Cond.instanceMethod yc.1 ∈ lw_g) (w3 : Cond.selects C yc.1 yc.1 ∈ lw_g) (hdep : dc + 1 ≤ d) (hrest : rest.length ≤ 4) (hst : st = As.reverse ++ va_rf r :: rest) (hd : decode y.2.1 pc = .ok (.invokevirtual idx, 3)) (kk : ∀ x : Int32, Ok Γ y d rv (pc + 3) lv (.int x :: rest) (F x)) : Ok Γ y d rv pc lv st (bn (pRc cn r) fun b => bn (G b) F) :=
  ok_callV As rest hC hcl hy w1 w2 w3 hdep hrest hst hd kk
theorem ok_callSI {α : Type} {Γ : Gam} {y : Mth} {d : Nat} {rv : α → Option Value} {pc : Nat} {lv : List (Nat × Value)} {st : List Value} {F : Int32 → M α} {G : M Int32} {yc : Mth} {dc : Nat} {idx : Nat} (As rest : List Value) (hC : Ct Γ yc dc vI As G) (hy : CY yc As.length)
    (w1 : Cond.methodLink y.1.cls idx yc.1 ∈ lw_g) (w2 : Cond.static yc.1 ∈ lw_g) (hdep : dc + 1 ≤ d) (hrest : rest.length ≤ 4) (hst : st = As.reverse ++ rest) (hd : decode y.2.1 pc = .ok (.invokestatic idx, 3)) (kk : ∀ x : Int32, Ok Γ y d rv (pc + 3) lv (.int x :: rest) (F x)) : Ok Γ y d rv pc lv st (bn G F) :=
  ok_callS As rest hC hy w1 w2 hdep hrest hst hd kk
theorem ok_callVL {α : Type} {Γ : Gam} {y : Mth} {d : Nat} {rv : α → Option Value} {pc : Nat} {lv : List (Nat × Value)} {st : List Value} {F : Int64 → M α} {G : Nat → M Int64} {yc : Mth} {dc : Nat} {r : Option Nat} {idx cn : Nat} {C : String} {T : u_T} {N : Nat} (As rest : List Value) (hC : ∀ b : Nat, Ct Γ yc dc vL (va_rf (some b) :: As) (G b)) (hcl : vcl[cn]? = some (C, T, N)) (hy : CY yc As.length)
    (w1 : Cond.methodLink y.1.cls idx yc.1 ∈ lw_g) (w2 : Cond.instanceMethod yc.1 ∈ lw_g) (w3 : Cond.selects C yc.1 yc.1 ∈ lw_g) (hdep : dc + 1 ≤ d) (hrest : rest.length ≤ 4) (hst : st = As.reverse ++ va_rf r :: rest) (hd : decode y.2.1 pc = .ok (.invokevirtual idx, 3)) (kk : ∀ x : Int64, Ok Γ y d rv (pc + 3) lv (.long x :: rest) (F x)) : Ok Γ y d rv pc lv st (bn (pRc cn r) fun b => bn (G b) F) :=
  ok_callV As rest hC hcl hy w1 w2 w3 hdep hrest hst hd kk
theorem ok_callSL {α : Type} {Γ : Gam} {y : Mth} {d : Nat} {rv : α → Option Value} {pc : Nat} {lv : List (Nat × Value)} {st : List Value} {F : Int64 → M α} {G : M Int64} {yc : Mth} {dc : Nat} {idx : Nat} (As rest : List Value) (hC : Ct Γ yc dc vL As G) (hy : CY yc As.length)
    (w1 : Cond.methodLink y.1.cls idx yc.1 ∈ lw_g) (w2 : Cond.static yc.1 ∈ lw_g) (hdep : dc + 1 ≤ d) (hrest : rest.length ≤ 4) (hst : st = As.reverse ++ rest) (hd : decode y.2.1 pc = .ok (.invokestatic idx, 3)) (kk : ∀ x : Int64, Ok Γ y d rv (pc + 3) lv (.long x :: rest) (F x)) : Ok Γ y d rv pc lv st (bn G F) :=
  ok_callS As rest hC hy w1 w2 hdep hrest hst hd kk
theorem ok_callVR {α : Type} {Γ : Gam} {y : Mth} {d : Nat} {rv : α → Option Value} {pc : Nat} {lv : List (Nat × Value)} {st : List Value} {F : Option Nat → M α} {G : Nat → M (Option Nat)} {yc : Mth} {dc : Nat} {r : Option Nat} {idx cn : Nat} {C : String} {T : u_T} {N : Nat} (As rest : List Value) (hC : ∀ b : Nat, Ct Γ yc dc vP (va_rf (some b) :: As) (G b)) (hcl : vcl[cn]? = some (C, T, N)) (hy : CY yc As.length)
    (w1 : Cond.methodLink y.1.cls idx yc.1 ∈ lw_g) (w2 : Cond.instanceMethod yc.1 ∈ lw_g) (w3 : Cond.selects C yc.1 yc.1 ∈ lw_g) (hdep : dc + 1 ≤ d) (hrest : rest.length ≤ 4) (hst : st = As.reverse ++ va_rf r :: rest) (hd : decode y.2.1 pc = .ok (.invokevirtual idx, 3)) (kk : ∀ x : Option Nat, Ok Γ y d rv (pc + 3) lv (va_rf x :: rest) (F x)) : Ok Γ y d rv pc lv st (bn (pRc cn r) fun b => bn (G b) F) :=
  ok_callV As rest hC hcl hy w1 w2 w3 hdep hrest hst hd kk
theorem ok_callSR {α : Type} {Γ : Gam} {y : Mth} {d : Nat} {rv : α → Option Value} {pc : Nat} {lv : List (Nat × Value)} {st : List Value} {F : Option Nat → M α} {G : M (Option Nat)} {yc : Mth} {dc : Nat} {idx : Nat} (As rest : List Value) (hC : Ct Γ yc dc vP As G) (hy : CY yc As.length)
    (w1 : Cond.methodLink y.1.cls idx yc.1 ∈ lw_g) (w2 : Cond.static yc.1 ∈ lw_g) (hdep : dc + 1 ≤ d) (hrest : rest.length ≤ 4) (hst : st = As.reverse ++ rest) (hd : decode y.2.1 pc = .ok (.invokestatic idx, 3)) (kk : ∀ x : Option Nat, Ok Γ y d rv (pc + 3) lv (va_rf x :: rest) (F x)) : Ok Γ y d rv pc lv st (bn G F) :=
  ok_callS As rest hC hy w1 w2 hdep hrest hst hd kk
theorem ok_callVV {α : Type} {Γ : Gam} {y : Mth} {d : Nat} {rv : α → Option Value} {pc : Nat} {lv : List (Nat × Value)} {st : List Value} {F : M α} {G : Nat → M Unit} {yc : Mth} {dc : Nat} {r : Option Nat} {idx cn : Nat} {C : String} {T : u_T} {N : Nat} (As rest : List Value) (hC : ∀ b : Nat, Ct Γ yc dc vV (va_rf (some b) :: As) (G b)) (hcl : vcl[cn]? = some (C, T, N)) (hy : CY yc As.length)
    (w1 : Cond.methodLink y.1.cls idx yc.1 ∈ lw_g) (w2 : Cond.instanceMethod yc.1 ∈ lw_g) (w3 : Cond.selects C yc.1 yc.1 ∈ lw_g) (hdep : dc + 1 ≤ d) (hrest : rest.length ≤ 4) (hst : st = As.reverse ++ va_rf r :: rest) (hd : decode y.2.1 pc = .ok (.invokevirtual idx, 3)) (kk : Ok Γ y d rv (pc + 3) lv rest F) : Ok Γ y d rv pc lv st (bn (pRc cn r) fun b => bn (G b) fun _ => F) :=
  ok_callV As rest hC hcl hy w1 w2 w3 hdep hrest hst hd (fun _ => kk)
theorem ok_callSV {α : Type} {Γ : Gam} {y : Mth} {d : Nat} {rv : α → Option Value} {pc : Nat} {lv : List (Nat × Value)} {st : List Value} {F : M α} {G : M Unit} {yc : Mth} {dc : Nat} {idx : Nat} (As rest : List Value) (hC : Ct Γ yc dc vV As G) (hy : CY yc As.length)
    (w1 : Cond.methodLink y.1.cls idx yc.1 ∈ lw_g) (w2 : Cond.static yc.1 ∈ lw_g) (hdep : dc + 1 ≤ d) (hrest : rest.length ≤ 4) (hst : st = As.reverse ++ rest) (hd : decode y.2.1 pc = .ok (.invokestatic idx, 3)) (kk : Ok Γ y d rv (pc + 3) lv rest F) : Ok Γ y d rv pc lv st (bn G fun _ => F) :=
  ok_callS As rest hC hy w1 w2 hdep hrest hst hd (fun _ => kk)
def stO (k : Nat) (r : Option Nat) (i : Int32) (v : Option Nat) : M Unit := bn (pArr k r) fun a μ => if ¬ (i < 0 ∨ mN μ a ≤ i.toNatClampNeg) ∧ (v = none ∨ (1 ≤ mK μ (v.getD 0) ∧ mK μ (v.getD 0) ≤ 13)) then some ((), tP μ k a i.toNatClampNeg v) else none
theorem wd_tP {Γ : Gam} {μ : Mem} {H H' : Heap} {a kd i : Nat} {v : Option Nat} {j : Nat} (hD : Wd Γ μ H) (hk : 64 ≤ kd) (hj : kd % 8 = j) (h4 : 4 ≤ j) (hK : mK μ a = kd) (e1 : H'[a]? = some ((arrV (gA Γ j) (mN μ a) (ev μ a)).setSlot i (va_rf v))) (e2 : H'.size = H.size) (e3 : ∀ q, q ≠ a → H'[q]? = H[q]?) : Wd Γ (tP μ kd a i v) H' := by
  have h1 : ¬ kd % 8 = 1 := by omega
  have h4' : 4 ≤ kd % 8 := by omega
  refine wd_aput hD hk hK ?_ e2 e3 rfl rfl rfl rfl rfl (fun b hb => ?_)
  · rw [e1, arrV_store, hj]
    congr 2
    funext q
    by_cases hq : q = i
    · subst hq
      simp [updV, ev, hK, h1, h4', mK_tP, aI_tP, aL_tP, aP_tP, up3_eq]
    · have hz : ∀ {β : Type} (m : Nat → Nat → Nat → β) (v : β), up3 m kd a i v kd a q = m kd a q := fun m v => up3_ne (Or.inr hq)
      simp [updV, hq, ev, hK, h1, h4', mK_tP, aI_tP, aL_tP, aP_tP, hz]
  · funext q
    have hz : ∀ {β : Type} (m : Nat → Nat → Nat → β) (v : β) (g : Nat), up3 m kd a i v g b q = m g b q := fun m v g => up3_ne (Or.inl hb)
    simp only [ev, mK_tP, aI_tP, aL_tP, aP_tP, hz]
    try rfl
theorem ok_stP5 {α : Type} {Γ : Gam} {y : Mth} {d : Nat} {rv : α → Option Value} {pc : Nat} {lv : List (Nat × Value)} {st : List Value} {F : M α} {r v : Option Nat} {i : Int32} {kd : Nat} (hk : 64 ≤ kd) (hj : kd % 8 = 5) (hd : decode y.2.1 pc = .ok (.aastore, 1)) (kk : Ok Γ y d rv (pc + 1) lv st F) : Ok Γ y d rv pc lv (va_rf v :: .int i :: va_rf r :: st) (bn (stP kd 2 r i v) fun _ => F) := by
  intro μ w μ' h
  obtain ⟨u, μ1, h1, h2⟩ := bn_some h
  obtain ⟨a, μ2, h3, h4⟩ := bn_some h1
  obtain ⟨a', rfl, hK, e⟩ := pArr_some h3
  cases e
  by_cases hin : ¬ (i < 0 ∨ mN μ a ≤ i.toNatClampNeg) ∧ (v = none ∨ mK μ (v.getD 0) = 2 + 1)
  case neg => simp only [if_neg hin] at h4; cases h4
  simp only [if_pos hin] at h4
  cases h4
  refine ⟨(kk _ w μ' h2).1, ?_⟩
  intro p e s m args below meth c x0 s0 H locs ls hc g1 g2 hS hD hl
  have hcell := wd_arr hD hk hK
  rw [hj] at hcell
  have hA := (hc.2.2.2.2.2.2.2.2.1.1.2 5 _ rfl)
  have hlt : i.toNatClampNeg < mN μ a := Nat.not_le.mp fun q => hin.1 (Or.inr q)
  have h0 : ¬ i < 0 := fun q => hin.1 (Or.inl q)
  cases v with
  | none =>
    refine va_WaastN (C := "GrainPit$Month") hc.1 hc.2.1 hcell (hA.1 _ _) (fun h => by cases h) (by rw [arrV_size]; exact hin.1) rfl rfl hd fun H' e1 e2 e3 => ?_
    exact (kk _ w μ' h2).2 p e s m args below meth c x0 s0 H' _ ls hc g1 g2 (hS.put e2 e3 (arr_base hD hk (by omega) hK)) (wd_tP (v := none) hD hk hj (by omega) hK e1 e2 e3) hl
  | some q =>
    have hq : mK μ q = 2 + 1 := hin.2.elim (fun z => nomatch z) (fun z => z)
    obtain ⟨cellV, q1, q2, q3, -⟩ := (hD.2.2 q (by omega)).1.2.1 2 _ hq rfl
    obtain ⟨kA, comp, k1, k2, k3, -⟩ := hA.2
    have hcls := (hc.2.2.2.2.2.2.2.2.1.1.1 2 _ rfl).2
    have hcomp : comp = (gD Γ).1 2 := Option.some.inj (k3.symm.trans hcls.1)
    subst hcomp
    obtain ⟨kC, hkC, -⟩ := hcls.2
    refine W.aast hc.1 hc.2.1 hcell (fun q h => by cases h) (fun h => by cases h) k1 k2 rfl hkC ⟨h0, by rw [arrV_size]; exact hlt⟩ q1 (fun q h => by rw [q3] at h; cases h) (by rw [q2]; exact hkC) (by rw [q2]; exact va_assign hcls) rfl rfl hd fun H' e1 e2 e3 => ?_
    exact (kk _ w μ' h2).2 p e s m args below meth c x0 s0 H' _ ls hc g1 g2 (hS.put e2 e3 (arr_base hD hk (by omega) hK)) (wd_tP (v := some q) hD hk hj (by omega) hK e1 e2 e3) hl
theorem ok_stP6 {α : Type} {Γ : Gam} {y : Mth} {d : Nat} {rv : α → Option Value} {pc : Nat} {lv : List (Nat × Value)} {st : List Value} {F : M α} {r v : Option Nat} {i : Int32} {kd : Nat} (hk : 64 ≤ kd) (hj : kd % 8 = 6) (hd : decode y.2.1 pc = .ok (.aastore, 1)) (kk : Ok Γ y d rv (pc + 1) lv st F) : Ok Γ y d rv pc lv (va_rf v :: .int i :: va_rf r :: st) (bn (stP kd 8 r i v) fun _ => F) := by
  intro μ w μ' h
  obtain ⟨u, μ1, h1, h2⟩ := bn_some h
  obtain ⟨a, μ2, h3, h4⟩ := bn_some h1
  obtain ⟨a', rfl, hK, e⟩ := pArr_some h3
  cases e
  by_cases hin : ¬ (i < 0 ∨ mN μ a ≤ i.toNatClampNeg) ∧ (v = none ∨ mK μ (v.getD 0) = 8 + 1)
  case neg => simp only [if_neg hin] at h4; cases h4
  simp only [if_pos hin] at h4
  cases h4
  refine ⟨(kk _ w μ' h2).1, ?_⟩
  intro p e s m args below meth c x0 s0 H locs ls hc g1 g2 hS hD hl
  have hcell := wd_arr hD hk hK
  rw [hj] at hcell
  have hA := (hc.2.2.2.2.2.2.2.2.1.1.2 6 _ rfl)
  have hlt : i.toNatClampNeg < mN μ a := Nat.not_le.mp fun q => hin.1 (Or.inr q)
  have h0 : ¬ i < 0 := fun q => hin.1 (Or.inl q)
  cases v with
  | none =>
    refine va_WaastN (C := "GrainPit$Settle") hc.1 hc.2.1 hcell (hA.1 _ _) (fun h => by cases h) (by rw [arrV_size]; exact hin.1) rfl rfl hd fun H' e1 e2 e3 => ?_
    exact (kk _ w μ' h2).2 p e s m args below meth c x0 s0 H' _ ls hc g1 g2 (hS.put e2 e3 (arr_base hD hk (by omega) hK)) (wd_tP (v := none) hD hk hj (by omega) hK e1 e2 e3) hl
  | some q =>
    have hq : mK μ q = 8 + 1 := hin.2.elim (fun z => nomatch z) (fun z => z)
    obtain ⟨cellV, q1, q2, q3, -⟩ := (hD.2.2 q (by omega)).1.2.1 8 _ hq rfl
    obtain ⟨kA, comp, k1, k2, k3, -⟩ := hA.2
    have hcls := (hc.2.2.2.2.2.2.2.2.1.1.1 8 _ rfl).2
    have hcomp : comp = (gD Γ).1 8 := Option.some.inj (k3.symm.trans hcls.1)
    subst hcomp
    obtain ⟨kC, hkC, -⟩ := hcls.2
    refine W.aast hc.1 hc.2.1 hcell (fun q h => by cases h) (fun h => by cases h) k1 k2 rfl hkC ⟨h0, by rw [arrV_size]; exact hlt⟩ q1 (fun q h => by rw [q3] at h; cases h) (by rw [q2]; exact hkC) (by rw [q2]; exact va_assign hcls) rfl rfl hd fun H' e1 e2 e3 => ?_
    exact (kk _ w μ' h2).2 p e s m args below meth c x0 s0 H' _ ls hc g1 g2 (hS.put e2 e3 (arr_base hD hk (by omega) hK)) (wd_tP (v := some q) hD hk hj (by omega) hK e1 e2 e3) hl
theorem lg_len (av : List Value) : (lg_sl av).length = (av.map fun v => v.category).sum := by
  induction av with
  | nil => rfl
  | cons v r ih =>
    have h : lg_sl (v :: r) = (if v.category = 2 then [Slot.val v, .second] else [.val v]) ++ lg_sl r := rfl
    rw [h, List.length_append, ih, List.map_cons, List.sum_cons]
    rcases lv_cat v with e | e <;> simp [e]
end
section
def cK (i : Nat) : M (Option Nat) := fun μ => some (mT μ i, μ)
def kIx (μ : Mem) (o : Nat) (r : Option Nat) : Option Nat := if r = mT μ o then some 0 else if r = mT μ (o + 1) then some 1 else if r = mT μ (o + 2) then some 2 else none
theorem kIx_some {μ : Mem} {o i : Nat} {r : Option Nat} (h : kIx μ o r = some i) : i < 3 ∧ r = mT μ (o + i) := by
  unfold kIx at h
  by_cases h0 : r = mT μ o
  · rw [if_pos h0] at h; cases h; exact ⟨by decide, h0⟩
  rw [if_neg h0] at h
  by_cases h1 : r = mT μ (o + 1)
  · rw [if_pos h1] at h; cases h; exact ⟨by decide, h1⟩
  rw [if_neg h1] at h
  by_cases h2 : r = mT μ (o + 2)
  · rw [if_pos h2] at h; cases h; exact ⟨by decide, h2⟩
  rw [if_neg h2] at h
  cases h
/-- of a text: its bytes, its coder; of its bytes: how many, each; a text as a receiver -/
def kV (r : Option Nat) : M (Option Nat) := fun μ => match kIx μ 1 r with
  | none => none
  | some i => some (mT μ (11 + i), μ)
def kC (r : Option Nat) : M Int32 := fun μ => match kIx μ 1 r with
  | none => none
  | some _ => some (0, μ)
def kLen (r : Option Nat) : M Int32 := fun μ => match kIx μ 11 r with
  | none => none
  | some i => some (Int32.ofNat (kLn.getD i 0), μ)
def kBt (r : Option Nat) (j : Int32) : M Int32 := fun μ => match kIx μ 11 r with
  | none => none
  | some i => if ¬ (j < 0 ∨ kLn.getD i 0 ≤ j.toNatClampNeg) then some ((kBy.getD i []).getD j.toNatClampNeg 0, μ) else none
def kRc (r : Option Nat) : M Nat := fun μ => match kIx μ 1 r with
  | none => none
  | some _ => match r with
    | none => none
    | some a => some (a, μ)
theorem ok_getS0 {α : Type} {Γ : Gam} {y : Mth} {d : Nat} {rv : α → Option Value} {pc : Nat} {lv : List (Nat × Value)} {st : List Value} {F : Option Nat → M α} {idx : Nat} (w : Cond.fieldLink y.1.cls idx "java/util/ArrayList" "DEFAULTCAPACITY_EMPTY_ELEMENTDATA" "[Ljava/lang/Object;" ∈ lw_g) (hd : decode y.2.1 pc = .ok (.getstatic idx, 3)) (kk : ∀ r : Option Nat, Ok Γ y d rv (pc + 3) lv (va_rf r :: st) (F r)) : Ok Γ y d rv pc lv st (bn (cK 0) F) := by
  intro μ w' μ' h
  obtain ⟨u, μ1, h1, h2⟩ := bn_some h
  cases h1
  refine ⟨(kk _ μ w' μ' h2).1, ?_⟩
  intro p e s m args below meth c x0 s0 H locs ls hc g1 g2 hS hD hl
  have hZ := hc.2.2.2.2.2.2.2.2.1.2.2.1
  rw [← hD.2.1] at hZ
  exact va_gets hc.1 hc.2.1 hZ hS hc.2.2.2.2.1 (hc.2.2.2.2.2.1 _ w) (fun x hx => hx) hd ((kk _ μ w' μ' h2).2 p e s m args below meth c x0 s0 H locs ls hc g1 g2 hS hD hl)
theorem ok_getSF {α : Type} {Γ : Gam} {y : Mth} {d : Nat} {rv : α → Option Value} {pc : Nat} {lv : List (Nat × Value)} {st : List Value} {F : Option Nat → M α} {idx : Nat} (w : Cond.fieldLink y.1.cls idx "jdk/internal/util/Preconditions" "SIOOBE_FORMATTER" "Ljava/util/function/BiFunction;" ∈ lw_g) (hd : decode y.2.1 pc = .ok (.getstatic idx, 3)) (kk : ∀ r : Option Nat, Ok Γ y d rv (pc + 3) lv (va_rf r :: st) (F r)) : Ok Γ y d rv pc lv st (bn (cK 41) F) := by
  intro μ w' μ' h
  obtain ⟨u, μ1, h1, h2⟩ := bn_some h
  cases h1
  refine ⟨(kk _ μ w' μ' h2).1, ?_⟩
  intro p e s m args below meth c x0 s0 H locs ls hc g1 g2 hS hD hl
  have hZ := hc.2.2.2.2.2.2.2.2.1.2.2.2.2.2.1
  rw [← hD.2.1] at hZ
  exact va_gets hc.1 hc.2.1 hZ hS hc.2.2.2.2.1 (hc.2.2.2.2.2.1 _ w) (fun x hx => hx) hd ((kk _ μ w' μ' h2).2 p e s m args below meth c x0 s0 H locs ls hc g1 g2 hS hD hl)
theorem ok_getSC {α : Type} {Γ : Gam} {y : Mth} {d : Nat} {rv : α → Option Value} {pc : Nat} {lv : List (Nat × Value)} {st : List Value} {F : M α} {idx : Nat} (w : Cond.fieldLink y.1.cls idx "java/lang/String" "COMPACT_STRINGS" "Z" ∈ lw_g) (hd : decode y.2.1 pc = .ok (.getstatic idx, 3)) (kk : Ok Γ y d rv (pc + 3) lv (.int 1 :: st) F) : Ok Γ y d rv pc lv st F := by
  intro μ w' μ' h
  refine ⟨(kk μ w' μ' h).1, ?_⟩
  intro p e s m args below meth c x0 s0 H locs ls hc g1 g2 hS hD hl
  exact va_gets hc.1 hc.2.1 hc.2.2.2.2.2.2.2.2.1.2.2.2.2.1 hS hc.2.2.2.2.1 (hc.2.2.2.2.2.1 _ w) (fun x hx => hx) hd ((kk μ w' μ' h).2 p e s m args below meth c x0 s0 H locs ls hc g1 g2 hS hD hl)
theorem ok_ldcM {α : Type} {Γ : Gam} {y : Mth} {d : Nat} {rv : α → Option Value} {pc : Nat} {lv : List (Nat × Value)} {st : List Value} {F : Option Nat → M α} {idx : Nat} (w : Cond.classLink y.1.cls idx "[Ljava/lang/Object;" ∈ lw_g) (hd : decode y.2.1 pc = .ok (.ldc idx, 2)) (kk : ∀ r : Option Nat, Ok Γ y d rv (pc + 2) lv (va_rf r :: st) (F r)) : Ok Γ y d rv pc lv st (bn (cK 40) F) := by
  intro μ w' μ' h
  obtain ⟨u, μ1, h1, h2⟩ := bn_some h
  cases h1
  refine ⟨(kk _ μ w' μ' h2).1, ?_⟩
  intro p e s m args below meth c x0 s0 H locs ls hc g1 g2 hS hD hl
  obtain ⟨mi, e1, hM⟩ := hc.2.2.2.2.2.2.2.2.1.2.2.2.1
  have hk := (kk _ μ w' μ' h2).2 p e s m args below meth c x0 s0 H locs ls hc g1 g2 hS hD hl
  rw [hD.2.1, e1] at hk
  exact va_ldcM hc.1 hc.2.1 hc.2.2.2.2.1 (hc.2.2.2.2.2.1 _ w) hM hd hk
theorem ok_getC {α : Type} {Γ : Gam} {y : Mth} {d : Nat} {rv : α → Option Value} {pc : Nat} {lv : List (Nat × Value)} {st : List Value} {F : Option Nat → M α} {r : Option Nat} {idx kd : Nat} (hk : 64 ≤ kd) (hj : kd % 8 = 4) (w1 : Cond.methodLink y.1.cls idx ⟨"java/lang/Object", "getClass", "()Ljava/lang/Class;"⟩ ∈ lw_g) (w2 : Cond.declares ⟨"java/lang/Object", "getClass", "()Ljava/lang/Class;"⟩ ∈ lw_nn) (w3 : Cond.selects "[Ljava/lang/Object;" ⟨"java/lang/Object", "getClass", "()Ljava/lang/Class;"⟩ ⟨"java/lang/Object", "getClass", "()Ljava/lang/Class;"⟩ ∈ lw_g) (w4 : Cond.instanceMethod ⟨"java/lang/Object", "getClass", "()Ljava/lang/Class;"⟩ ∈ lw_g) (w5 : Cond.native ⟨"java/lang/Object", "getClass", "()Ljava/lang/Class;"⟩ ∈ lw_g)
    (hdep : 1 ≤ d) (hst : st.length ≤ 20) (hd : decode y.2.1 pc = .ok (.invokevirtual idx, 3)) (kk : ∀ q : Option Nat, Ok Γ y d rv (pc + 3) lv (va_rf q :: st) (F q)) : Ok Γ y d rv pc lv (va_rf r :: st) (bn (pArr kd r) fun _ => bn (cK 40) F) := by
  intro μ w' μ' h
  obtain ⟨a, μ0, h0, h00⟩ := bn_some h
  obtain ⟨a', rfl, hK, e⟩ := pArr_some h0
  cases e
  obtain ⟨u, μ1, h1, h2⟩ := bn_some h00
  cases h1
  refine ⟨(kk _ μ w' μ' h2).1, ?_⟩
  intro p e s m args below meth c x0 s0 H locs ls hc g1 g2 hS hD hl
  obtain ⟨mi, e1, hM⟩ := hc.2.2.2.2.2.2.2.2.1.2.2.2.1
  have hkk := (kk _ μ w' μ' h2).2 p e s m args below meth c x0 s0 H locs ls hc g1 g2 hS hD hl
  rw [hD.2.1, e1] at hkk
  have hts := hc.2.2.2.2.2.1
  have hcell := wd_arr hD hk hK
  rw [hj] at hcell
  have hz := cat_sum st
  have hRA := (hc.2.2.2.2.2.2.2.2.1.1.2 4 _ rfl).2
  exact va_getC hc.1 hc.2.1 (by rw [hl.1, hc.2.2.2.1]) hc.2.2.2.2.1 (hts _ w1) (va_Nw.use rfl (hc.2.2.2.2.2.2.2.2.1.2.1 _ w2)) (hts _ w3) (hts _ w4) (hts _ w5) hM ⟨_, hcell, rfl, va_nmO hRA rfl⟩ hdep (by show _ ≤ 64 * d; omega) hd hkk
theorem ok_ldcS0 {α : Type} {Γ : Gam} {y : Mth} {d : Nat} {rv : α → Option Value} {pc : Nat} {lv : List (Nat × Value)} {st : List Value} {F : Option Nat → M α} (hy : y.1.cls = "GrainPit$Reader") (hd : decode y.2.1 pc = .ok (.ldc 143, 2)) (kk : ∀ r : Option Nat, Ok Γ y d rv (pc + 2) lv (va_rf r :: st) (F r)) : Ok Γ y d rv pc lv st (bn (cK 1) F) := by
  intro μ w' μ' h
  obtain ⟨u, μ1, h1, h2⟩ := bn_some h
  cases h1
  refine ⟨(kk _ μ w' μ' h2).1, ?_⟩
  intro p e s m args below meth c x0 s0 H locs ls hc g1 g2 hS hD hl
  obtain ⟨aK, aV, q0, q1⟩ := hc.2.2.2.2.2.2.2.2.1.2.2.2.2.2.2.1
  have hkk := (kk _ μ w' μ' h2).2 p e s m args below meth c x0 s0 H locs ls hc g1 g2 hS hD hl
  rw [hD.2.1, (q0 0 (by decide)).1] at hkk
  exact va_ldcS hc.1 hc.2.1 (by rw [← hy]; exact hc.2.2.2.2.1) q1.2.1 hd hkk
theorem ok_ldcS1 {α : Type} {Γ : Gam} {y : Mth} {d : Nat} {rv : α → Option Value} {pc : Nat} {lv : List (Nat × Value)} {st : List Value} {F : Option Nat → M α} (hy : y.1.cls = "GrainPit$Reader") (hd : decode y.2.1 pc = .ok (.ldc 128, 2)) (kk : ∀ r : Option Nat, Ok Γ y d rv (pc + 2) lv (va_rf r :: st) (F r)) : Ok Γ y d rv pc lv st (bn (cK 2) F) := by
  intro μ w' μ' h
  obtain ⟨u, μ1, h1, h2⟩ := bn_some h
  cases h1
  refine ⟨(kk _ μ w' μ' h2).1, ?_⟩
  intro p e s m args below meth c x0 s0 H locs ls hc g1 g2 hS hD hl
  obtain ⟨aK, aV, q0, q1⟩ := hc.2.2.2.2.2.2.2.2.1.2.2.2.2.2.2.1
  have hkk := (kk _ μ w' μ' h2).2 p e s m args below meth c x0 s0 H locs ls hc g1 g2 hS hD hl
  rw [hD.2.1, (q0 1 (by decide)).1] at hkk
  exact va_ldcS hc.1 hc.2.1 (by rw [← hy]; exact hc.2.2.2.2.1) q1.2.2.1 hd hkk
theorem ok_ldcS2 {α : Type} {Γ : Gam} {y : Mth} {d : Nat} {rv : α → Option Value} {pc : Nat} {lv : List (Nat × Value)} {st : List Value} {F : Option Nat → M α} (hy : y.1.cls = "GrainPitModel") (hd : decode y.2.1 pc = .ok (.ldc 110, 2)) (kk : ∀ r : Option Nat, Ok Γ y d rv (pc + 2) lv (va_rf r :: st) (F r)) : Ok Γ y d rv pc lv st (bn (cK 3) F) := by
  intro μ w' μ' h
  obtain ⟨u, μ1, h1, h2⟩ := bn_some h
  cases h1
  refine ⟨(kk _ μ w' μ' h2).1, ?_⟩
  intro p e s m args below meth c x0 s0 H locs ls hc g1 g2 hS hD hl
  obtain ⟨aK, aV, q0, q1⟩ := hc.2.2.2.2.2.2.2.2.1.2.2.2.2.2.2.1
  have hkk := (kk _ μ w' μ' h2).2 p e s m args below meth c x0 s0 H locs ls hc g1 g2 hS hD hl
  rw [hD.2.1, (q0 2 (by decide)).1] at hkk
  exact va_ldcS hc.1 hc.2.1 (by rw [← hy]; exact hc.2.2.2.2.1) q1.2.2.2.1 hd hkk
theorem ok_ldcS3 {α : Type} {Γ : Gam} {y : Mth} {d : Nat} {rv : α → Option Value} {pc : Nat} {lv : List (Nat × Value)} {st : List Value} {F : Option Nat → M α} (hy : y.1.cls = "GrainPitModel") (hd : decode y.2.1 pc = .ok (.ldc 151, 2)) (kk : ∀ r : Option Nat, Ok Γ y d rv (pc + 2) lv (va_rf r :: st) (F r)) : Ok Γ y d rv pc lv st (bn (cK 2) F) := by
  intro μ w' μ' h
  obtain ⟨u, μ1, h1, h2⟩ := bn_some h
  cases h1
  refine ⟨(kk _ μ w' μ' h2).1, ?_⟩
  intro p e s m args below meth c x0 s0 H locs ls hc g1 g2 hS hD hl
  obtain ⟨aK, aV, q0, q1⟩ := hc.2.2.2.2.2.2.2.2.1.2.2.2.2.2.2.1
  have hkk := (kk _ μ w' μ' h2).2 p e s m args below meth c x0 s0 H locs ls hc g1 g2 hS hD hl
  rw [hD.2.1, (q0 1 (by decide)).1] at hkk
  exact va_ldcS hc.1 hc.2.1 (by rw [← hy]; exact hc.2.2.2.2.1) q1.2.2.2.2 hd hkk
theorem kx {Γ : Gam} {U : State} (h : EX Γ U) : ∃ aK aV : Nat → Nat, (∀ i, i < 3 → gT Γ (1 + i) = some (aK i) ∧ gT Γ (11 + i) = some (aV i)) ∧ vk_S 3 kLn kBy aK aV (fun q => gB Γ ≤ q) U U.heap := by
  obtain ⟨aK, aV, q0, q1, -⟩ := h.2.2.2.2.1
  exact ⟨aK, aV, q0, q1⟩
theorem ok_kV {α : Type} {Γ : Gam} {y : Mth} {d : Nat} {rv : α → Option Value} {pc : Nat} {lv : List (Nat × Value)} {st : List Value} {F : Option Nat → M α} {r : Option Nat} {idx : Nat} (w : Cond.fieldLink y.1.cls idx "java/lang/String" "value" "[B" ∈ lw_g) (hd : decode y.2.1 pc = .ok (.getfield idx, 3)) (kk : ∀ q : Option Nat, Ok Γ y d rv (pc + 3) lv (va_rf q :: st) (F q)) : Ok Γ y d rv pc lv (va_rf r :: st) (bn (kV r) F) := by
  intro μ w' μ' h
  obtain ⟨u, μ1, h1, h2⟩ := bn_some h
  unfold kV at h1
  cases hi : kIx μ 1 r with
  | none => rw [hi] at h1; cases h1
  | some i =>
    rw [hi] at h1
    cases h1
    obtain ⟨hi3, hr⟩ := kIx_some hi
    refine ⟨(kk _ μ w' μ' h2).1, ?_⟩
    intro p e s m args below meth c x0 s0 H locs ls hc g1 g2 hS hD hl
    obtain ⟨aK, aV, q0, q1⟩ := kx hc.2.2.2.2.2.2.2.2.1.2.2
    have hkk := (kk _ μ w' μ' h2).2 p e s m args below meth c x0 s0 H locs ls hc g1 g2 hS hD hl
    rw [hD.2.1, (q0 i hi3).2] at hkk
    rw [hr, hD.2.1, (q0 i hi3).1]
    exact vk_getf hc.1 hc.2.1 (q1.1 i hi3).2.2.1 hS hc.2.2.2.2.1 (hc.2.2.2.2.2.1 _ w) (fun x hx => hx) hd hkk
theorem ok_kC {α : Type} {Γ : Gam} {y : Mth} {d : Nat} {rv : α → Option Value} {pc : Nat} {lv : List (Nat × Value)} {st : List Value} {F : Int32 → M α} {r : Option Nat} {idx : Nat} (w : Cond.fieldLink y.1.cls idx "java/lang/String" "coder" "B" ∈ lw_g) (hd : decode y.2.1 pc = .ok (.getfield idx, 3)) (kk : ∀ q : Int32, Ok Γ y d rv (pc + 3) lv (.int q :: st) (F q)) : Ok Γ y d rv pc lv (va_rf r :: st) (bn (kC r) F) := by
  intro μ w' μ' h
  obtain ⟨u, μ1, h1, h2⟩ := bn_some h
  unfold kC at h1
  cases hi : kIx μ 1 r with
  | none => rw [hi] at h1; cases h1
  | some i =>
    rw [hi] at h1
    cases h1
    obtain ⟨hi3, hr⟩ := kIx_some hi
    refine ⟨(kk _ μ w' μ' h2).1, ?_⟩
    intro p e s m args below meth c x0 s0 H locs ls hc g1 g2 hS hD hl
    obtain ⟨aK, aV, q0, q1⟩ := kx hc.2.2.2.2.2.2.2.2.1.2.2
    have hkk := (kk _ μ w' μ' h2).2 p e s m args below meth c x0 s0 H locs ls hc g1 g2 hS hD hl
    rw [hr, hD.2.1, (q0 i hi3).1]
    exact vk_getf hc.1 hc.2.1 (q1.1 i hi3).2.1 hS hc.2.2.2.2.1 (hc.2.2.2.2.2.1 _ w) (fun x hx => hx) hd hkk
theorem ok_kLen {α : Type} {Γ : Gam} {y : Mth} {d : Nat} {rv : α → Option Value} {pc : Nat} {lv : List (Nat × Value)} {st : List Value} {F : Int32 → M α} {r : Option Nat} (hd : decode y.2.1 pc = .ok (.arraylength, 1)) (kk : ∀ q : Int32, Ok Γ y d rv (pc + 1) lv (.int q :: st) (F q)) : Ok Γ y d rv pc lv (va_rf r :: st) (bn (kLen r) F) := by
  intro μ w' μ' h
  obtain ⟨u, μ1, h1, h2⟩ := bn_some h
  unfold kLen at h1
  cases hi : kIx μ 11 r with
  | none => rw [hi] at h1; cases h1
  | some i =>
    rw [hi] at h1
    cases h1
    obtain ⟨hi3, hr⟩ := kIx_some hi
    refine ⟨(kk _ μ w' μ' h2).1, ?_⟩
    intro p e s m args below meth c x0 s0 H locs ls hc g1 g2 hS hD hl
    obtain ⟨aK, aV, q0, q1⟩ := kx hc.2.2.2.2.2.2.2.2.1.2.2
    have hkk := (kk _ μ w' μ' h2).2 p e s m args below meth c x0 s0 H locs ls hc g1 g2 hS hD hl
    rw [hr, hD.2.1, (q0 i hi3).2]
    exact va_tlen hc.1 hc.2.1 (q1.1 i hi3).2.2.2 hS rfl hd hkk
theorem ok_kBt {α : Type} {Γ : Gam} {y : Mth} {d : Nat} {rv : α → Option Value} {pc : Nat} {lv : List (Nat × Value)} {st : List Value} {F : Int32 → M α} {r : Option Nat} {j : Int32} (hd : decode y.2.1 pc = .ok (.baload, 1)) (kk : ∀ q : Int32, Ok Γ y d rv (pc + 1) lv (.int q :: st) (F q)) : Ok Γ y d rv pc lv (.int j :: va_rf r :: st) (bn (kBt r j) F) := by
  intro μ w' μ' h
  obtain ⟨u, μ1, h1, h2⟩ := bn_some h
  unfold kBt at h1
  cases hi : kIx μ 11 r with
  | none => rw [hi] at h1; cases h1
  | some i =>
    rw [hi] at h1
    by_cases hin : ¬ (j < 0 ∨ kLn.getD i 0 ≤ j.toNatClampNeg)
    case neg => simp only [if_neg hin] at h1; cases h1
    simp only [if_pos hin] at h1
    cases h1
    obtain ⟨hi3, hr⟩ := kIx_some hi
    refine ⟨(kk _ μ w' μ' h2).1, ?_⟩
    intro p e s m args below meth c x0 s0 H locs ls hc g1 g2 hS hD hl
    obtain ⟨aK, aV, q0, q1⟩ := kx hc.2.2.2.2.2.2.2.2.1.2.2
    have hkk := (kk _ μ w' μ' h2).2 p e s m args below meth c x0 s0 H locs ls hc g1 g2 hS hD hl
    rw [hr, hD.2.1, (q0 i hi3).2]
    exact va_tb hc.1 hc.2.1 (q1.1 i hi3).2.2.2 hS hin rfl hd hkk
/-- a call on a text -/
theorem ok_callK {α : Type} {Γ : Gam} {y : Mth} {d : Nat} {rv : α → Option Value} {pc : Nat} {lv : List (Nat × Value)} {st : List Value} {F : Int32 → M α} {G : Nat → M Int32} {yc : Mth} {dc : Nat} {r : Option Nat} {idx : Nat} (As rest : List Value) (hC : ∀ b : Nat, Ct Γ yc dc vI (va_rf (some b) :: As) (G b)) (hy : CY yc As.length)
    (w1 : Cond.methodLink y.1.cls idx yc.1 ∈ lw_g) (w2 : Cond.instanceMethod yc.1 ∈ lw_g) (w3 : Cond.selects "java/lang/String" yc.1 yc.1 ∈ lw_g) (hdep : dc + 1 ≤ d) (hrest : rest.length ≤ 4) (hst : st = As.reverse ++ va_rf r :: rest) (hd : decode y.2.1 pc = .ok (.invokevirtual idx, 3)) (kk : ∀ x : Int32, Ok Γ y d rv (pc + 3) lv (.int x :: rest) (F x)) : Ok Γ y d rv pc lv st (bn (kRc r) fun b => bn (G b) F) := by
  subst hst
  intro μ w μ' h
  obtain ⟨b, μ0, h1, h2⟩ := bn_some h
  unfold kRc at h1
  cases hi : kIx μ 1 r with
  | none => rw [hi] at h1; cases h1
  | some i =>
    rw [hi] at h1
    cases r with
    | none => cases h1
    | some b' =>
      cases h1
      obtain ⟨hi3, hr⟩ := kIx_some hi
      obtain ⟨x, μ1, h3, h4⟩ := bn_some h2
      have hk := kk x μ1 w μ' h4
      have hg := hC b μ x μ1 h3
      refine ⟨⟨Nat.le_trans hg.1.1 hk.1.1, Nat.le_trans hg.1.2 hk.1.2⟩, ?_⟩
      intro p e s m args below meth c x0 s0 H locs ls hc g1 g2 hS hD hl
      have hM := hg.2 hc.2.2.2.2.2.2.2.2.2.1
      obtain ⟨aK, aV, q0, q1⟩ := kx hc.2.2.2.2.2.2.2.2.1.2.2
      have hb : b = aK i := by
        rw [hD.2.1, (q0 i hi3).1] at hr
        exact Option.some.inj hr
      subst hb
      have hsum := cat_sum rest
      refine w_back (a := (Value.ref (aK i) :: As).toArray) (va_runV (As := As) (rest := rest) (b := aK i) ⟨hc.1, hc.2.1, hc.2.2.2.1, hc.2.2.2.2.1, hc.2.2.2.2.2.1⟩ hM ⟨cy_callB hc hy w1 hdep, hc.2.2.2.2.2.1 _ w2, hc.2.2.2.2.2.1 _ w3⟩ ⟨pc_blind hc.2.2.2.2.2.2.2.2.2.1 _ _, vk_recv q1 hi3 hS, fun U hU hW => pc_at hc hS hD hU hW⟩ rfl rfl hl.1 rfl (by show 2 * 0 + _ ≤ 8; omega) hd ⟨by show _ ≤ mX μ' - x0; omega, by show _ ≤ mS μ' - s0; omega⟩) hS g1 g2 hg.1 ?_
      intro H' locs' hS' hD'
      exact hk.2 p e s m args below meth c x0 s0 H' locs' ls hc (by omega) (by omega) hS' hD' hl
end
