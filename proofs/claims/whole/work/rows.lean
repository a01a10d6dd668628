section
-- ===== PART A: goes FIRST, ahead of the names: the tables' words, and 'selects' of the private methods out of them =====
/-- a private method of a class that the tables say can be made, by its rows of tables_1 -/
def lw_okq (q : MethodName × Nat) : Prop := (q.1.cls ≠ "java/lang/invoke/MethodHandle" ∧ q.1.cls ≠ "java/lang/invoke/VarHandle") ∧ Cond.instantiable q.1.cls q.2 ∈ tables_1 ∧ Cond.privateMethod q.1 ∈ tables_1 ∧ Cond.instanceMethod q.1 ∈ tables_1
theorem lw_p0 : lw_okq (⟨"InclusionProver$Tree", "spellNode", "(IILInclusionProver$Text;I)V"⟩, 10) := ⟨⟨by decide +kernel, by decide +kernel⟩, List.mem_of_getElem? (i := 25) (by decide +kernel), List.mem_of_getElem? (i := 406) (by decide +kernel), List.mem_of_getElem? (i := 407) (by decide +kernel)⟩
theorem lw_p1 : lw_okq (⟨"InclusionProver$Tree", "spellChildren", "(IILInclusionProver$Text;I)V"⟩, 10) := ⟨⟨by decide +kernel, by decide +kernel⟩, List.mem_of_getElem? (i := 25) (by decide +kernel), List.mem_of_getElem? (i := 422) (by decide +kernel), List.mem_of_getElem? (i := 423) (by decide +kernel)⟩
theorem lw_p2 : lw_okq (⟨"InclusionProver$TermFinder", "pushFactors", "(I)V"⟩, 8) := ⟨⟨by decide +kernel, by decide +kernel⟩, List.mem_of_getElem? (i := 105) (by decide +kernel), List.mem_of_getElem? (i := 438) (by decide +kernel), List.mem_of_getElem? (i := 439) (by decide +kernel)⟩
theorem lw_p3 : lw_okq (⟨"InclusionProver$TermFinder", "push", "(I)V"⟩, 8) := ⟨⟨by decide +kernel, by decide +kernel⟩, List.mem_of_getElem? (i := 105) (by decide +kernel), List.mem_of_getElem? (i := 445) (by decide +kernel), List.mem_of_getElem? (i := 446) (by decide +kernel)⟩
theorem lw_p4 : lw_okq (⟨"InclusionProver$TermFinder", "numberOfTerm", "()I"⟩, 8) := ⟨⟨by decide +kernel, by decide +kernel⟩, List.mem_of_getElem? (i := 105) (by decide +kernel), List.mem_of_getElem? (i := 449) (by decide +kernel), List.mem_of_getElem? (i := 450) (by decide +kernel)⟩
theorem lw_p5 : lw_okq (⟨"InclusionProver$TermFinder", "isBehind", "(I)Z"⟩, 8) := ⟨⟨by decide +kernel, by decide +kernel⟩, List.mem_of_getElem? (i := 105) (by decide +kernel), List.mem_of_getElem? (i := 453) (by decide +kernel), List.mem_of_getElem? (i := 454) (by decide +kernel)⟩
theorem lw_p6 : lw_okq (⟨"InclusionProver$TermFinder", "tellTerm", "(ILInclusionProver$Side;)V"⟩, 8) := ⟨⟨by decide +kernel, by decide +kernel⟩, List.mem_of_getElem? (i := 105) (by decide +kernel), List.mem_of_getElem? (i := 457) (by decide +kernel), List.mem_of_getElem? (i := 458) (by decide +kernel)⟩
theorem lw_p7 : lw_okq (⟨"InclusionProver$TermFinder", "findParts", "(IILInclusionProver$Side;)V"⟩, 8) := ⟨⟨by decide +kernel, by decide +kernel⟩, List.mem_of_getElem? (i := 105) (by decide +kernel), List.mem_of_getElem? (i := 470) (by decide +kernel), List.mem_of_getElem? (i := 471) (by decide +kernel)⟩
theorem lw_p8 : lw_okq (⟨"InclusionProver$TermFinder", "gatherFactors", "(ILInclusionProver$Side;I)V"⟩, 8) := ⟨⟨by decide +kernel, by decide +kernel⟩, List.mem_of_getElem? (i := 105) (by decide +kernel), List.mem_of_getElem? (i := 478) (by decide +kernel), List.mem_of_getElem? (i := 479) (by decide +kernel)⟩
theorem lw_p9 : lw_okq (⟨"InclusionProver$TermFinder", "gatherNode", "(ILInclusionProver$Side;I)V"⟩, 8) := ⟨⟨by decide +kernel, by decide +kernel⟩, List.mem_of_getElem? (i := 105) (by decide +kernel), List.mem_of_getElem? (i := 482) (by decide +kernel), List.mem_of_getElem? (i := 483) (by decide +kernel)⟩
theorem lw_p10 : lw_okq (⟨"InclusionProver$Reader", "readSum", "(I)I"⟩, 5) := ⟨⟨by decide +kernel, by decide +kernel⟩, List.mem_of_getElem? (i := 82) (by decide +kernel), List.mem_of_getElem? (i := 571) (by decide +kernel), List.mem_of_getElem? (i := 572) (by decide +kernel)⟩
theorem lw_p11 : lw_okq (⟨"InclusionProver$Reader", "readProduct", "(I)I"⟩, 5) := ⟨⟨by decide +kernel, by decide +kernel⟩, List.mem_of_getElem? (i := 82) (by decide +kernel), List.mem_of_getElem? (i := 579) (by decide +kernel), List.mem_of_getElem? (i := 580) (by decide +kernel)⟩
theorem lw_p12 : lw_okq (⟨"InclusionProver$Reader", "readFactor", "(I)I"⟩, 5) := ⟨⟨by decide +kernel, by decide +kernel⟩, List.mem_of_getElem? (i := 82) (by decide +kernel), List.mem_of_getElem? (i := 583) (by decide +kernel), List.mem_of_getElem? (i := 584) (by decide +kernel)⟩
theorem lw_p13 : lw_okq (⟨"InclusionProver$Reader", "readAtom", "(I)I"⟩, 5) := ⟨⟨by decide +kernel, by decide +kernel⟩, List.mem_of_getElem? (i := 82) (by decide +kernel), List.mem_of_getElem? (i := 587) (by decide +kernel), List.mem_of_getElem? (i := 588) (by decide +kernel)⟩
theorem lw_p14 : lw_okq (⟨"InclusionProver$Reader", "next", "()I"⟩, 5) := ⟨⟨by decide +kernel, by decide +kernel⟩, List.mem_of_getElem? (i := 82) (by decide +kernel), List.mem_of_getElem? (i := 591) (by decide +kernel), List.mem_of_getElem? (i := 592) (by decide +kernel)⟩
theorem lw_p15 : lw_okq (⟨"InclusionProver$Tree", "push", "(I)V"⟩, 10) := ⟨⟨by decide +kernel, by decide +kernel⟩, List.mem_of_getElem? (i := 25) (by decide +kernel), List.mem_of_getElem? (i := 606) (by decide +kernel), List.mem_of_getElem? (i := 607) (by decide +kernel)⟩
def lw_privs_1 : List (MethodName × Nat) := [(⟨"InclusionProver$Tree", "spellNode", "(IILInclusionProver$Text;I)V"⟩, 10), (⟨"InclusionProver$Tree", "spellChildren", "(IILInclusionProver$Text;I)V"⟩, 10), (⟨"InclusionProver$TermFinder", "pushFactors", "(I)V"⟩, 8), (⟨"InclusionProver$TermFinder", "push", "(I)V"⟩, 8), (⟨"InclusionProver$TermFinder", "numberOfTerm", "()I"⟩, 8), (⟨"InclusionProver$TermFinder", "isBehind", "(I)Z"⟩, 8), (⟨"InclusionProver$TermFinder", "tellTerm", "(ILInclusionProver$Side;)V"⟩, 8), (⟨"InclusionProver$TermFinder", "findParts", "(IILInclusionProver$Side;)V"⟩, 8), (⟨"InclusionProver$TermFinder", "gatherFactors", "(ILInclusionProver$Side;I)V"⟩, 8), (⟨"InclusionProver$TermFinder", "gatherNode", "(ILInclusionProver$Side;I)V"⟩, 8), (⟨"InclusionProver$Reader", "readSum", "(I)I"⟩, 5), (⟨"InclusionProver$Reader", "readProduct", "(I)I"⟩, 5), (⟨"InclusionProver$Reader", "readFactor", "(I)I"⟩, 5), (⟨"InclusionProver$Reader", "readAtom", "(I)I"⟩, 5), (⟨"InclusionProver$Reader", "next", "()I"⟩, 5), (⟨"InclusionProver$Tree", "push", "(I)V"⟩, 10)]
theorem lw_r1 : ∀ q ∈ lw_privs_1, lw_okq q := List.forall_mem_cons.mpr ⟨lw_p0, List.forall_mem_cons.mpr ⟨lw_p1, List.forall_mem_cons.mpr ⟨lw_p2, List.forall_mem_cons.mpr ⟨lw_p3, List.forall_mem_cons.mpr ⟨lw_p4, List.forall_mem_cons.mpr ⟨lw_p5, List.forall_mem_cons.mpr ⟨lw_p6, List.forall_mem_cons.mpr ⟨lw_p7, List.forall_mem_cons.mpr ⟨lw_p8, List.forall_mem_cons.mpr ⟨lw_p9, List.forall_mem_cons.mpr ⟨lw_p10, List.forall_mem_cons.mpr ⟨lw_p11, List.forall_mem_cons.mpr ⟨lw_p12, List.forall_mem_cons.mpr ⟨lw_p13, List.forall_mem_cons.mpr ⟨lw_p14, List.forall_mem_cons.mpr ⟨lw_p15, fun _ h => absurd h List.not_mem_nil⟩⟩⟩⟩⟩⟩⟩⟩⟩⟩⟩⟩⟩⟩⟩⟩
theorem lw_p16 : lw_okq (⟨"InclusionProver$Tree", "nodeOf", "(II)I"⟩, 10) := ⟨⟨by decide +kernel, by decide +kernel⟩, List.mem_of_getElem? (i := 25) (by decide +kernel), List.mem_of_getElem? (i := 610) (by decide +kernel), List.mem_of_getElem? (i := 611) (by decide +kernel)⟩
theorem lw_p17 : lw_okq (⟨"InclusionProver$Tree", "hasChildren", "(II)Z"⟩, 10) := ⟨⟨by decide +kernel, by decide +kernel⟩, List.mem_of_getElem? (i := 25) (by decide +kernel), List.mem_of_getElem? (i := 614) (by decide +kernel), List.mem_of_getElem? (i := 615) (by decide +kernel)⟩
theorem lw_p18 : lw_okq (⟨"InclusionProver$Tree", "newNode", "(II)I"⟩, 10) := ⟨⟨by decide +kernel, by decide +kernel⟩, List.mem_of_getElem? (i := 25) (by decide +kernel), List.mem_of_getElem? (i := 618) (by decide +kernel), List.mem_of_getElem? (i := 619) (by decide +kernel)⟩
theorem lw_p19 : lw_okq (⟨"InclusionProver$Tree", "close", "(III)I"⟩, 10) := ⟨⟨by decide +kernel, by decide +kernel⟩, List.mem_of_getElem? (i := 25) (by decide +kernel), List.mem_of_getElem? (i := 632) (by decide +kernel), List.mem_of_getElem? (i := 633) (by decide +kernel)⟩
theorem lw_p20 : lw_okq (⟨"InclusionProver$Tree", "addOnce", "(II)V"⟩, 10) := ⟨⟨by decide +kernel, by decide +kernel⟩, List.mem_of_getElem? (i := 25) (by decide +kernel), List.mem_of_getElem? (i := 640) (by decide +kernel), List.mem_of_getElem? (i := 641) (by decide +kernel)⟩
theorem lw_p21 : lw_okq (⟨"InclusionProver", "faultOf", "(II)I"⟩, 11) := ⟨⟨by decide +kernel, by decide +kernel⟩, List.mem_of_getElem? (i := 17) (by decide +kernel), List.mem_of_getElem? (i := 648) (by decide +kernel), List.mem_of_getElem? (i := 649) (by decide +kernel)⟩
theorem lw_p22 : lw_okq (⟨"InclusionProver", "put", "(II)I"⟩, 11) := ⟨⟨by decide +kernel, by decide +kernel⟩, List.mem_of_getElem? (i := 17) (by decide +kernel), List.mem_of_getElem? (i := 653) (by decide +kernel), List.mem_of_getElem? (i := 654) (by decide +kernel)⟩
theorem lw_p23 : lw_okq (⟨"InclusionProver", "draftOf", "(ILInclusionProver$Text;LInclusionProver$Text;)V"⟩, 11) := ⟨⟨by decide +kernel, by decide +kernel⟩, List.mem_of_getElem? (i := 17) (by decide +kernel), List.mem_of_getElem? (i := 681) (by decide +kernel), List.mem_of_getElem? (i := 682) (by decide +kernel)⟩
theorem lw_p24 : lw_okq (⟨"InclusionProver$Side", "signsStart", "(I)I"⟩, 11) := ⟨⟨by decide +kernel, by decide +kernel⟩, List.mem_of_getElem? (i := 139) (by decide +kernel), List.mem_of_getElem? (i := 727) (by decide +kernel), List.mem_of_getElem? (i := 728) (by decide +kernel)⟩
theorem lw_p25 : lw_okq (⟨"InclusionProver$Side", "isAlike", "(ILInclusionProver$Side;I)Z"⟩, 11) := ⟨⟨by decide +kernel, by decide +kernel⟩, List.mem_of_getElem? (i := 139) (by decide +kernel), List.mem_of_getElem? (i := 752) (by decide +kernel), List.mem_of_getElem? (i := 753) (by decide +kernel)⟩
theorem lw_p26 : lw_okq (⟨"InclusionProver", "tapeIsWordOf", "(LInclusionProver$Side;)Z"⟩, 11) := ⟨⟨by decide +kernel, by decide +kernel⟩, List.mem_of_getElem? (i := 17) (by decide +kernel), List.mem_of_getElem? (i := 760) (by decide +kernel), List.mem_of_getElem? (i := 761) (by decide +kernel)⟩
theorem lw_p27 : lw_okq (⟨"InclusionProver$WordCounter", "begin", "(LInclusionProver$Side;LInclusionProver$Side;I)V"⟩, 7) := ⟨⟨by decide +kernel, by decide +kernel⟩, List.mem_of_getElem? (i := 327) (by decide +kernel), List.mem_of_getElem? (i := 779) (by decide +kernel), List.mem_of_getElem? (i := 780) (by decide +kernel)⟩
theorem lw_p28 : lw_okq (⟨"InclusionProver$WordCounter", "startLeft", "()I"⟩, 7) := ⟨⟨by decide +kernel, by decide +kernel⟩, List.mem_of_getElem? (i := 327) (by decide +kernel), List.mem_of_getElem? (i := 786) (by decide +kernel), List.mem_of_getElem? (i := 787) (by decide +kernel)⟩
theorem lw_p29 : lw_okq (⟨"InclusionProver$WordCounter", "startRight", "()I"⟩, 7) := ⟨⟨by decide +kernel, by decide +kernel⟩, List.mem_of_getElem? (i := 327) (by decide +kernel), List.mem_of_getElem? (i := 790) (by decide +kernel), List.mem_of_getElem? (i := 791) (by decide +kernel)⟩
theorem lw_p30 : lw_okq (⟨"InclusionProver$WordCounter", "countFrom", "(III)I"⟩, 7) := ⟨⟨by decide +kernel, by decide +kernel⟩, List.mem_of_getElem? (i := 327) (by decide +kernel), List.mem_of_getElem? (i := 794) (by decide +kernel), List.mem_of_getElem? (i := 795) (by decide +kernel)⟩
theorem lw_p31 : lw_okq (⟨"InclusionProver$WordCounter", "fits", "(ZZ)Z"⟩, 7) := ⟨⟨by decide +kernel, by decide +kernel⟩, List.mem_of_getElem? (i := 327) (by decide +kernel), List.mem_of_getElem? (i := 799) (by decide +kernel), List.mem_of_getElem? (i := 800) (by decide +kernel)⟩
def lw_privs_2 : List (MethodName × Nat) := [(⟨"InclusionProver$Tree", "nodeOf", "(II)I"⟩, 10), (⟨"InclusionProver$Tree", "hasChildren", "(II)Z"⟩, 10), (⟨"InclusionProver$Tree", "newNode", "(II)I"⟩, 10), (⟨"InclusionProver$Tree", "close", "(III)I"⟩, 10), (⟨"InclusionProver$Tree", "addOnce", "(II)V"⟩, 10), (⟨"InclusionProver", "faultOf", "(II)I"⟩, 11), (⟨"InclusionProver", "put", "(II)I"⟩, 11), (⟨"InclusionProver", "draftOf", "(ILInclusionProver$Text;LInclusionProver$Text;)V"⟩, 11), (⟨"InclusionProver$Side", "signsStart", "(I)I"⟩, 11), (⟨"InclusionProver$Side", "isAlike", "(ILInclusionProver$Side;I)Z"⟩, 11), (⟨"InclusionProver", "tapeIsWordOf", "(LInclusionProver$Side;)Z"⟩, 11), (⟨"InclusionProver$WordCounter", "begin", "(LInclusionProver$Side;LInclusionProver$Side;I)V"⟩, 7), (⟨"InclusionProver$WordCounter", "startLeft", "()I"⟩, 7), (⟨"InclusionProver$WordCounter", "startRight", "()I"⟩, 7), (⟨"InclusionProver$WordCounter", "countFrom", "(III)I"⟩, 7), (⟨"InclusionProver$WordCounter", "fits", "(ZZ)Z"⟩, 7)]
theorem lw_r2 : ∀ q ∈ lw_privs_2, lw_okq q := List.forall_mem_cons.mpr ⟨lw_p16, List.forall_mem_cons.mpr ⟨lw_p17, List.forall_mem_cons.mpr ⟨lw_p18, List.forall_mem_cons.mpr ⟨lw_p19, List.forall_mem_cons.mpr ⟨lw_p20, List.forall_mem_cons.mpr ⟨lw_p21, List.forall_mem_cons.mpr ⟨lw_p22, List.forall_mem_cons.mpr ⟨lw_p23, List.forall_mem_cons.mpr ⟨lw_p24, List.forall_mem_cons.mpr ⟨lw_p25, List.forall_mem_cons.mpr ⟨lw_p26, List.forall_mem_cons.mpr ⟨lw_p27, List.forall_mem_cons.mpr ⟨lw_p28, List.forall_mem_cons.mpr ⟨lw_p29, List.forall_mem_cons.mpr ⟨lw_p30, List.forall_mem_cons.mpr ⟨lw_p31, fun _ h => absurd h List.not_mem_nil⟩⟩⟩⟩⟩⟩⟩⟩⟩⟩⟩⟩⟩⟩⟩⟩
theorem lw_p32 : lw_okq (⟨"InclusionProver$WordCounter", "countBehind", "(IIII)I"⟩, 7) := ⟨⟨by decide +kernel, by decide +kernel⟩, List.mem_of_getElem? (i := 327) (by decide +kernel), List.mem_of_getElem? (i := 812) (by decide +kernel), List.mem_of_getElem? (i := 813) (by decide +kernel)⟩
theorem lw_p33 : lw_okq (⟨"InclusionProver$Search", "comeTo", "(IIII)I"⟩, 10) := ⟨⟨by decide +kernel, by decide +kernel⟩, List.mem_of_getElem? (i := 258) (by decide +kernel), List.mem_of_getElem? (i := 836) (by decide +kernel), List.mem_of_getElem? (i := 837) (by decide +kernel)⟩
theorem lw_p34 : lw_okq (⟨"InclusionProver$Search", "takeTurn", "(I)I"⟩, 10) := ⟨⟨by decide +kernel, by decide +kernel⟩, List.mem_of_getElem? (i := 258) (by decide +kernel), List.mem_of_getElem? (i := 845) (by decide +kernel), List.mem_of_getElem? (i := 846) (by decide +kernel)⟩
theorem lw_p35 : lw_okq (⟨"InclusionProver$Search", "tellApart", "(I)V"⟩, 10) := ⟨⟨by decide +kernel, by decide +kernel⟩, List.mem_of_getElem? (i := 258) (by decide +kernel), List.mem_of_getElem? (i := 850) (by decide +kernel), List.mem_of_getElem? (i := 851) (by decide +kernel)⟩
theorem lw_p36 : lw_okq (⟨"InclusionProver$Search", "step", "(III)Z"⟩, 10) := ⟨⟨by decide +kernel, by decide +kernel⟩, List.mem_of_getElem? (i := 258) (by decide +kernel), List.mem_of_getElem? (i := 859) (by decide +kernel), List.mem_of_getElem? (i := 860) (by decide +kernel)⟩
theorem lw_p37 : lw_okq (⟨"InclusionProver$Search", "lineFor", "(IIII)I"⟩, 10) := ⟨⟨by decide +kernel, by decide +kernel⟩, List.mem_of_getElem? (i := 258) (by decide +kernel), List.mem_of_getElem? (i := 877) (by decide +kernel), List.mem_of_getElem? (i := 878) (by decide +kernel)⟩
theorem lw_p38 : lw_okq (⟨"InclusionProver$Kernel", "reasonOf", "(I)I"⟩, 7) := ⟨⟨by decide +kernel, by decide +kernel⟩, List.mem_of_getElem? (i := 295) (by decide +kernel), List.mem_of_getElem? (i := 947) (by decide +kernel), List.mem_of_getElem? (i := 948) (by decide +kernel)⟩
theorem lw_p39 : lw_okq (⟨"InclusionProver$Kernel", "isMember", "(II)Z"⟩, 7) := ⟨⟨by decide +kernel, by decide +kernel⟩, List.mem_of_getElem? (i := 295) (by decide +kernel), List.mem_of_getElem? (i := 956) (by decide +kernel), List.mem_of_getElem? (i := 957) (by decide +kernel)⟩
theorem lw_p40 : lw_okq (⟨"InclusionProver$Kernel", "premisesAreLines", "(I)Z"⟩, 7) := ⟨⟨by decide +kernel, by decide +kernel⟩, List.mem_of_getElem? (i := 295) (by decide +kernel), List.mem_of_getElem? (i := 962) (by decide +kernel), List.mem_of_getElem? (i := 963) (by decide +kernel)⟩
theorem lw_p41 : lw_okq (⟨"InclusionProver$Kernel", "partsAreProved", "(III)Z"⟩, 7) := ⟨⟨by decide +kernel, by decide +kernel⟩, List.mem_of_getElem? (i := 295) (by decide +kernel), List.mem_of_getElem? (i := 968) (by decide +kernel), List.mem_of_getElem? (i := 969) (by decide +kernel)⟩
theorem lw_p42 : lw_okq (⟨"InclusionProver$Kernel", "hasPremiseFor", "(III)Z"⟩, 7) := ⟨⟨by decide +kernel, by decide +kernel⟩, List.mem_of_getElem? (i := 295) (by decide +kernel), List.mem_of_getElem? (i := 975) (by decide +kernel), List.mem_of_getElem? (i := 976) (by decide +kernel)⟩
theorem lw_p43 : lw_okq (⟨"InclusionProver$Kernel", "startsWell", "()Z"⟩, 7) := ⟨⟨by decide +kernel, by decide +kernel⟩, List.mem_of_getElem? (i := 295) (by decide +kernel), List.mem_of_getElem? (i := 979) (by decide +kernel), List.mem_of_getElem? (i := 980) (by decide +kernel)⟩
theorem lw_p44 : lw_okq (⟨"InclusionProver", "readSlot", "(I)I"⟩, 11) := ⟨⟨by decide +kernel, by decide +kernel⟩, List.mem_of_getElem? (i := 17) (by decide +kernel), List.mem_of_getElem? (i := 995) (by decide +kernel), List.mem_of_getElem? (i := 996) (by decide +kernel)⟩
theorem lw_p45 : lw_okq (⟨"InclusionProverModel", "zeroes", "(I)V"⟩, 46) := ⟨⟨by decide +kernel, by decide +kernel⟩, List.mem_of_getElem? (i := 1024) (by decide +kernel), List.mem_of_getElem? (i := 1032) (by decide +kernel), List.mem_of_getElem? (i := 1033) (by decide +kernel)⟩
theorem lw_p46 : lw_okq (⟨"InclusionProverModel", "laysBoth", "(II)V"⟩, 46) := ⟨⟨by decide +kernel, by decide +kernel⟩, List.mem_of_getElem? (i := 1024) (by decide +kernel), List.mem_of_getElem? (i := 1179) (by decide +kernel), List.mem_of_getElem? (i := 1180) (by decide +kernel)⟩
theorem lw_p47 : lw_okq (⟨"InclusionProverModel", "clears", "()V"⟩, 46) := ⟨⟨by decide +kernel, by decide +kernel⟩, List.mem_of_getElem? (i := 1024) (by decide +kernel), List.mem_of_getElem? (i := 1183) (by decide +kernel), List.mem_of_getElem? (i := 1184) (by decide +kernel)⟩
def lw_privs_3 : List (MethodName × Nat) := [(⟨"InclusionProver$WordCounter", "countBehind", "(IIII)I"⟩, 7), (⟨"InclusionProver$Search", "comeTo", "(IIII)I"⟩, 10), (⟨"InclusionProver$Search", "takeTurn", "(I)I"⟩, 10), (⟨"InclusionProver$Search", "tellApart", "(I)V"⟩, 10), (⟨"InclusionProver$Search", "step", "(III)Z"⟩, 10), (⟨"InclusionProver$Search", "lineFor", "(IIII)I"⟩, 10), (⟨"InclusionProver$Kernel", "reasonOf", "(I)I"⟩, 7), (⟨"InclusionProver$Kernel", "isMember", "(II)Z"⟩, 7), (⟨"InclusionProver$Kernel", "premisesAreLines", "(I)Z"⟩, 7), (⟨"InclusionProver$Kernel", "partsAreProved", "(III)Z"⟩, 7), (⟨"InclusionProver$Kernel", "hasPremiseFor", "(III)Z"⟩, 7), (⟨"InclusionProver$Kernel", "startsWell", "()Z"⟩, 7), (⟨"InclusionProver", "readSlot", "(I)I"⟩, 11), (⟨"InclusionProverModel", "zeroes", "(I)V"⟩, 46), (⟨"InclusionProverModel", "laysBoth", "(II)V"⟩, 46), (⟨"InclusionProverModel", "clears", "()V"⟩, 46)]
theorem lw_r3 : ∀ q ∈ lw_privs_3, lw_okq q := List.forall_mem_cons.mpr ⟨lw_p32, List.forall_mem_cons.mpr ⟨lw_p33, List.forall_mem_cons.mpr ⟨lw_p34, List.forall_mem_cons.mpr ⟨lw_p35, List.forall_mem_cons.mpr ⟨lw_p36, List.forall_mem_cons.mpr ⟨lw_p37, List.forall_mem_cons.mpr ⟨lw_p38, List.forall_mem_cons.mpr ⟨lw_p39, List.forall_mem_cons.mpr ⟨lw_p40, List.forall_mem_cons.mpr ⟨lw_p41, List.forall_mem_cons.mpr ⟨lw_p42, List.forall_mem_cons.mpr ⟨lw_p43, List.forall_mem_cons.mpr ⟨lw_p44, List.forall_mem_cons.mpr ⟨lw_p45, List.forall_mem_cons.mpr ⟨lw_p46, List.forall_mem_cons.mpr ⟨lw_p47, fun _ h => absurd h List.not_mem_nil⟩⟩⟩⟩⟩⟩⟩⟩⟩⟩⟩⟩⟩⟩⟩⟩
theorem lw_p48 : lw_okq (⟨"InclusionProverModel", "addsNode", "(II)I"⟩, 46) := ⟨⟨by decide +kernel, by decide +kernel⟩, List.mem_of_getElem? (i := 1024) (by decide +kernel), List.mem_of_getElem? (i := 1187) (by decide +kernel), List.mem_of_getElem? (i := 1188) (by decide +kernel)⟩
theorem lw_p49 : lw_okq (⟨"InclusionProverModel", "joins", "(III)V"⟩, 46) := ⟨⟨by decide +kernel, by decide +kernel⟩, List.mem_of_getElem? (i := 1024) (by decide +kernel), List.mem_of_getElem? (i := 1191) (by decide +kernel), List.mem_of_getElem? (i := 1192) (by decide +kernel)⟩
theorem lw_p50 : lw_okq (⟨"InclusionProverModel", "told", "([III)I"⟩, 46) := ⟨⟨by decide +kernel, by decide +kernel⟩, List.mem_of_getElem? (i := 1024) (by decide +kernel), List.mem_of_getElem? (i := 1195) (by decide +kernel), List.mem_of_getElem? (i := 1196) (by decide +kernel)⟩
theorem lw_p51 : lw_okq (⟨"InclusionProverModel", "opens", "()V"⟩, 46) := ⟨⟨by decide +kernel, by decide +kernel⟩, List.mem_of_getElem? (i := 1024) (by decide +kernel), List.mem_of_getElem? (i := 1199) (by decide +kernel), List.mem_of_getElem? (i := 1200) (by decide +kernel)⟩
theorem lw_p52 : lw_okq (⟨"InclusionProverModel", "addsFactor", "(I)V"⟩, 46) := ⟨⟨by decide +kernel, by decide +kernel⟩, List.mem_of_getElem? (i := 1024) (by decide +kernel), List.mem_of_getElem? (i := 1206) (by decide +kernel), List.mem_of_getElem? (i := 1207) (by decide +kernel)⟩
theorem lw_p53 : lw_okq (⟨"InclusionProverModel", "star", "(I)I"⟩, 46) := ⟨⟨by decide +kernel, by decide +kernel⟩, List.mem_of_getElem? (i := 1024) (by decide +kernel), List.mem_of_getElem? (i := 1210) (by decide +kernel), List.mem_of_getElem? (i := 1211) (by decide +kernel)⟩
theorem lw_p54 : lw_okq (⟨"InclusionProverModel", "kept", "(II)I"⟩, 46) := ⟨⟨by decide +kernel, by decide +kernel⟩, List.mem_of_getElem? (i := 1024) (by decide +kernel), List.mem_of_getElem? (i := 1214) (by decide +kernel), List.mem_of_getElem? (i := 1215) (by decide +kernel)⟩
theorem lw_p55 : lw_okq (⟨"InclusionProverModel", "endsProduct", "()V"⟩, 46) := ⟨⟨by decide +kernel, by decide +kernel⟩, List.mem_of_getElem? (i := 1024) (by decide +kernel), List.mem_of_getElem? (i := 1218) (by decide +kernel), List.mem_of_getElem? (i := 1219) (by decide +kernel)⟩
theorem lw_p56 : lw_okq (⟨"InclusionProverModel", "product", "([III)I"⟩, 46) := ⟨⟨by decide +kernel, by decide +kernel⟩, List.mem_of_getElem? (i := 1024) (by decide +kernel), List.mem_of_getElem? (i := 1222) (by decide +kernel), List.mem_of_getElem? (i := 1223) (by decide +kernel)⟩
theorem lw_p57 : lw_okq (⟨"InclusionProverModel", "notes", "(IZ)V"⟩, 46) := ⟨⟨by decide +kernel, by decide +kernel⟩, List.mem_of_getElem? (i := 1024) (by decide +kernel), List.mem_of_getElem? (i := 1226) (by decide +kernel), List.mem_of_getElem? (i := 1227) (by decide +kernel)⟩
theorem lw_p58 : lw_okq (⟨"InclusionProverModel", "endsSum", "()I"⟩, 46) := ⟨⟨by decide +kernel, by decide +kernel⟩, List.mem_of_getElem? (i := 1024) (by decide +kernel), List.mem_of_getElem? (i := 1230) (by decide +kernel), List.mem_of_getElem? (i := 1231) (by decide +kernel)⟩
theorem lw_p59 : lw_okq (⟨"InclusionProverModel", "sum", "([III)I"⟩, 46) := ⟨⟨by decide +kernel, by decide +kernel⟩, List.mem_of_getElem? (i := 1024) (by decide +kernel), List.mem_of_getElem? (i := 1234) (by decide +kernel), List.mem_of_getElem? (i := 1235) (by decide +kernel)⟩
theorem lw_p60 : lw_okq (⟨"InclusionProverModel", "laysTerms", "(II)V"⟩, 46) := ⟨⟨by decide +kernel, by decide +kernel⟩, List.mem_of_getElem? (i := 1024) (by decide +kernel), List.mem_of_getElem? (i := 1238) (by decide +kernel), List.mem_of_getElem? (i := 1239) (by decide +kernel)⟩
theorem lw_p61 : lw_okq (⟨"InclusionProverModel", "laysRow", "(III)V"⟩, 46) := ⟨⟨by decide +kernel, by decide +kernel⟩, List.mem_of_getElem? (i := 1024) (by decide +kernel), List.mem_of_getElem? (i := 1242) (by decide +kernel), List.mem_of_getElem? (i := 1243) (by decide +kernel)⟩
theorem lw_p62 : lw_okq (⟨"InclusionProverModel", "needs", "(II)V"⟩, 46) := ⟨⟨by decide +kernel, by decide +kernel⟩, List.mem_of_getElem? (i := 1024) (by decide +kernel), List.mem_of_getElem? (i := 1246) (by decide +kernel), List.mem_of_getElem? (i := 1247) (by decide +kernel)⟩
theorem lw_p63 : lw_okq (⟨"InclusionProverModel", "lacks", "(II)I"⟩, 46) := ⟨⟨by decide +kernel, by decide +kernel⟩, List.mem_of_getElem? (i := 1024) (by decide +kernel), List.mem_of_getElem? (i := 1250) (by decide +kernel), List.mem_of_getElem? (i := 1251) (by decide +kernel)⟩
def lw_privs_4 : List (MethodName × Nat) := [(⟨"InclusionProverModel", "addsNode", "(II)I"⟩, 46), (⟨"InclusionProverModel", "joins", "(III)V"⟩, 46), (⟨"InclusionProverModel", "told", "([III)I"⟩, 46), (⟨"InclusionProverModel", "opens", "()V"⟩, 46), (⟨"InclusionProverModel", "addsFactor", "(I)V"⟩, 46), (⟨"InclusionProverModel", "star", "(I)I"⟩, 46), (⟨"InclusionProverModel", "kept", "(II)I"⟩, 46), (⟨"InclusionProverModel", "endsProduct", "()V"⟩, 46), (⟨"InclusionProverModel", "product", "([III)I"⟩, 46), (⟨"InclusionProverModel", "notes", "(IZ)V"⟩, 46), (⟨"InclusionProverModel", "endsSum", "()I"⟩, 46), (⟨"InclusionProverModel", "sum", "([III)I"⟩, 46), (⟨"InclusionProverModel", "laysTerms", "(II)V"⟩, 46), (⟨"InclusionProverModel", "laysRow", "(III)V"⟩, 46), (⟨"InclusionProverModel", "needs", "(II)V"⟩, 46), (⟨"InclusionProverModel", "lacks", "(II)I"⟩, 46)]
theorem lw_r4 : ∀ q ∈ lw_privs_4, lw_okq q := List.forall_mem_cons.mpr ⟨lw_p48, List.forall_mem_cons.mpr ⟨lw_p49, List.forall_mem_cons.mpr ⟨lw_p50, List.forall_mem_cons.mpr ⟨lw_p51, List.forall_mem_cons.mpr ⟨lw_p52, List.forall_mem_cons.mpr ⟨lw_p53, List.forall_mem_cons.mpr ⟨lw_p54, List.forall_mem_cons.mpr ⟨lw_p55, List.forall_mem_cons.mpr ⟨lw_p56, List.forall_mem_cons.mpr ⟨lw_p57, List.forall_mem_cons.mpr ⟨lw_p58, List.forall_mem_cons.mpr ⟨lw_p59, List.forall_mem_cons.mpr ⟨lw_p60, List.forall_mem_cons.mpr ⟨lw_p61, List.forall_mem_cons.mpr ⟨lw_p62, List.forall_mem_cons.mpr ⟨lw_p63, fun _ h => absurd h List.not_mem_nil⟩⟩⟩⟩⟩⟩⟩⟩⟩⟩⟩⟩⟩⟩⟩⟩
theorem lw_p64 : lw_okq (⟨"InclusionProverModel", "behind", "(III)I"⟩, 46) := ⟨⟨by decide +kernel, by decide +kernel⟩, List.mem_of_getElem? (i := 1024) (by decide +kernel), List.mem_of_getElem? (i := 1254) (by decide +kernel), List.mem_of_getElem? (i := 1255) (by decide +kernel)⟩
theorem lw_p65 : lw_okq (⟨"InclusionProverModel", "laysParts", "(II)V"⟩, 46) := ⟨⟨by decide +kernel, by decide +kernel⟩, List.mem_of_getElem? (i := 1024) (by decide +kernel), List.mem_of_getElem? (i := 1258) (by decide +kernel), List.mem_of_getElem? (i := 1259) (by decide +kernel)⟩
theorem lw_p66 : lw_okq (⟨"InclusionProverModel", "lays", "(I)V"⟩, 46) := ⟨⟨by decide +kernel, by decide +kernel⟩, List.mem_of_getElem? (i := 1024) (by decide +kernel), List.mem_of_getElem? (i := 1262) (by decide +kernel), List.mem_of_getElem? (i := 1263) (by decide +kernel)⟩
theorem lw_p67 : lw_okq (⟨"InclusionProverModel", "partOf", "(III)I"⟩, 46) := ⟨⟨by decide +kernel, by decide +kernel⟩, List.mem_of_getElem? (i := 1024) (by decide +kernel), List.mem_of_getElem? (i := 1266) (by decide +kernel), List.mem_of_getElem? (i := 1267) (by decide +kernel)⟩
theorem lw_p68 : lw_okq (⟨"InclusionProverModel", "withStar", "(II)I"⟩, 46) := ⟨⟨by decide +kernel, by decide +kernel⟩, List.mem_of_getElem? (i := 1024) (by decide +kernel), List.mem_of_getElem? (i := 1270) (by decide +kernel), List.mem_of_getElem? (i := 1271) (by decide +kernel)⟩
theorem lw_p69 : lw_okq (⟨"InclusionProverModel", "termBy", "(II)I"⟩, 46) := ⟨⟨by decide +kernel, by decide +kernel⟩, List.mem_of_getElem? (i := 1024) (by decide +kernel), List.mem_of_getElem? (i := 1274) (by decide +kernel), List.mem_of_getElem? (i := 1275) (by decide +kernel)⟩
theorem lw_p70 : lw_okq (⟨"InclusionProverModel", "searches", "(I)I"⟩, 46) := ⟨⟨by decide +kernel, by decide +kernel⟩, List.mem_of_getElem? (i := 1024) (by decide +kernel), List.mem_of_getElem? (i := 1278) (by decide +kernel), List.mem_of_getElem? (i := 1279) (by decide +kernel)⟩
theorem lw_p71 : lw_okq (⟨"InclusionProverModel", "newLine", "(IIIII)V"⟩, 46) := ⟨⟨by decide +kernel, by decide +kernel⟩, List.mem_of_getElem? (i := 1024) (by decide +kernel), List.mem_of_getElem? (i := 1282) (by decide +kernel), List.mem_of_getElem? (i := 1283) (by decide +kernel)⟩
theorem lw_p72 : lw_okq (⟨"InclusionProverModel", "isMember", "(II)Z"⟩, 46) := ⟨⟨by decide +kernel, by decide +kernel⟩, List.mem_of_getElem? (i := 1024) (by decide +kernel), List.mem_of_getElem? (i := 1286) (by decide +kernel), List.mem_of_getElem? (i := 1287) (by decide +kernel)⟩
theorem lw_p73 : lw_okq (⟨"InclusionProverModel", "isFull", "(II)Z"⟩, 46) := ⟨⟨by decide +kernel, by decide +kernel⟩, List.mem_of_getElem? (i := 1024) (by decide +kernel), List.mem_of_getElem? (i := 1290) (by decide +kernel), List.mem_of_getElem? (i := 1291) (by decide +kernel)⟩
theorem lw_p74 : lw_okq (⟨"InclusionProverModel", "isFullSet", "(II)Z"⟩, 46) := ⟨⟨by decide +kernel, by decide +kernel⟩, List.mem_of_getElem? (i := 1024) (by decide +kernel), List.mem_of_getElem? (i := 1294) (by decide +kernel), List.mem_of_getElem? (i := 1295) (by decide +kernel)⟩
theorem lw_p75 : lw_okq (⟨"InclusionProverModel", "tellsWord", "(II)V"⟩, 46) := ⟨⟨by decide +kernel, by decide +kernel⟩, List.mem_of_getElem? (i := 1024) (by decide +kernel), List.mem_of_getElem? (i := 1298) (by decide +kernel), List.mem_of_getElem? (i := 1299) (by decide +kernel)⟩
theorem lw_p76 : lw_okq (⟨"InclusionProverModel", "steps", "(II)Z"⟩, 46) := ⟨⟨by decide +kernel, by decide +kernel⟩, List.mem_of_getElem? (i := 1024) (by decide +kernel), List.mem_of_getElem? (i := 1302) (by decide +kernel), List.mem_of_getElem? (i := 1303) (by decide +kernel)⟩
theorem lw_p77 : lw_okq (⟨"InclusionProverModel", "partsOf", "(III)I"⟩, 46) := ⟨⟨by decide +kernel, by decide +kernel⟩, List.mem_of_getElem? (i := 1024) (by decide +kernel), List.mem_of_getElem? (i := 1306) (by decide +kernel), List.mem_of_getElem? (i := 1307) (by decide +kernel)⟩
theorem lw_p78 : lw_okq (⟨"InclusionProverModel", "lineWith", "(III)I"⟩, 46) := ⟨⟨by decide +kernel, by decide +kernel⟩, List.mem_of_getElem? (i := 1024) (by decide +kernel), List.mem_of_getElem? (i := 1310) (by decide +kernel), List.mem_of_getElem? (i := 1311) (by decide +kernel)⟩
theorem lw_p79 : lw_okq (⟨"InclusionProverModel", "tried", "(II)I"⟩, 46) := ⟨⟨by decide +kernel, by decide +kernel⟩, List.mem_of_getElem? (i := 1024) (by decide +kernel), List.mem_of_getElem? (i := 1318) (by decide +kernel), List.mem_of_getElem? (i := 1319) (by decide +kernel)⟩
def lw_privs_5 : List (MethodName × Nat) := [(⟨"InclusionProverModel", "behind", "(III)I"⟩, 46), (⟨"InclusionProverModel", "laysParts", "(II)V"⟩, 46), (⟨"InclusionProverModel", "lays", "(I)V"⟩, 46), (⟨"InclusionProverModel", "partOf", "(III)I"⟩, 46), (⟨"InclusionProverModel", "withStar", "(II)I"⟩, 46), (⟨"InclusionProverModel", "termBy", "(II)I"⟩, 46), (⟨"InclusionProverModel", "searches", "(I)I"⟩, 46), (⟨"InclusionProverModel", "newLine", "(IIIII)V"⟩, 46), (⟨"InclusionProverModel", "isMember", "(II)Z"⟩, 46), (⟨"InclusionProverModel", "isFull", "(II)Z"⟩, 46), (⟨"InclusionProverModel", "isFullSet", "(II)Z"⟩, 46), (⟨"InclusionProverModel", "tellsWord", "(II)V"⟩, 46), (⟨"InclusionProverModel", "steps", "(II)Z"⟩, 46), (⟨"InclusionProverModel", "partsOf", "(III)I"⟩, 46), (⟨"InclusionProverModel", "lineWith", "(III)I"⟩, 46), (⟨"InclusionProverModel", "tried", "(II)I"⟩, 46)]
theorem lw_r5 : ∀ q ∈ lw_privs_5, lw_okq q := List.forall_mem_cons.mpr ⟨lw_p64, List.forall_mem_cons.mpr ⟨lw_p65, List.forall_mem_cons.mpr ⟨lw_p66, List.forall_mem_cons.mpr ⟨lw_p67, List.forall_mem_cons.mpr ⟨lw_p68, List.forall_mem_cons.mpr ⟨lw_p69, List.forall_mem_cons.mpr ⟨lw_p70, List.forall_mem_cons.mpr ⟨lw_p71, List.forall_mem_cons.mpr ⟨lw_p72, List.forall_mem_cons.mpr ⟨lw_p73, List.forall_mem_cons.mpr ⟨lw_p74, List.forall_mem_cons.mpr ⟨lw_p75, List.forall_mem_cons.mpr ⟨lw_p76, List.forall_mem_cons.mpr ⟨lw_p77, List.forall_mem_cons.mpr ⟨lw_p78, List.forall_mem_cons.mpr ⟨lw_p79, fun _ h => absurd h List.not_mem_nil⟩⟩⟩⟩⟩⟩⟩⟩⟩⟩⟩⟩⟩⟩⟩⟩
theorem lw_p80 : lw_okq (⟨"InclusionProverModel", "isTold", "(I)Z"⟩, 46) := ⟨⟨by decide +kernel, by decide +kernel⟩, List.mem_of_getElem? (i := 1024) (by decide +kernel), List.mem_of_getElem? (i := 1352) (by decide +kernel), List.mem_of_getElem? (i := 1353) (by decide +kernel)⟩
theorem lw_p81 : lw_okq (⟨"InclusionProverModel", "bad", "()I"⟩, 46) := ⟨⟨by decide +kernel, by decide +kernel⟩, List.mem_of_getElem? (i := 1024) (by decide +kernel), List.mem_of_getElem? (i := 1360) (by decide +kernel), List.mem_of_getElem? (i := 1361) (by decide +kernel)⟩
theorem lw_p82 : lw_okq (⟨"InclusionProverModel", "reason", "(I)I"⟩, 46) := ⟨⟨by decide +kernel, by decide +kernel⟩, List.mem_of_getElem? (i := 1024) (by decide +kernel), List.mem_of_getElem? (i := 1364) (by decide +kernel), List.mem_of_getElem? (i := 1365) (by decide +kernel)⟩
theorem lw_p83 : lw_okq (⟨"InclusionProverModel", "hasPremise", "(III)Z"⟩, 46) := ⟨⟨by decide +kernel, by decide +kernel⟩, List.mem_of_getElem? (i := 1024) (by decide +kernel), List.mem_of_getElem? (i := 1368) (by decide +kernel), List.mem_of_getElem? (i := 1369) (by decide +kernel)⟩
theorem lw_p84 : lw_okq (⟨"InclusionProverModel", "becomes", "(II)I"⟩, 46) := ⟨⟨by decide +kernel, by decide +kernel⟩, List.mem_of_getElem? (i := 1024) (by decide +kernel), List.mem_of_getElem? (i := 1388) (by decide +kernel), List.mem_of_getElem? (i := 1389) (by decide +kernel)⟩
theorem lw_p85 : lw_okq (⟨"InclusionProverModel", "spells", "(I)V"⟩, 46) := ⟨⟨by decide +kernel, by decide +kernel⟩, List.mem_of_getElem? (i := 1024) (by decide +kernel), List.mem_of_getElem? (i := 1392) (by decide +kernel), List.mem_of_getElem? (i := 1393) (by decide +kernel)⟩
theorem lw_p86 : lw_okq (⟨"InclusionProverModel", "pushes", "(II)V"⟩, 46) := ⟨⟨by decide +kernel, by decide +kernel⟩, List.mem_of_getElem? (i := 1024) (by decide +kernel), List.mem_of_getElem? (i := 1396) (by decide +kernel), List.mem_of_getElem? (i := 1397) (by decide +kernel)⟩
theorem lw_p87 : lw_okq (⟨"InclusionProverModel", "spellsOne", "(II)V"⟩, 46) := ⟨⟨by decide +kernel, by decide +kernel⟩, List.mem_of_getElem? (i := 1024) (by decide +kernel), List.mem_of_getElem? (i := 1400) (by decide +kernel), List.mem_of_getElem? (i := 1401) (by decide +kernel)⟩
theorem lw_p88 : lw_okq (⟨"InclusionProverModel", "pushesByte", "(I)V"⟩, 46) := ⟨⟨by decide +kernel, by decide +kernel⟩, List.mem_of_getElem? (i := 1024) (by decide +kernel), List.mem_of_getElem? (i := 1404) (by decide +kernel), List.mem_of_getElem? (i := 1405) (by decide +kernel)⟩
theorem lw_p89 : lw_okq (⟨"InclusionProverModel", "forgets", "(I)V"⟩, 46) := ⟨⟨by decide +kernel, by decide +kernel⟩, List.mem_of_getElem? (i := 1024) (by decide +kernel), List.mem_of_getElem? (i := 1408) (by decide +kernel), List.mem_of_getElem? (i := 1409) (by decide +kernel)⟩
theorem lw_p90 : lw_okq (⟨"InclusionProverModel", "copies", "(III)V"⟩, 46) := ⟨⟨by decide +kernel, by decide +kernel⟩, List.mem_of_getElem? (i := 1024) (by decide +kernel), List.mem_of_getElem? (i := 1420) (by decide +kernel), List.mem_of_getElem? (i := 1421) (by decide +kernel)⟩
theorem lw_p91 : lw_okq (⟨"InclusionProverModel", "spelled", "(I)I"⟩, 46) := ⟨⟨by decide +kernel, by decide +kernel⟩, List.mem_of_getElem? (i := 1024) (by decide +kernel), List.mem_of_getElem? (i := 1436) (by decide +kernel), List.mem_of_getElem? (i := 1437) (by decide +kernel)⟩
theorem lw_p92 : lw_okq (⟨"InclusionProverModel", "byteAt", "(I)I"⟩, 46) := ⟨⟨by decide +kernel, by decide +kernel⟩, List.mem_of_getElem? (i := 1024) (by decide +kernel), List.mem_of_getElem? (i := 1440) (by decide +kernel), List.mem_of_getElem? (i := 1441) (by decide +kernel)⟩
theorem lw_p93 : lw_okq (⟨"InclusionProverModel", "listed", "(III)I"⟩, 46) := ⟨⟨by decide +kernel, by decide +kernel⟩, List.mem_of_getElem? (i := 1024) (by decide +kernel), List.mem_of_getElem? (i := 1460) (by decide +kernel), List.mem_of_getElem? (i := 1461) (by decide +kernel)⟩
theorem lw_p94 : lw_okq (⟨"InclusionProverModel", "isOne", "(II)Z"⟩, 46) := ⟨⟨by decide +kernel, by decide +kernel⟩, List.mem_of_getElem? (i := 1024) (by decide +kernel), List.mem_of_getElem? (i := 1464) (by decide +kernel), List.mem_of_getElem? (i := 1465) (by decide +kernel)⟩
theorem lw_p95 : lw_okq (⟨"InclusionProverModel", "isWord", "(II)Z"⟩, 46) := ⟨⟨by decide +kernel, by decide +kernel⟩, List.mem_of_getElem? (i := 1024) (by decide +kernel), List.mem_of_getElem? (i := 1468) (by decide +kernel), List.mem_of_getElem? (i := 1469) (by decide +kernel)⟩
def lw_privs_6 : List (MethodName × Nat) := [(⟨"InclusionProverModel", "isTold", "(I)Z"⟩, 46), (⟨"InclusionProverModel", "bad", "()I"⟩, 46), (⟨"InclusionProverModel", "reason", "(I)I"⟩, 46), (⟨"InclusionProverModel", "hasPremise", "(III)Z"⟩, 46), (⟨"InclusionProverModel", "becomes", "(II)I"⟩, 46), (⟨"InclusionProverModel", "spells", "(I)V"⟩, 46), (⟨"InclusionProverModel", "pushes", "(II)V"⟩, 46), (⟨"InclusionProverModel", "spellsOne", "(II)V"⟩, 46), (⟨"InclusionProverModel", "pushesByte", "(I)V"⟩, 46), (⟨"InclusionProverModel", "forgets", "(I)V"⟩, 46), (⟨"InclusionProverModel", "copies", "(III)V"⟩, 46), (⟨"InclusionProverModel", "spelled", "(I)I"⟩, 46), (⟨"InclusionProverModel", "byteAt", "(I)I"⟩, 46), (⟨"InclusionProverModel", "listed", "(III)I"⟩, 46), (⟨"InclusionProverModel", "isOne", "(II)Z"⟩, 46), (⟨"InclusionProverModel", "isWord", "(II)Z"⟩, 46)]
theorem lw_r6 : ∀ q ∈ lw_privs_6, lw_okq q := List.forall_mem_cons.mpr ⟨lw_p80, List.forall_mem_cons.mpr ⟨lw_p81, List.forall_mem_cons.mpr ⟨lw_p82, List.forall_mem_cons.mpr ⟨lw_p83, List.forall_mem_cons.mpr ⟨lw_p84, List.forall_mem_cons.mpr ⟨lw_p85, List.forall_mem_cons.mpr ⟨lw_p86, List.forall_mem_cons.mpr ⟨lw_p87, List.forall_mem_cons.mpr ⟨lw_p88, List.forall_mem_cons.mpr ⟨lw_p89, List.forall_mem_cons.mpr ⟨lw_p90, List.forall_mem_cons.mpr ⟨lw_p91, List.forall_mem_cons.mpr ⟨lw_p92, List.forall_mem_cons.mpr ⟨lw_p93, List.forall_mem_cons.mpr ⟨lw_p94, List.forall_mem_cons.mpr ⟨lw_p95, fun _ h => absurd h List.not_mem_nil⟩⟩⟩⟩⟩⟩⟩⟩⟩⟩⟩⟩⟩⟩⟩⟩
theorem lw_p96 : lw_okq (⟨"InclusionProverModel", "number", "(I)I"⟩, 46) := ⟨⟨by decide +kernel, by decide +kernel⟩, List.mem_of_getElem? (i := 1024) (by decide +kernel), List.mem_of_getElem? (i := 1472) (by decide +kernel), List.mem_of_getElem? (i := 1473) (by decide +kernel)⟩
theorem lw_p97 : lw_okq (⟨"InclusionProverModel", "goesOn", "(I)Z"⟩, 46) := ⟨⟨by decide +kernel, by decide +kernel⟩, List.mem_of_getElem? (i := 1024) (by decide +kernel), List.mem_of_getElem? (i := 1476) (by decide +kernel), List.mem_of_getElem? (i := 1477) (by decide +kernel)⟩
def lw_privs_7 : List (MethodName × Nat) := [(⟨"InclusionProverModel", "number", "(I)I"⟩, 46), (⟨"InclusionProverModel", "goesOn", "(I)Z"⟩, 46)]
theorem lw_r7 : ∀ q ∈ lw_privs_7, lw_okq q := List.forall_mem_cons.mpr ⟨lw_p96, List.forall_mem_cons.mpr ⟨lw_p97, fun _ h => absurd h List.not_mem_nil⟩⟩
def lw_privs : List (MethodName × Nat) := lw_privs_1 ++ (lw_privs_2 ++ (lw_privs_3 ++ (lw_privs_4 ++ (lw_privs_5 ++ (lw_privs_6 ++ (lw_privs_7))))))
def lw_tbl : List Cond := k2_sels lw_privs ++ tables_1
theorem lw_privs_ok : ∀ q ∈ lw_privs, lw_okq q := by
  show ∀ q ∈ lw_privs_1 ++ (lw_privs_2 ++ (lw_privs_3 ++ (lw_privs_4 ++ (lw_privs_5 ++ (lw_privs_6 ++ (lw_privs_7)))))), lw_okq q
  exact List.forall_mem_append.mpr ⟨lw_r1, List.forall_mem_append.mpr ⟨lw_r2, List.forall_mem_append.mpr ⟨lw_r3, List.forall_mem_append.mpr ⟨lw_r4, List.forall_mem_append.mpr ⟨lw_r5, List.forall_mem_append.mpr ⟨lw_r6, lw_r7⟩⟩⟩⟩⟩⟩
end
section
/-! ===== BEGIN words of one list among another's, by their places ===== -/
theorem goodIn_r {big : List Cond} (ws : List Cond) (ps : List Nat) (hp : ws = ps.filterMap (fun i => big[i]?)) (h : ws.all goodWord = true) : GoodIn big ws := by
  intro w hw
  have h1 := List.all_eq_true.mp h w hw
  rw [hp] at hw
  obtain ⟨i, -, hi⟩ := List.mem_filterMap.mp hw
  have hm : w ∈ big := by first | exact List.mem_of_getElem? hi | exact List.getElem?_mem hi
  exact ⟨hm, good_of_word h1⟩
theorem goodIn_app {big a b : List Cond} (ha : GoodIn big a) (hb : GoodIn big b) : GoodIn big (a ++ b) := fun w h => (List.mem_append.mp h).elim (ha w) (hb w)
theorem goodIn_ca {big a b : List Cond} {c : Cond} (ha : GoodIn big (c :: a)) (hb : GoodIn big b) : GoodIn big (c :: (a ++ b)) := fun w h => (List.mem_cons.mp h).elim (fun e => ha w (List.mem_cons.mpr (Or.inl e))) (fun h => (List.mem_append.mp h).elim (fun h => ha w (List.mem_cons.mpr (Or.inr h))) (hb w))
theorem goodIn_sub {big ws : List Cond} (hm : ∀ w ∈ ws, w ∈ big) (h : ws.all goodWord = true) : GoodIn big ws := fun w hw => ⟨hm w hw, good_of_word (List.all_eq_true.mp h w hw)⟩
/-! ===== END ===== -/

/-! ===== BEGIN printed: names, fields, word lists, decode rows ===== -/
def RX0 : String := "InclusionProver$Kernel"
def TX0 : u_T := fun k => match k with
  | 0 => ("InclusionProver$Kernel", "left", "LInclusionProver$Side;", false)
  | 1 => ("InclusionProver$Kernel", "right", "LInclusionProver$Side;", false)
  | 2 => ("InclusionProver$Kernel", "lines", "LInclusionProver$Lines;", false)
  | 3 => ("InclusionProver$Kernel", "bad", "I", false)
  | 4 => ("InclusionProver$Kernel", "reason", "I", false)
  | 5 => ("InclusionProver$Kernel", "letter", "I", false)
  | _ => ("InclusionProver$Kernel", "detail", "I", false)
def tyX0 : Nat → FieldType := fun k => match k with
  | 0 => .object "InclusionProver$Side"
  | 1 => .object "InclusionProver$Side"
  | 2 => .object "InclusionProver$Lines"
  | 3 => .int
  | 4 => .int
  | 5 => .int
  | _ => .int
abbrev wsX00 : List Cond := u_ws RX0 TX0 7
theorem nmX0 : ∀ a, a < 7 → ∀ b, b < 7 → a ≠ b → (TX0 a).2.1 ≠ (TX0 b).2.1 := by decide +kernel
theorem tyX0_ok : ∀ k, k < 7 → parseFieldDescriptor (TX0 k).2.2.1 = some (tyX0 k) := by decide +kernel
abbrev cX0_init : ByteArray := prog_2_method_1_code
def yX0_init : MethodName := ⟨RX0, "<init>", "(LInclusionProver$Side;LInclusionProver$Side;LInclusionProver$Lines;)V"⟩
abbrev cX0_look : ByteArray := prog_2_method_2_code
def yX0_look : MethodName := ⟨RX0, "look", "(LInclusionProver$Side;LInclusionProver$Side;LInclusionProver$Lines;)V"⟩
abbrev cX0_startsWell : ByteArray := prog_2_method_3_code
def yX0_startsWell : MethodName := ⟨RX0, "startsWell", "()Z"⟩
abbrev cX0_reasonOf : ByteArray := prog_2_method_4_code
def yX0_reasonOf : MethodName := ⟨RX0, "reasonOf", "(I)I"⟩
abbrev cX0_isMember : ByteArray := prog_2_method_5_code
def yX0_isMember : MethodName := ⟨RX0, "isMember", "(II)Z"⟩
abbrev cX0_premisesAreLines : ByteArray := prog_2_method_6_code
def yX0_premisesAreLines : MethodName := ⟨RX0, "premisesAreLines", "(I)Z"⟩
abbrev cX0_partsAreProved : ByteArray := prog_2_method_7_code
def yX0_partsAreProved : MethodName := ⟨RX0, "partsAreProved", "(III)Z"⟩
abbrev cX0_hasPremiseFor : ByteArray := prog_2_method_8_code
def yX0_hasPremiseFor : MethodName := ⟨RX0, "hasPremiseFor", "(III)Z"⟩
def RX1 : String := "InclusionProver$Lines"
def TX1 : u_T := fun k => match k with
  | 0 => ("InclusionProver$Lines", "goal", "[I", true)
  | 1 => ("InclusionProver$Lines", "set", "[I", true)
  | 2 => ("InclusionProver$Lines", "rule", "[I", true)
  | 3 => ("InclusionProver$Lines", "from", "[I", true)
  | 4 => ("InclusionProver$Lines", "number", "[I", true)
  | 5 => ("InclusionProver$Lines", "premise", "[I", true)
  | 6 => ("InclusionProver$Lines", "apartWord", "LInclusionProver$Text;", true)
  | 7 => ("InclusionProver$Lines", "uses", "[I", true)
  | 8 => ("InclusionProver$Lines", "size", "I", false)
  | 9 => ("InclusionProver$Lines", "premises", "I", false)
  | 10 => ("InclusionProver$Lines", "longest", "I", false)
  | _ => ("InclusionProver$Lines", "separated", "Z", false)
def tyX1 : Nat → FieldType := fun k => match k with
  | 0 => .array .int
  | 1 => .array .int
  | 2 => .array .int
  | 3 => .array .int
  | 4 => .array .int
  | 5 => .array .int
  | 6 => .object "InclusionProver$Text"
  | 7 => .array .int
  | 8 => .int
  | 9 => .int
  | 10 => .int
  | _ => .boolean
abbrev wsX10 : List Cond := u_ws RX1 TX1 12
theorem nmX1 : ∀ a, a < 12 → ∀ b, b < 12 → a ≠ b → (TX1 a).2.1 ≠ (TX1 b).2.1 := by decide +kernel
theorem tyX1_ok : ∀ k, k < 12 → parseFieldDescriptor (TX1 k).2.2.1 = some (tyX1 k) := by decide +kernel
abbrev cX1_init : ByteArray := prog_3_method_1_code
def yX1_init : MethodName := ⟨RX1, "<init>", "()V"⟩
abbrev cX1_clear : ByteArray := prog_3_method_2_code
def yX1_clear : MethodName := ⟨RX1, "clear", "()V"⟩
abbrev cX1_isLine : ByteArray := prog_3_method_3_code
def yX1_isLine : MethodName := ⟨RX1, "isLine", "(I)Z"⟩
abbrev cX1_isPremise : ByteArray := prog_3_method_4_code
def yX1_isPremise : MethodName := ⟨RX1, "isPremise", "(II)Z"⟩
abbrev cX1_premiseOf : ByteArray := prog_3_method_5_code
def yX1_premiseOf : MethodName := ⟨RX1, "premiseOf", "(II)I"⟩
abbrev cX1_addLine : ByteArray := prog_3_method_6_code
def yX1_addLine : MethodName := ⟨RX1, "addLine", "(II)I"⟩
abbrev cX1_openPremises : ByteArray := prog_3_method_7_code
def yX1_openPremises : MethodName := ⟨RX1, "openPremises", "(I)V"⟩
abbrev cX1_addPremise : ByteArray := prog_3_method_8_code
def yX1_addPremise : MethodName := ⟨RX1, "addPremise", "(II)V"⟩
abbrev cX1_dropPremises : ByteArray := prog_3_method_9_code
def yX1_dropPremises : MethodName := ⟨RX1, "dropPremises", "(I)V"⟩
abbrev cX1_dropLast : ByteArray := prog_3_method_10_code
def yX1_dropLast : MethodName := ⟨RX1, "dropLast", "()I"⟩
abbrev cX1_ofRule : ByteArray := prog_3_method_11_code
def yX1_ofRule : MethodName := ⟨RX1, "ofRule", "(I)I"⟩
abbrev cX1_premisesOfNone : ByteArray := prog_3_method_12_code
def yX1_premisesOfNone : MethodName := ⟨RX1, "premisesOfNone", "()I"⟩
abbrev cX1_become : ByteArray := prog_3_method_13_code
def yX1_become : MethodName := ⟨RX1, "become", "(LInclusionProver$Lines;)V"⟩
def RX2 : String := "InclusionProver$Reader"
def TX2 : u_T := fun k => match k with
  | 0 => ("InclusionProver$Reader", "tree", "LInclusionProver$Tree;", true)
  | 1 => ("InclusionProver$Reader", "text", "LInclusionProver$Text;", false)
  | 2 => ("InclusionProver$Reader", "limit", "I", false)
  | 3 => ("InclusionProver$Reader", "place", "I", false)
  | _ => ("InclusionProver$Reader", "fault", "I", false)
def tyX2 : Nat → FieldType := fun k => match k with
  | 0 => .object "InclusionProver$Tree"
  | 1 => .object "InclusionProver$Text"
  | 2 => .int
  | 3 => .int
  | _ => .int
abbrev wsX20 : List Cond := u_ws RX2 TX2 5
theorem nmX2 : ∀ a, a < 5 → ∀ b, b < 5 → a ≠ b → (TX2 a).2.1 ≠ (TX2 b).2.1 := by decide +kernel
theorem tyX2_ok : ∀ k, k < 5 → parseFieldDescriptor (TX2 k).2.2.1 = some (tyX2 k) := by decide +kernel
abbrev cX2_init : ByteArray := prog_4_method_1_code
def yX2_init : MethodName := ⟨RX2, "<init>", "(LInclusionProver$Tree;LInclusionProver$Text;)V"⟩
abbrev cX2_read : ByteArray := prog_4_method_2_code
def yX2_read : MethodName := ⟨RX2, "read", "(LInclusionProver$Text;I)I"⟩
abbrev cX2_readSum : ByteArray := prog_4_method_3_code
def yX2_readSum : MethodName := ⟨RX2, "readSum", "(I)I"⟩
abbrev cX2_readProduct : ByteArray := prog_4_method_4_code
def yX2_readProduct : MethodName := ⟨RX2, "readProduct", "(I)I"⟩
abbrev cX2_readFactor : ByteArray := prog_4_method_5_code
def yX2_readFactor : MethodName := ⟨RX2, "readFactor", "(I)I"⟩
abbrev cX2_readAtom : ByteArray := prog_4_method_6_code
def yX2_readAtom : MethodName := ⟨RX2, "readAtom", "(I)I"⟩
abbrev cX2_next : ByteArray := prog_4_method_7_code
def yX2_next : MethodName := ⟨RX2, "next", "()I"⟩
abbrev cX2_beginsAtom : ByteArray := prog_4_method_8_code
def yX2_beginsAtom : MethodName := ⟨RX2, "beginsAtom", "(I)Z"⟩
def RX3 : String := "InclusionProver$Room"
def TX3 : u_T := fun k => match k with
  | 0 => ("InclusionProver$Room", "tape", "LInclusionProver$Text;", true)
  | 1 => ("InclusionProver$Room", "sides", "[LInclusionProver$Side;", true)
  | 2 => ("InclusionProver$Room", "slots", "[LInclusionProver$Text;", true)
  | 3 => ("InclusionProver$Room", "lines", "LInclusionProver$Lines;", true)
  | _ => ("InclusionProver$Room", "fault", "I", false)
def tyX3 : Nat → FieldType := fun k => match k with
  | 0 => .object "InclusionProver$Text"
  | 1 => .array (.object "InclusionProver$Side")
  | 2 => .array (.object "InclusionProver$Text")
  | 3 => .object "InclusionProver$Lines"
  | _ => .int
abbrev wsX30 : List Cond := u_ws RX3 TX3 5
theorem nmX3 : ∀ a, a < 5 → ∀ b, b < 5 → a ≠ b → (TX3 a).2.1 ≠ (TX3 b).2.1 := by decide +kernel
theorem tyX3_ok : ∀ k, k < 5 → parseFieldDescriptor (TX3 k).2.2.1 = some (tyX3 k) := by decide +kernel
abbrev cX3_init : ByteArray := prog_5_method_1_code
def yX3_init : MethodName := ⟨RX3, "<init>", "()V"⟩
abbrev cX3_become : ByteArray := prog_5_method_2_code
def yX3_become : MethodName := ⟨RX3, "become", "(LInclusionProver$Room;)V"⟩
def RX4 : String := "InclusionProver$Search"
def TX4 : u_T := fun k => match k with
  | 0 => ("InclusionProver$Search", "parent", "[I", true)
  | 1 => ("InclusionProver$Search", "letterBy", "[I", true)
  | 2 => ("InclusionProver$Search", "wordSize", "[I", true)
  | 3 => ("InclusionProver$Search", "firstOf", "[I", true)
  | 4 => ("InclusionProver$Search", "lastOf", "[I", true)
  | 5 => ("InclusionProver$Search", "nextOf", "[I", true)
  | 6 => ("InclusionProver$Search", "alike", "[I", true)
  | 7 => ("InclusionProver$Search", "left", "LInclusionProver$Side;", false)
  | 8 => ("InclusionProver$Search", "right", "LInclusionProver$Side;", false)
  | _ => ("InclusionProver$Search", "lines", "LInclusionProver$Lines;", false)
def tyX4 : Nat → FieldType := fun k => match k with
  | 0 => .array .int
  | 1 => .array .int
  | 2 => .array .int
  | 3 => .array .int
  | 4 => .array .int
  | 5 => .array .int
  | 6 => .array .int
  | 7 => .object "InclusionProver$Side"
  | 8 => .object "InclusionProver$Side"
  | _ => .object "InclusionProver$Lines"
abbrev wsX40 : List Cond := u_ws RX4 TX4 10
theorem nmX4 : ∀ a, a < 10 → ∀ b, b < 10 → a ≠ b → (TX4 a).2.1 ≠ (TX4 b).2.1 := by decide +kernel
theorem tyX4_ok : ∀ k, k < 10 → parseFieldDescriptor (TX4 k).2.2.1 = some (tyX4 k) := by decide +kernel
abbrev cX4_init : ByteArray := prog_6_method_1_code
def yX4_init : MethodName := ⟨RX4, "<init>", "(LInclusionProver$Side;LInclusionProver$Side;LInclusionProver$Lines;)V"⟩
abbrev cX4_run : ByteArray := prog_6_method_2_code
def yX4_run : MethodName := ⟨RX4, "run", "(LInclusionProver$Side;LInclusionProver$Side;LInclusionProver$Lines;)I"⟩
abbrev cX4_takeTurn : ByteArray := prog_6_method_3_code
def yX4_takeTurn : MethodName := ⟨RX4, "takeTurn", "(I)I"⟩
abbrev cX4_step : ByteArray := prog_6_method_4_code
def yX4_step : MethodName := ⟨RX4, "step", "(III)Z"⟩
abbrev cX4_lineFor : ByteArray := prog_6_method_5_code
def yX4_lineFor : MethodName := ⟨RX4, "lineFor", "(IIII)I"⟩
abbrev cX4_comeTo : ByteArray := prog_6_method_6_code
def yX4_comeTo : MethodName := ⟨RX4, "comeTo", "(IIII)I"⟩
abbrev cX4_tellApart : ByteArray := prog_6_method_7_code
def yX4_tellApart : MethodName := ⟨RX4, "tellApart", "(I)V"⟩
def RX5 : String := "InclusionProver$Side"
def TX5 : u_T := fun k => match k with
  | 0 => ("InclusionProver$Side", "spelt", "LInclusionProver$Text;", true)
  | 1 => ("InclusionProver$Side", "termSigns", "LInclusionProver$Text;", true)
  | 2 => ("InclusionProver$Side", "signsEnd", "[I", true)
  | 3 => ("InclusionProver$Side", "partSets", "[I", true)
  | 4 => ("InclusionProver$Side", "partsFrom", "[I", true)
  | 5 => ("InclusionProver$Side", "part", "[I", true)
  | 6 => ("InclusionProver$Side", "terms", "I", false)
  | 7 => ("InclusionProver$Side", "shortest", "I", false)
  | 8 => ("InclusionProver$Side", "nest", "I", false)
  | 9 => ("InclusionProver$Side", "full", "I", false)
  | _ => ("InclusionProver$Side", "row", "I", false)
def tyX5 : Nat → FieldType := fun k => match k with
  | 0 => .object "InclusionProver$Text"
  | 1 => .object "InclusionProver$Text"
  | 2 => .array .int
  | 3 => .array .int
  | 4 => .array .int
  | 5 => .array .int
  | 6 => .int
  | 7 => .int
  | 8 => .int
  | 9 => .int
  | _ => .int
abbrev wsX50 : List Cond := u_ws RX5 TX5 11
theorem nmX5 : ∀ a, a < 11 → ∀ b, b < 11 → a ≠ b → (TX5 a).2.1 ≠ (TX5 b).2.1 := by decide +kernel
theorem tyX5_ok : ∀ k, k < 11 → parseFieldDescriptor (TX5 k).2.2.1 = some (tyX5 k) := by decide +kernel
abbrev cX5_init : ByteArray := prog_7_method_1_code
def yX5_init : MethodName := ⟨RX5, "<init>", "()V"⟩
abbrev cX5_clear : ByteArray := prog_7_method_2_code
def yX5_clear : MethodName := ⟨RX5, "clear", "()V"⟩
abbrev cX5_openTerm : ByteArray := prog_7_method_3_code
def yX5_openTerm : MethodName := ⟨RX5, "openTerm", "(Z)V"⟩
abbrev cX5_openParts : ByteArray := prog_7_method_4_code
def yX5_openParts : MethodName := ⟨RX5, "openParts", "(I)V"⟩
abbrev cX5_addPart : ByteArray := prog_7_method_5_code
def yX5_addPart : MethodName := ⟨RX5, "addPart", "(I)V"⟩
abbrev cX5_closeTerm : ByteArray := prog_7_method_6_code
def yX5_closeTerm : MethodName := ⟨RX5, "closeTerm", "()V"⟩
abbrev cX5_become : ByteArray := prog_7_method_7_code
def yX5_become : MethodName := ⟨RX5, "become", "(LInclusionProver$Side;)V"⟩
abbrev cX5_isTerm : ByteArray := prog_7_method_8_code
def yX5_isTerm : MethodName := ⟨RX5, "isTerm", "(I)Z"⟩
abbrev cX5_isSet : ByteArray := prog_7_method_9_code
def yX5_isSet : MethodName := ⟨RX5, "isSet", "(I)Z"⟩
abbrev cX5_anyFull : ByteArray := prog_7_method_10_code
def yX5_anyFull : MethodName := ⟨RX5, "anyFull", "(I)Z"⟩
abbrev cX5_lettersSpelt : ByteArray := prog_7_method_11_code
def yX5_lettersSpelt : MethodName := ⟨RX5, "lettersSpelt", "()I"⟩
abbrev cX5_termBytes : ByteArray := prog_7_method_12_code
def yX5_termBytes : MethodName := ⟨RX5, "termBytes", "(I)I"⟩
abbrev cX5_termByte : ByteArray := prog_7_method_13_code
def yX5_termByte : MethodName := ⟨RX5, "termByte", "(II)I"⟩
abbrev cX5_partSet : ByteArray := prog_7_method_14_code
def yX5_partSet : MethodName := ⟨RX5, "partSet", "(II)I"⟩
abbrev cX5_partsOf : ByteArray := prog_7_method_15_code
def yX5_partsOf : MethodName := ⟨RX5, "partsOf", "(II)I"⟩
abbrev cX5_partOf : ByteArray := prog_7_method_16_code
def yX5_partOf : MethodName := ⟨RX5, "partOf", "(III)I"⟩
abbrev cX5_partsOfSet : ByteArray := prog_7_method_17_code
def yX5_partsOfSet : MethodName := ⟨RX5, "partsOfSet", "(II)I"⟩
abbrev cX5_alikeTerm : ByteArray := prog_7_method_18_code
def yX5_alikeTerm : MethodName := ⟨RX5, "alikeTerm", "(LInclusionProver$Side;I)I"⟩
abbrev cX5_isLetter : ByteArray := prog_7_method_19_code
def yX5_isLetter : MethodName := ⟨RX5, "isLetter", "(I)Z"⟩
abbrev cX5_signsStart : ByteArray := prog_7_method_20_code
def yX5_signsStart : MethodName := ⟨RX5, "signsStart", "(I)I"⟩
abbrev cX5_isAlike : ByteArray := prog_7_method_21_code
def yX5_isAlike : MethodName := ⟨RX5, "isAlike", "(ILInclusionProver$Side;I)Z"⟩
def RX6 : String := "InclusionProver$TermFinder"
def TX6 : u_T := fun k => match k with
  | 0 => ("InclusionProver$TermFinder", "tree", "LInclusionProver$Tree;", true)
  | 1 => ("InclusionProver$TermFinder", "factor", "[I", true)
  | 2 => ("InclusionProver$TermFinder", "number", "[I", true)
  | 3 => ("InclusionProver$TermFinder", "behind", "[I", true)
  | 4 => ("InclusionProver$TermFinder", "measure", "LInclusionProver$Text;", true)
  | 5 => ("InclusionProver$TermFinder", "top", "I", false)
  | 6 => ("InclusionProver$TermFinder", "terms", "I", false)
  | _ => ("InclusionProver$TermFinder", "wanted", "I", false)
def tyX6 : Nat → FieldType := fun k => match k with
  | 0 => .object "InclusionProver$Tree"
  | 1 => .array .int
  | 2 => .array .int
  | 3 => .array .int
  | 4 => .object "InclusionProver$Text"
  | 5 => .int
  | 6 => .int
  | _ => .int
abbrev wsX60 : List Cond := u_ws RX6 TX6 8
theorem nmX6 : ∀ a, a < 8 → ∀ b, b < 8 → a ≠ b → (TX6 a).2.1 ≠ (TX6 b).2.1 := by decide +kernel
theorem tyX6_ok : ∀ k, k < 8 → parseFieldDescriptor (TX6 k).2.2.1 = some (tyX6 k) := by decide +kernel
abbrev cX6_init : ByteArray := prog_8_method_1_code
def yX6_init : MethodName := ⟨RX6, "<init>", "(LInclusionProver$Tree;)V"⟩
abbrev cX6_speltBytes : ByteArray := prog_8_method_2_code
def yX6_speltBytes : MethodName := ⟨RX6, "speltBytes", "(I)I"⟩
abbrev cX6_findTerms : ByteArray := prog_8_method_3_code
def yX6_findTerms : MethodName := ⟨RX6, "findTerms", "(ILInclusionProver$Side;)V"⟩
abbrev cX6_tellTerm : ByteArray := prog_8_method_4_code
def yX6_tellTerm : MethodName := ⟨RX6, "tellTerm", "(ILInclusionProver$Side;)V"⟩
abbrev cX6_findParts : ByteArray := prog_8_method_5_code
def yX6_findParts : MethodName := ⟨RX6, "findParts", "(IILInclusionProver$Side;)V"⟩
abbrev cX6_gatherFactors : ByteArray := prog_8_method_6_code
def yX6_gatherFactors : MethodName := ⟨RX6, "gatherFactors", "(ILInclusionProver$Side;I)V"⟩
abbrev cX6_gatherNode : ByteArray := prog_8_method_7_code
def yX6_gatherNode : MethodName := ⟨RX6, "gatherNode", "(ILInclusionProver$Side;I)V"⟩
abbrev cX6_pushFactors : ByteArray := prog_8_method_8_code
def yX6_pushFactors : MethodName := ⟨RX6, "pushFactors", "(I)V"⟩
abbrev cX6_push : ByteArray := prog_8_method_9_code
def yX6_push : MethodName := ⟨RX6, "push", "(I)V"⟩
abbrev cX6_numberOfTerm : ByteArray := prog_8_method_10_code
def yX6_numberOfTerm : MethodName := ⟨RX6, "numberOfTerm", "()I"⟩
abbrev cX6_isBehind : ByteArray := prog_8_method_11_code
def yX6_isBehind : MethodName := ⟨RX6, "isBehind", "(I)Z"⟩
def RX7 : String := "InclusionProver$Text"
def TX7 : u_T := fun k => match k with
  | 0 => ("InclusionProver$Text", "sign", "[I", true)
  | _ => ("InclusionProver$Text", "size", "I", false)
def tyX7 : Nat → FieldType := fun k => match k with
  | 0 => .array .int
  | _ => .int
abbrev wsX70 : List Cond := u_ws RX7 TX7 2
theorem nmX7 : ∀ a, a < 2 → ∀ b, b < 2 → a ≠ b → (TX7 a).2.1 ≠ (TX7 b).2.1 := by decide +kernel
theorem tyX7_ok : ∀ k, k < 2 → parseFieldDescriptor (TX7 k).2.2.1 = some (tyX7 k) := by decide +kernel
abbrev cX7_init : ByteArray := prog_9_method_1_code
def yX7_init : MethodName := ⟨RX7, "<init>", "(I)V"⟩
abbrev cX7_clear : ByteArray := prog_9_method_2_code
def yX7_clear : MethodName := ⟨RX7, "clear", "()V"⟩
abbrev cX7_add : ByteArray := prog_9_method_3_code
def yX7_add : MethodName := ⟨RX7, "add", "(I)V"⟩
abbrev cX7_addAll : ByteArray := prog_9_method_4_code
def yX7_addAll : MethodName := ⟨RX7, "addAll", "(LInclusionProver$Text;)V"⟩
abbrev cX7_addBracketed : ByteArray := prog_9_method_5_code
def yX7_addBracketed : MethodName := ⟨RX7, "addBracketed", "(LInclusionProver$Text;)V"⟩
abbrev cX7_become : ByteArray := prog_9_method_6_code
def yX7_become : MethodName := ⟨RX7, "become", "(LInclusionProver$Text;)V"⟩
abbrev cX7_setAt : ByteArray := prog_9_method_7_code
def yX7_setAt : MethodName := ⟨RX7, "setAt", "(II)V"⟩
abbrev cX7_at : ByteArray := prog_9_method_8_code
def yX7_at : MethodName := ⟨RX7, "at", "(I)I"⟩
abbrev cX7_countOf : ByteArray := prog_9_method_9_code
def yX7_countOf : MethodName := ⟨RX7, "countOf", "(I)I"⟩
def RX8 : String := "InclusionProver$Tree"
def TX8 : u_T := fun k => match k with
  | 0 => ("InclusionProver$Tree", "kind", "[I", true)
  | 1 => ("InclusionProver$Tree", "from", "[I", true)
  | 2 => ("InclusionProver$Tree", "number", "[I", true)
  | 3 => ("InclusionProver$Tree", "shortest", "[I", true)
  | 4 => ("InclusionProver$Tree", "nest", "[I", true)
  | 5 => ("InclusionProver$Tree", "child", "[I", true)
  | 6 => ("InclusionProver$Tree", "open", "[I", true)
  | 7 => ("InclusionProver$Tree", "nodes", "I", false)
  | 8 => ("InclusionProver$Tree", "children", "I", false)
  | _ => ("InclusionProver$Tree", "top", "I", false)
def tyX8 : Nat → FieldType := fun k => match k with
  | 0 => .array .int
  | 1 => .array .int
  | 2 => .array .int
  | 3 => .array .int
  | 4 => .array .int
  | 5 => .array .int
  | 6 => .array .int
  | 7 => .int
  | 8 => .int
  | _ => .int
abbrev wsX80 : List Cond := u_ws RX8 TX8 10
theorem nmX8 : ∀ a, a < 10 → ∀ b, b < 10 → a ≠ b → (TX8 a).2.1 ≠ (TX8 b).2.1 := by decide +kernel
theorem tyX8_ok : ∀ k, k < 10 → parseFieldDescriptor (TX8 k).2.2.1 = some (tyX8 k) := by decide +kernel
abbrev cX8_init : ByteArray := prog_10_method_1_code
def yX8_init : MethodName := ⟨RX8, "<init>", "()V"⟩
abbrev cX8_clear : ByteArray := prog_10_method_2_code
def yX8_clear : MethodName := ⟨RX8, "clear", "()V"⟩
abbrev cX8_kindOf : ByteArray := prog_10_method_3_code
def yX8_kindOf : MethodName := ⟨RX8, "kindOf", "(I)I"⟩
abbrev cX8_childrenOf : ByteArray := prog_10_method_4_code
def yX8_childrenOf : MethodName := ⟨RX8, "childrenOf", "(I)I"⟩
abbrev cX8_childOf : ByteArray := prog_10_method_5_code
def yX8_childOf : MethodName := ⟨RX8, "childOf", "(II)I"⟩
abbrev cX8_shortestOf : ByteArray := prog_10_method_6_code
def yX8_shortestOf : MethodName := ⟨RX8, "shortestOf", "(I)I"⟩
abbrev cX8_nestOf : ByteArray := prog_10_method_7_code
def yX8_nestOf : MethodName := ⟨RX8, "nestOf", "(I)I"⟩
abbrev cX8_isFull : ByteArray := prog_10_method_8_code
def yX8_isFull : MethodName := ⟨RX8, "isFull", "(I)Z"⟩
abbrev cX8_mark : ByteArray := prog_10_method_9_code
def yX8_mark : MethodName := ⟨RX8, "mark", "()I"⟩
abbrev cX8_addSummand : ByteArray := prog_10_method_10_code
def yX8_addSummand : MethodName := ⟨RX8, "addSummand", "(II)V"⟩
abbrev cX8_addFactor : ByteArray := prog_10_method_11_code
def yX8_addFactor : MethodName := ⟨RX8, "addFactor", "(I)V"⟩
abbrev cX8_closeSum : ByteArray := prog_10_method_12_code
def yX8_closeSum : MethodName := ⟨RX8, "closeSum", "(I)I"⟩
abbrev cX8_closeProduct : ByteArray := prog_10_method_13_code
def yX8_closeProduct : MethodName := ⟨RX8, "closeProduct", "(I)I"⟩
abbrev cX8_starOf : ByteArray := prog_10_method_14_code
def yX8_starOf : MethodName := ⟨RX8, "starOf", "(I)I"⟩
abbrev cX8_spell : ByteArray := prog_10_method_15_code
def yX8_spell : MethodName := ⟨RX8, "spell", "(IILInclusionProver$Text;)V"⟩
abbrev cX8_spellNode : ByteArray := prog_10_method_16_code
def yX8_spellNode : MethodName := ⟨RX8, "spellNode", "(IILInclusionProver$Text;I)V"⟩
abbrev cX8_spellChildren : ByteArray := prog_10_method_17_code
def yX8_spellChildren : MethodName := ⟨RX8, "spellChildren", "(IILInclusionProver$Text;I)V"⟩
abbrev cX8_push : ByteArray := prog_10_method_18_code
def yX8_push : MethodName := ⟨RX8, "push", "(I)V"⟩
abbrev cX8_addOnce : ByteArray := prog_10_method_19_code
def yX8_addOnce : MethodName := ⟨RX8, "addOnce", "(II)V"⟩
abbrev cX8_close : ByteArray := prog_10_method_20_code
def yX8_close : MethodName := ⟨RX8, "close", "(III)I"⟩
abbrev cX8_nodeOf : ByteArray := prog_10_method_21_code
def yX8_nodeOf : MethodName := ⟨RX8, "nodeOf", "(II)I"⟩
abbrev cX8_hasChildren : ByteArray := prog_10_method_22_code
def yX8_hasChildren : MethodName := ⟨RX8, "hasChildren", "(II)Z"⟩
abbrev cX8_newNode : ByteArray := prog_10_method_23_code
def yX8_newNode : MethodName := ⟨RX8, "newNode", "(II)I"⟩
def RX9 : String := "InclusionProver$WordCounter"
def TX9 : u_T := fun k => match k with
  | 0 => ("InclusionProver$WordCounter", "cellLeft", "[I", true)
  | 1 => ("InclusionProver$WordCounter", "cellRight", "[I", true)
  | 2 => ("InclusionProver$WordCounter", "cellRest", "[I", true)
  | 3 => ("InclusionProver$WordCounter", "cellCount", "[I", true)
  | 4 => ("InclusionProver$WordCounter", "left", "LInclusionProver$Side;", false)
  | 5 => ("InclusionProver$WordCounter", "right", "LInclusionProver$Side;", false)
  | _ => ("InclusionProver$WordCounter", "which", "I", false)
def tyX9 : Nat → FieldType := fun k => match k with
  | 0 => .array .int
  | 1 => .array .int
  | 2 => .array .int
  | 3 => .array .int
  | 4 => .object "InclusionProver$Side"
  | 5 => .object "InclusionProver$Side"
  | _ => .int
abbrev wsX90 : List Cond := u_ws RX9 TX9 7
theorem nmX9 : ∀ a, a < 7 → ∀ b, b < 7 → a ≠ b → (TX9 a).2.1 ≠ (TX9 b).2.1 := by decide +kernel
theorem tyX9_ok : ∀ k, k < 7 → parseFieldDescriptor (TX9 k).2.2.1 = some (tyX9 k) := by decide +kernel
abbrev cX9_init : ByteArray := prog_11_method_1_code
def yX9_init : MethodName := ⟨RX9, "<init>", "(LInclusionProver$Side;LInclusionProver$Side;)V"⟩
abbrev cX9_howMany : ByteArray := prog_11_method_2_code
def yX9_howMany : MethodName := ⟨RX9, "howMany", "(LInclusionProver$Side;LInclusionProver$Side;II)I"⟩
abbrev cX9_nth : ByteArray := prog_11_method_3_code
def yX9_nth : MethodName := ⟨RX9, "nth", "(LInclusionProver$Side;LInclusionProver$Side;III)I"⟩
abbrev cX9_begin : ByteArray := prog_11_method_4_code
def yX9_begin : MethodName := ⟨RX9, "begin", "(LInclusionProver$Side;LInclusionProver$Side;I)V"⟩
abbrev cX9_startLeft : ByteArray := prog_11_method_5_code
def yX9_startLeft : MethodName := ⟨RX9, "startLeft", "()I"⟩
abbrev cX9_startRight : ByteArray := prog_11_method_6_code
def yX9_startRight : MethodName := ⟨RX9, "startRight", "()I"⟩
abbrev cX9_countBehind : ByteArray := prog_11_method_7_code
def yX9_countBehind : MethodName := ⟨RX9, "countBehind", "(IIII)I"⟩
abbrev cX9_countFrom : ByteArray := prog_11_method_8_code
def yX9_countFrom : MethodName := ⟨RX9, "countFrom", "(III)I"⟩
abbrev cX9_fits : ByteArray := prog_11_method_9_code
def yX9_fits : MethodName := ⟨RX9, "fits", "(ZZ)Z"⟩
abbrev cX9_allWords : ByteArray := prog_11_method_10_code
def yX9_allWords : MethodName := ⟨RX9, "allWords", "(I)I"⟩
abbrev cX9_cellOf : ByteArray := prog_11_method_11_code
def yX9_cellOf : MethodName := ⟨RX9, "cellOf", "(III)I"⟩
def RX10 : String := "InclusionProver"
def TX10 : u_T := fun k => match k with
  | 0 => ("InclusionProver", "reader", "LInclusionProver$Reader;", true)
  | 1 => ("InclusionProver", "finder", "LInclusionProver$TermFinder;", true)
  | 2 => ("InclusionProver", "search", "LInclusionProver$Search;", true)
  | 3 => ("InclusionProver", "kernel", "LInclusionProver$Kernel;", true)
  | 4 => ("InclusionProver", "counter", "LInclusionProver$WordCounter;", true)
  | 5 => ("InclusionProver", "draft", "LInclusionProver$Text;", true)
  | 6 => ("InclusionProver", "trialSides", "[LInclusionProver$Side;", true)
  | 7 => ("InclusionProver", "trialLines", "LInclusionProver$Lines;", true)
  | 8 => ("InclusionProver", "now", "LInclusionProver$Room;", true)
  | 9 => ("InclusionProver", "images", "[LInclusionProver$Room;", true)
  | _ => ("InclusionProver", "isImage", "[Z", true)
def tyX10 : Nat → FieldType := fun k => match k with
  | 0 => .object "InclusionProver$Reader"
  | 1 => .object "InclusionProver$TermFinder"
  | 2 => .object "InclusionProver$Search"
  | 3 => .object "InclusionProver$Kernel"
  | 4 => .object "InclusionProver$WordCounter"
  | 5 => .object "InclusionProver$Text"
  | 6 => .array (.object "InclusionProver$Side")
  | 7 => .object "InclusionProver$Lines"
  | 8 => .object "InclusionProver$Room"
  | 9 => .array (.object "InclusionProver$Room")
  | _ => .array .boolean
abbrev wsX100 : List Cond := u_ws RX10 TX10 11
theorem nmX10 : ∀ a, a < 11 → ∀ b, b < 11 → a ≠ b → (TX10 a).2.1 ≠ (TX10 b).2.1 := by decide +kernel
theorem tyX10_ok : ∀ k, k < 11 → parseFieldDescriptor (TX10 k).2.2.1 = some (tyX10 k) := by decide +kernel
abbrev cX10_init : ByteArray := prog_1_method_1_code
def yX10_init : MethodName := ⟨RX10, "<init>", "()V"⟩
abbrev cX10_write : ByteArray := prog_1_method_2_code
def yX10_write : MethodName := ⟨RX10, "write", "(J)I"⟩
abbrev cX10_side : ByteArray := prog_1_method_3_code
def yX10_side : MethodName := ⟨RX10, "side", "(I)I"⟩
abbrev cX10_fault : ByteArray := prog_1_method_4_code
def yX10_fault : MethodName := ⟨RX10, "fault", "()I"⟩
abbrev cX10_swap : ByteArray := prog_1_method_5_code
def yX10_swap : MethodName := ⟨RX10, "swap", "()V"⟩
abbrev cX10_keep : ByteArray := prog_1_method_6_code
def yX10_keep : MethodName := ⟨RX10, "keep", "(II)Z"⟩
abbrev cX10_make : ByteArray := prog_1_method_7_code
def yX10_make : MethodName := ⟨RX10, "make", "(IIII)I"⟩
abbrev cX10_shape : ByteArray := prog_1_method_8_code
def yX10_shape : MethodName := ⟨RX10, "shape", "(II)I"⟩
abbrev cX10_term : ByteArray := prog_1_method_9_code
def yX10_term : MethodName := ⟨RX10, "term", "(III)I"⟩
abbrev cX10_like : ByteArray := prog_1_method_10_code
def yX10_like : MethodName := ⟨RX10, "like", "(II)I"⟩
abbrev cX10_has : ByteArray := prog_1_method_11_code
def yX10_has : MethodName := ⟨RX10, "has", "(I)Z"⟩
abbrev cX10_words : ByteArray := prog_1_method_12_code
def yX10_words : MethodName := ⟨RX10, "words", "(II)I"⟩
abbrev cX10_word : ByteArray := prog_1_method_13_code
def yX10_word : MethodName := ⟨RX10, "word", "(III)I"⟩
abbrev cX10_prove : ByteArray := prog_1_method_14_code
def yX10_prove : MethodName := ⟨RX10, "prove", "()I"⟩
abbrev cX10_apart : ByteArray := prog_1_method_15_code
def yX10_apart : MethodName := ⟨RX10, "apart", "(I)I"⟩
abbrev cX10_count : ByteArray := prog_1_method_16_code
def yX10_count : MethodName := ⟨RX10, "count", "(I)I"⟩
abbrev cX10_line : ByteArray := prog_1_method_17_code
def yX10_line : MethodName := ⟨RX10, "line", "(II)I"⟩
abbrev cX10_alter : ByteArray := prog_1_method_18_code
def yX10_alter : MethodName := ⟨RX10, "alter", "(III)I"⟩
abbrev cX10_cut : ByteArray := prog_1_method_19_code
def yX10_cut : MethodName := ⟨RX10, "cut", "()I"⟩
abbrev cX10_check : ByteArray := prog_1_method_20_code
def yX10_check : MethodName := ⟨RX10, "check", "()I"⟩
abbrev cX10_why : ByteArray := prog_1_method_21_code
def yX10_why : MethodName := ⟨RX10, "why", "(I)I"⟩
abbrev cX10_same : ByteArray := prog_1_method_22_code
def yX10_same : MethodName := ⟨RX10, "same", "()I"⟩
abbrev cX10_between : ByteArray := prog_1_method_23_code
def yX10_between : MethodName := ⟨RX10, "between", "(II)I"⟩
abbrev cX10_image : ByteArray := prog_1_method_24_code
def yX10_image : MethodName := ⟨RX10, "image", "(I)Z"⟩
abbrev cX10_again : ByteArray := prog_1_method_25_code
def yX10_again : MethodName := ⟨RX10, "again", "(I)Z"⟩
abbrev cX10_isSide : ByteArray := prog_1_method_26_code
def yX10_isSide : MethodName := ⟨RX10, "isSide", "(I)Z"⟩
abbrev cX10_isSlot : ByteArray := prog_1_method_27_code
def yX10_isSlot : MethodName := ⟨RX10, "isSlot", "(I)Z"⟩
abbrev cX10_canCount : ByteArray := prog_1_method_28_code
def yX10_canCount : MethodName := ⟨RX10, "canCount", "(II)Z"⟩
abbrev cX10_byteOf : ByteArray := prog_1_method_29_code
def yX10_byteOf : MethodName := ⟨RX10, "byteOf", "(JI)I"⟩
abbrev cX10_bytesOf : ByteArray := prog_1_method_30_code
def yX10_bytesOf : MethodName := ⟨RX10, "bytesOf", "(J)I"⟩
abbrev cX10_replace : ByteArray := prog_1_method_31_code
def yX10_replace : MethodName := ⟨RX10, "replace", "([III)I"⟩
abbrev cX10_faultOf : ByteArray := prog_1_method_32_code
def yX10_faultOf : MethodName := ⟨RX10, "faultOf", "(II)I"⟩
abbrev cX10_put : ByteArray := prog_1_method_33_code
def yX10_put : MethodName := ⟨RX10, "put", "(II)I"⟩
abbrev cX10_readSlot : ByteArray := prog_1_method_34_code
def yX10_readSlot : MethodName := ⟨RX10, "readSlot", "(I)I"⟩
abbrev cX10_draftOf : ByteArray := prog_1_method_35_code
def yX10_draftOf : MethodName := ⟨RX10, "draftOf", "(ILInclusionProver$Text;LInclusionProver$Text;)V"⟩
abbrev cX10_tapeIsWordOf : ByteArray := prog_1_method_36_code
def yX10_tapeIsWordOf : MethodName := ⟨RX10, "tapeIsWordOf", "(LInclusionProver$Side;)Z"⟩
def RX11 : String := "InclusionProverModel"
def TX11 : u_T := fun k => match k with
  | 0 => ("InclusionProverModel", "all", "[I", true)
  | 1 => ("InclusionProverModel", "tape", "[I", true)
  | 2 => ("InclusionProverModel", "isImage", "[Z", true)
  | 3 => ("InclusionProverModel", "taped", "I", false)
  | 4 => ("InclusionProverModel", "faultPlace", "I", false)
  | 5 => ("InclusionProverModel", "kind", "[I", true)
  | 6 => ("InclusionProverModel", "from", "[I", true)
  | 7 => ("InclusionProverModel", "many", "[I", true)
  | 8 => ("InclusionProverModel", "shortest", "[I", true)
  | 9 => ("InclusionProverModel", "deep", "[I", true)
  | 10 => ("InclusionProverModel", "pool", "[I", true)
  | 11 => ("InclusionProverModel", "full", "[Z", true)
  | 12 => ("InclusionProverModel", "nodes", "I", false)
  | 13 => ("InclusionProverModel", "pooled", "I", false)
  | 14 => ("InclusionProverModel", "partAt", "[I", true)
  | 15 => ("InclusionProverModel", "partMany", "[I", true)
  | 16 => ("InclusionProverModel", "parts", "[I", true)
  | 17 => ("InclusionProverModel", "partsLaid", "I", false)
  | 18 => ("InclusionProverModel", "row", "[I", true)
  | 19 => ("InclusionProverModel", "rows", "I", false)
  | 20 => ("InclusionProverModel", "pair", "[I", true)
  | 21 => ("InclusionProverModel", "sums", "[I", true)
  | 22 => ("InclusionProverModel", "products", "[I", true)
  | 23 => ("InclusionProverModel", "sumMany", "[I", true)
  | 24 => ("InclusionProverModel", "productMany", "[I", true)
  | 25 => ("InclusionProverModel", "level", "I", false)
  | 26 => ("InclusionProverModel", "wrong", "I", false)
  | 27 => ("InclusionProverModel", "spelling", "[I", true)
  | 28 => ("InclusionProverModel", "spelt", "[I", true)
  | 29 => ("InclusionProverModel", "spellMany", "I", false)
  | 30 => ("InclusionProverModel", "speltMany", "I", false)
  | 31 => ("InclusionProverModel", "due", "[I", true)
  | 32 => ("InclusionProverModel", "laid", "[I", true)
  | 33 => ("InclusionProverModel", "laidMany", "I", false)
  | 34 => ("InclusionProverModel", "terms", "[I", true)
  | 35 => ("InclusionProverModel", "termMany", "[I", true)
  | 36 => ("InclusionProverModel", "partSet", "[I", true)
  | 37 => ("InclusionProverModel", "partRow", "[I", true)
  | 38 => ("InclusionProverModel", "partRowMany", "[I", true)
  | 39 => ("InclusionProverModel", "cameBy", "[I", true)
  | 40 => ("InclusionProverModel", "cameWith", "[I", true)
  | 41 => ("InclusionProverModel", "depth", "[I", true)
  | 42 => ("InclusionProverModel", "badLetter", "I", false)
  | 43 => ("InclusionProverModel", "badPart", "I", false)
  | 44 => ("InclusionProverModel", "badReason", "I", false)
  | _ => ("InclusionProverModel", "letters", "[I", true)
def tyX11 : Nat → FieldType := fun k => match k with
  | 0 => .array .int
  | 1 => .array .int
  | 2 => .array .boolean
  | 3 => .int
  | 4 => .int
  | 5 => .array .int
  | 6 => .array .int
  | 7 => .array .int
  | 8 => .array .int
  | 9 => .array .int
  | 10 => .array .int
  | 11 => .array .boolean
  | 12 => .int
  | 13 => .int
  | 14 => .array .int
  | 15 => .array .int
  | 16 => .array .int
  | 17 => .int
  | 18 => .array .int
  | 19 => .int
  | 20 => .array .int
  | 21 => .array .int
  | 22 => .array .int
  | 23 => .array .int
  | 24 => .array .int
  | 25 => .int
  | 26 => .int
  | 27 => .array .int
  | 28 => .array .int
  | 29 => .int
  | 30 => .int
  | 31 => .array .int
  | 32 => .array .int
  | 33 => .int
  | 34 => .array .int
  | 35 => .array .int
  | 36 => .array .int
  | 37 => .array .int
  | 38 => .array .int
  | 39 => .array .int
  | 40 => .array .int
  | 41 => .array .int
  | 42 => .int
  | 43 => .int
  | 44 => .int
  | _ => .array .int
abbrev wsX110 : List Cond := u_ws RX11 TX11 46
theorem nmX11 : ∀ a, a < 46 → ∀ b, b < 46 → a ≠ b → (TX11 a).2.1 ≠ (TX11 b).2.1 := by decide +kernel
theorem tyX11_ok : ∀ k, k < 46 → parseFieldDescriptor (TX11 k).2.2.1 = some (tyX11 k) := by decide +kernel
abbrev cX11_init : ByteArray := prog_13_method_1_code
def yX11_init : MethodName := ⟨RX11, "<init>", "()V"⟩
abbrev cX11_zeroes : ByteArray := prog_13_method_2_code
def yX11_zeroes : MethodName := ⟨RX11, "zeroes", "(I)V"⟩
abbrev cX11_isIn : ByteArray := prog_13_method_3_code
def yX11_isIn : MethodName := ⟨RX11, "isIn", "(III)Z"⟩
abbrev cX11_copies : ByteArray := prog_13_method_4_code
def yX11_copies : MethodName := ⟨RX11, "copies", "(III)V"⟩
abbrev cX11_clears : ByteArray := prog_13_method_5_code
def yX11_clears : MethodName := ⟨RX11, "clears", "()V"⟩
abbrev cX11_addsNode : ByteArray := prog_13_method_6_code
def yX11_addsNode : MethodName := ⟨RX11, "addsNode", "(II)I"⟩
abbrev cX11_joins : ByteArray := prog_13_method_7_code
def yX11_joins : MethodName := ⟨RX11, "joins", "(III)V"⟩
abbrev cX11_kept : ByteArray := prog_13_method_8_code
def yX11_kept : MethodName := ⟨RX11, "kept", "(II)I"⟩
abbrev cX11_notes : ByteArray := prog_13_method_9_code
def yX11_notes : MethodName := ⟨RX11, "notes", "(IZ)V"⟩
abbrev cX11_sum : ByteArray := prog_13_method_10_code
def yX11_sum : MethodName := ⟨RX11, "sum", "([III)I"⟩
abbrev cX11_product : ByteArray := prog_13_method_11_code
def yX11_product : MethodName := ⟨RX11, "product", "([III)I"⟩
abbrev cX11_star : ByteArray := prog_13_method_12_code
def yX11_star : MethodName := ⟨RX11, "star", "(I)I"⟩
abbrev cX11_behind : ByteArray := prog_13_method_13_code
def yX11_behind : MethodName := ⟨RX11, "behind", "(III)I"⟩
abbrev cX11_opens : ByteArray := prog_13_method_14_code
def yX11_opens : MethodName := ⟨RX11, "opens", "()V"⟩
abbrev cX11_addsFactor : ByteArray := prog_13_method_15_code
def yX11_addsFactor : MethodName := ⟨RX11, "addsFactor", "(I)V"⟩
abbrev cX11_endsProduct : ByteArray := prog_13_method_16_code
def yX11_endsProduct : MethodName := ⟨RX11, "endsProduct", "()V"⟩
abbrev cX11_endsSum : ByteArray := prog_13_method_17_code
def yX11_endsSum : MethodName := ⟨RX11, "endsSum", "()I"⟩
abbrev cX11_told : ByteArray := prog_13_method_18_code
def yX11_told : MethodName := ⟨RX11, "told", "([III)I"⟩
abbrev cX11_pushes : ByteArray := prog_13_method_19_code
def yX11_pushes : MethodName := ⟨RX11, "pushes", "(II)V"⟩
abbrev cX11_pushesByte : ByteArray := prog_13_method_20_code
def yX11_pushesByte : MethodName := ⟨RX11, "pushesByte", "(I)V"⟩
abbrev cX11_spells : ByteArray := prog_13_method_21_code
def yX11_spells : MethodName := ⟨RX11, "spells", "(I)V"⟩
abbrev cX11_spellsOne : ByteArray := prog_13_method_22_code
def yX11_spellsOne : MethodName := ⟨RX11, "spellsOne", "(II)V"⟩
abbrev cX11_lacks : ByteArray := prog_13_method_23_code
def yX11_lacks : MethodName := ⟨RX11, "lacks", "(II)I"⟩
abbrev cX11_lays : ByteArray := prog_13_method_24_code
def yX11_lays : MethodName := ⟨RX11, "lays", "(I)V"⟩
abbrev cX11_partOf : ByteArray := prog_13_method_25_code
def yX11_partOf : MethodName := ⟨RX11, "partOf", "(III)I"⟩
abbrev cX11_laysParts : ByteArray := prog_13_method_26_code
def yX11_laysParts : MethodName := ⟨RX11, "laysParts", "(II)V"⟩
abbrev cX11_withStar : ByteArray := prog_13_method_27_code
def yX11_withStar : MethodName := ⟨RX11, "withStar", "(II)I"⟩
abbrev cX11_needs : ByteArray := prog_13_method_28_code
def yX11_needs : MethodName := ⟨RX11, "needs", "(II)V"⟩
abbrev cX11_termBy : ByteArray := prog_13_method_29_code
def yX11_termBy : MethodName := ⟨RX11, "termBy", "(II)I"⟩
abbrev cX11_laysTerms : ByteArray := prog_13_method_30_code
def yX11_laysTerms : MethodName := ⟨RX11, "laysTerms", "(II)V"⟩
abbrev cX11_laysRow : ByteArray := prog_13_method_31_code
def yX11_laysRow : MethodName := ⟨RX11, "laysRow", "(III)V"⟩
abbrev cX11_laysBoth : ByteArray := prog_13_method_32_code
def yX11_laysBoth : MethodName := ⟨RX11, "laysBoth", "(II)V"⟩
abbrev cX11_isFull : ByteArray := prog_13_method_33_code
def yX11_isFull : MethodName := ⟨RX11, "isFull", "(II)Z"⟩
abbrev cX11_isFullSet : ByteArray := prog_13_method_34_code
def yX11_isFullSet : MethodName := ⟨RX11, "isFullSet", "(II)Z"⟩
abbrev cX11_partsOf : ByteArray := prog_13_method_35_code
def yX11_partsOf : MethodName := ⟨RX11, "partsOf", "(III)I"⟩
abbrev cX11_isMember : ByteArray := prog_13_method_36_code
def yX11_isMember : MethodName := ⟨RX11, "isMember", "(II)Z"⟩
abbrev cX11_lineWith : ByteArray := prog_13_method_37_code
def yX11_lineWith : MethodName := ⟨RX11, "lineWith", "(III)I"⟩
abbrev cX11_newLine : ByteArray := prog_13_method_38_code
def yX11_newLine : MethodName := ⟨RX11, "newLine", "(IIIII)V"⟩
abbrev cX11_steps : ByteArray := prog_13_method_39_code
def yX11_steps : MethodName := ⟨RX11, "steps", "(II)Z"⟩
abbrev cX11_tellsWord : ByteArray := prog_13_method_40_code
def yX11_tellsWord : MethodName := ⟨RX11, "tellsWord", "(II)V"⟩
abbrev cX11_searches : ByteArray := prog_13_method_41_code
def yX11_searches : MethodName := ⟨RX11, "searches", "(I)I"⟩
abbrev cX11_forgets : ByteArray := prog_13_method_42_code
def yX11_forgets : MethodName := ⟨RX11, "forgets", "(I)V"⟩
abbrev cX11_prove : ByteArray := prog_13_method_43_code
def yX11_prove : MethodName := ⟨RX11, "prove", "()I"⟩
abbrev cX11_tried : ByteArray := prog_13_method_44_code
def yX11_tried : MethodName := ⟨RX11, "tried", "(II)I"⟩
abbrev cX11_same : ByteArray := prog_13_method_45_code
def yX11_same : MethodName := ⟨RX11, "same", "()I"⟩
abbrev cX11_isSlot : ByteArray := prog_13_method_46_code
def yX11_isSlot : MethodName := ⟨RX11, "isSlot", "(I)Z"⟩
abbrev cX11_between : ByteArray := prog_13_method_47_code
def yX11_between : MethodName := ⟨RX11, "between", "(II)I"⟩
abbrev cX11_apart : ByteArray := prog_13_method_48_code
def yX11_apart : MethodName := ⟨RX11, "apart", "(I)I"⟩
abbrev cX11_line : ByteArray := prog_13_method_49_code
def yX11_line : MethodName := ⟨RX11, "line", "(II)I"⟩
abbrev cX11_placeOf : ByteArray := prog_13_method_50_code
def yX11_placeOf : MethodName := ⟨RX11, "placeOf", "(II)I"⟩
abbrev cX11_alter : ByteArray := prog_13_method_51_code
def yX11_alter : MethodName := ⟨RX11, "alter", "(III)I"⟩
abbrev cX11_cut : ByteArray := prog_13_method_52_code
def yX11_cut : MethodName := ⟨RX11, "cut", "()I"⟩
abbrev cX11_isTold : ByteArray := prog_13_method_53_code
def yX11_isTold : MethodName := ⟨RX11, "isTold", "(I)Z"⟩
abbrev cX11_count : ByteArray := prog_13_method_54_code
def yX11_count : MethodName := ⟨RX11, "count", "(I)I"⟩
abbrev cX11_hasPremise : ByteArray := prog_13_method_55_code
def yX11_hasPremise : MethodName := ⟨RX11, "hasPremise", "(III)Z"⟩
abbrev cX11_reason : ByteArray := prog_13_method_56_code
def yX11_reason : MethodName := ⟨RX11, "reason", "(I)I"⟩
abbrev cX11_bad : ByteArray := prog_13_method_57_code
def yX11_bad : MethodName := ⟨RX11, "bad", "()I"⟩
abbrev cX11_check : ByteArray := prog_13_method_58_code
def yX11_check : MethodName := ⟨RX11, "check", "()I"⟩
abbrev cX11_why : ByteArray := prog_13_method_59_code
def yX11_why : MethodName := ⟨RX11, "why", "(I)I"⟩
abbrev cX11_write : ByteArray := prog_13_method_60_code
def yX11_write : MethodName := ⟨RX11, "write", "(J)I"⟩
abbrev cX11_isSide : ByteArray := prog_13_method_61_code
def yX11_isSide : MethodName := ⟨RX11, "isSide", "(I)Z"⟩
abbrev cX11_becomes : ByteArray := prog_13_method_62_code
def yX11_becomes : MethodName := ⟨RX11, "becomes", "(II)I"⟩
abbrev cX11_side : ByteArray := prog_13_method_63_code
def yX11_side : MethodName := ⟨RX11, "side", "(I)I"⟩
abbrev cX11_fault : ByteArray := prog_13_method_64_code
def yX11_fault : MethodName := ⟨RX11, "fault", "()I"⟩
abbrev cX11_swap : ByteArray := prog_13_method_65_code
def yX11_swap : MethodName := ⟨RX11, "swap", "()V"⟩
abbrev cX11_keep : ByteArray := prog_13_method_66_code
def yX11_keep : MethodName := ⟨RX11, "keep", "(II)Z"⟩
abbrev cX11_make : ByteArray := prog_13_method_67_code
def yX11_make : MethodName := ⟨RX11, "make", "(IIII)I"⟩
abbrev cX11_spelled : ByteArray := prog_13_method_68_code
def yX11_spelled : MethodName := ⟨RX11, "spelled", "(I)I"⟩
abbrev cX11_byteAt : ByteArray := prog_13_method_69_code
def yX11_byteAt : MethodName := ⟨RX11, "byteAt", "(I)I"⟩
abbrev cX11_shape : ByteArray := prog_13_method_70_code
def yX11_shape : MethodName := ⟨RX11, "shape", "(II)I"⟩
abbrev cX11_term : ByteArray := prog_13_method_71_code
def yX11_term : MethodName := ⟨RX11, "term", "(III)I"⟩
abbrev cX11_like : ByteArray := prog_13_method_72_code
def yX11_like : MethodName := ⟨RX11, "like", "(II)I"⟩
abbrev cX11_has : ByteArray := prog_13_method_73_code
def yX11_has : MethodName := ⟨RX11, "has", "(I)Z"⟩
abbrev cX11_isWord : ByteArray := prog_13_method_74_code
def yX11_isWord : MethodName := ⟨RX11, "isWord", "(II)Z"⟩
abbrev cX11_isOne : ByteArray := prog_13_method_75_code
def yX11_isOne : MethodName := ⟨RX11, "isOne", "(II)Z"⟩
abbrev cX11_goesOn : ByteArray := prog_13_method_76_code
def yX11_goesOn : MethodName := ⟨RX11, "goesOn", "(I)Z"⟩
abbrev cX11_number : ByteArray := prog_13_method_77_code
def yX11_number : MethodName := ⟨RX11, "number", "(I)I"⟩
abbrev cX11_listed : ByteArray := prog_13_method_78_code
def yX11_listed : MethodName := ⟨RX11, "listed", "(III)I"⟩
abbrev cX11_words : ByteArray := prog_13_method_79_code
def yX11_words : MethodName := ⟨RX11, "words", "(II)I"⟩
abbrev cX11_word : ByteArray := prog_13_method_80_code
def yX11_word : MethodName := ⟨RX11, "word", "(III)I"⟩
abbrev cX11_image : ByteArray := prog_13_method_81_code
def yX11_image : MethodName := ⟨RX11, "image", "(I)Z"⟩
abbrev cX11_again : ByteArray := prog_13_method_82_code
def yX11_again : MethodName := ⟨RX11, "again", "(I)Z"⟩
def RJ9 : String := "java/lang/Math"
def TJ9 : u_T := fun k => match k with
  | _ => ("", "", "", false)
def tyJ9 : Nat → FieldType := fun k => match k with
  | _ => .int
abbrev wsJ90 : List Cond := u_ws RJ9 TJ9 0
theorem nmJ9 : ∀ a, a < 0 → ∀ b, b < 0 → a ≠ b → (TJ9 a).2.1 ≠ (TJ9 b).2.1 := by decide +kernel
theorem tyJ9_ok : ∀ k, k < 0 → parseFieldDescriptor (TJ9 k).2.2.1 = some (tyJ9 k) := by decide +kernel
abbrev cJ9_max_7cf53 : ByteArray := prog_14_method_65_code
def yJ9_max_7cf53 : MethodName := ⟨RJ9, "max", "(II)I"⟩
abbrev cJ9_min_7cf53 : ByteArray := prog_14_method_69_code
def yJ9_min_7cf53 : MethodName := ⟨RJ9, "min", "(II)I"⟩
def RJ10 : String := "java/lang/System"
def TJ10 : u_T := fun k => match k with
  | _ => ("", "", "", false)
def tyJ10 : Nat → FieldType := fun k => match k with
  | _ => .int
abbrev wsJ100 : List Cond := u_ws RJ10 TJ10 0
theorem nmJ10 : ∀ a, a < 0 → ∀ b, b < 0 → a ≠ b → (TJ10 a).2.1 ≠ (TJ10 b).2.1 := by decide +kernel
theorem tyJ10_ok : ∀ k, k < 0 → parseFieldDescriptor (TJ10 k).2.2.1 = some (tyJ10 k) := by decide +kernel
def RJ7 : String := "java/util/Arrays"
def TJ7 : u_T := fun k => match k with
  | _ => ("", "", "", false)
def tyJ7 : Nat → FieldType := fun k => match k with
  | _ => .int
abbrev wsJ70 : List Cond := u_ws RJ7 TJ7 0
theorem nmJ7 : ∀ a, a < 0 → ∀ b, b < 0 → a ≠ b → (TJ7 a).2.1 ≠ (TJ7 b).2.1 := by decide +kernel
theorem tyJ7_ok : ∀ k, k < 0 → parseFieldDescriptor (TJ7 k).2.2.1 = some (tyJ7 k) := by decide +kernel
abbrev cJ7_fill_53178 : ByteArray := prog_16_method_103_code
def yJ7_fill_53178 : MethodName := ⟨RJ7, "fill", "([II)V"⟩
def RL : String := "InclusionProverLaw"
abbrev cL_law : ByteArray := code
def yL_law : MethodName := ⟨RL, "law", "([I)Z"⟩
abbrev vwCl : List vw_C := [(RX0, TX0, 7), (RX1, TX1, 12), (RX2, TX2, 5), (RX3, TX3, 5), (RX4, TX4, 10), (RX5, TX5, 11), (RX6, TX6, 8), (RX7, TX7, 2), (RX8, TX8, 10), (RX9, TX9, 7), (RX10, TX10, 11), (RX11, TX11, 46)]
end
section
/-! THE LIGHT MACHINE. A store is: how many cells were made, how many slots, and what each cell holds. A reference is the number of its cell. -/
abbrev ll_C : Type := (Nat × Nat × (Nat → Int32)) ⊕ (Nat × Nat × (Nat → Option Nat)) ⊕ (Nat × (Nat → Value))
abbrev ll_S : Type := Nat × Nat × (Nat → ll_C)
abbrev ll_F : Type := Nat × List Value × List Value × ll_S
abbrev ll_G : Type := List Value → List Value → ll_S → Option ll_F
/-- an instruction: a step, a call (method, number of values taken, next), a return (0: none, 1: an int, 2: a boolean) -/
abbrev ll_O : Type := ll_G ⊕ (Nat × Nat × Nat) ⊕ Nat
def ll_up {α : Type} (f : Nat → α) (i : Nat) (x : α) : Nat → α := fun j => if j = i then x else f j
def ll_set (σ : ll_S) (i : Nat) (c : ll_C) : ll_S := (σ.1, σ.2.1, ll_up σ.2.2 i c)
def ll_add (σ : ll_S) (n : Nat) (c : ll_C) : ll_S := (σ.1 + 1, σ.2.1 + n, ll_up σ.2.2 σ.1 c)
def ll_ty (t : Nat) : FieldType := if t = 0 then .int else .boolean
def ll_cn (t : Nat) : String := match vwCl[t]? with
  | some q => q.1
  | none => ""
/-- the light value and the machine's -/
def ll_v (B : Nat → Prop) (adr : List Nat) (v w : Value) : Prop := match v with
  | .ref i => ∃ a, adr[i]? = some a ∧ w = .ref a
  | .float _ => ∃ b, B b ∧ w = .ref b
  | .int x => w = .int x
  | .long x => w = .long x
  | .null => w = .null
  | _ => False
def ll_q (adr : List Nat) (v w : Option Nat) : Prop := match v with
  | some i => ∃ a, adr[i]? = some a ∧ w = some a
  | none => w = none
def ll_st (B : Nat → Prop) (adr : List Nat) : List Value → List Value → Prop
  | [], [] => True
  | v :: a, w :: b => ll_v B adr v w ∧ ll_st B adr a b
  | _, _ => False
def ll_cr (B : Nat → Prop) (U : State) (adr : List Nat) (c : ll_C) (e : va_E) : Prop := match c with
  | .inl (t, n, f) => ∃ cA : ClassId, e = .inl (cA, n, .inl f) ∧ ArrOfT U cA (ll_ty t) ∧ va_RA U cA (ll_ty t)
  | .inr (.inl (t, n, g)) => ∃ (cA : ClassId) (g' : Nat → Option Nat), e = .inl (cA, n, .inr (.inr (.inr (.inr g')))) ∧ (∀ j, ll_q adr (g j) (g' j)) ∧ ArrOfT U cA (.object (ll_cn t)) ∧ va_RA U cA (.object (ll_cn t))
  | .inr (.inr (ci, f)) => ∃ fs : List Value, e = .inr (ci, fs) ∧ (∃ q, vwCl[ci]? = some q ∧ fs.length = q.2.2) ∧ ∀ (k : Nat) (v : Value), fs[k]? = some v → ll_v B adr (f k) v
def ll_W (B : Nat → Prop) (U : State) (D : va_G) (A : Nat → Prop) (adr : List Nat) (ws : va_W) (σ : ll_S) (H : Heap) : Prop :=
  va_P D vwCl ws H ∧ va_D A ws ∧ adr = ws.map Prod.fst ∧ ws.length = σ.1 ∧ ∀ (i a : Nat) (e : va_E), ws[i]? = some (a, e) → ll_cr B U adr (σ.2.2 i) e
def ll_L (B : Nat → Prop) (adr : List Nat) (ls : List Value) (mls : Array Slot) (nL : Nat) : Prop :=
  ls.length = nL ∧ ∃ lv : List (Nat × Value), lv_has mls nL lv ∧ ∀ (i : Nat) (v : Value), ls[i]? = some v → v ≠ .null → ∃ w, (i, w) ∈ lv ∧ ll_v B adr v w
/-- a word of the tables that stays -/
def ll_tb (w : Cond) : Prop := w ∈ lw_tbl ∧ goodWord w = true
/-- what the tables say of arrays of references, and of calls among nest mates: these words are carried by hand -/
def ll_aos : List String := ["InclusionProver$Side", "InclusionProver$Text", "InclusionProver$Room"]
def ll_nws : List (String × Nat × MethodName × String) := [("InclusionProver", 41, yX5_init, "InclusionProver"), ("InclusionProver", 48, yX1_init, "InclusionProver"), ("InclusionProver$Room", 22, yX5_init, "InclusionProver"), ("InclusionProver$Room", 33, yX1_init, "InclusionProver")]
def ll_Z (s : State) : Prop := (∀ C ∈ ll_aos, va_AO C s) ∧ ∀ q ∈ ll_nws, va_Nw (.methodLinkNest q.1 q.2.1 q.2.2.1 q.2.2.2) s
theorem ll_Z_warm {s U : State} (hW : s.WarmedH U.vm) (h : ll_Z s) : ll_Z U := ⟨fun C hC => (h.1 C hC).moved hW.alike, fun q hq => va_Nw.warmM hW (h.2 q hq)⟩
theorem ll_Z_vm {s U : State} (hvm : s.vm = U.vm) (h : ll_Z s) : ll_Z U := ⟨fun C hC => (h.1 C hC).moved (by rw [hvm]; exact Vm.Alike.refl _), fun q hq => va_tabs rfl hvm (h.2 q hq)⟩
/-- what holds throughout a method's body -/
def ll_X (cc : ByteArray) (nL : Nat) (own : String) (ini lw : Bool) (L : Nat) (xs : Nat → Int32) (B : Nat → Prop) (p : Program) (R : Room) (s : State) (m : MethodId) (args : Array Value) (meth : Method) (c : Code) (D : va_G) (A : Nat → Prop) : Prop :=
  p.tables.exec = Jvm.exec ∧ c.code = cc ∧ c.maxLocals = nL ∧ s.vm.findClass own = some m.cls ∧ (∀ w, ll_tb w → w.before args s = true) ∧ va_K D vwCl [] s ∧ (∀ q, s.heap.size ≤ q → A q) ∧ (ini = true → meth.name = "<init>") ∧ 1 ≤ R.frames ∧ 64 ≤ R.locals ∧
  (lw = true → ∀ b, B b → va_X b L xs s s.heap ∧ b < s.heap.size ∧ ¬ A b) ∧ ll_Z s
/-- a step of the light machine is one of the machine's -/
def ll_K (cc : ByteArray) (own : String) (ini lw : Bool) (L : Nat) (xs : Nat → Int32) (pc : Nat) (f : ll_G) : Prop :=
  ∀ (ls st : List Value) (σ : ll_S) (pc' : Nat) (ls' st' : List Value) (σ1 : ll_S), f ls st σ = some (pc', ls', st', σ1) → (σ.1 ≤ σ1.1 ∧ σ.2.1 ≤ σ1.2.1) ∧
    ∀ (B : Nat → Prop) (nL : Nat) (p : Program) (l : Launch) (e : Env) (R : Room) (s : State) (m : MethodId) (args : Array Value) (below : List Frame) (meth : Method) (c : Code) (D : va_G) (A : Nat → Prop) (Q : State → Prop),
    ll_X cc nL own ini lw L xs B p R s m args meth c D A → ∀ (adr : List Nat) (ws : va_W) (mls : Array Slot) (mst : List Value) (H : Heap) (locs : List Loc) (cells slots : Nat),
    ll_W B s D A adr ws σ H → va_S A s.heap H locs → ll_L B adr ls mls nL → ll_st B adr st mst → cells + (σ1.1 - σ.1) ≤ R.cells → slots + (σ1.2.1 - σ.2.1) ≤ R.slots →
    (∀ (adr' : List Nat) (ws' : va_W) (mls' : Array Slot) (mst' : List Value) (H' : Heap) (locs' : List Loc), (∃ z, adr' = adr ++ z) → ll_W B s D A adr' ws' σ1 H' → va_S A s.heap H' locs' → ll_L B adr' ls' mls' nL → ll_st B adr' st' mst' →
      W p l e R s m args below meth c H' locs' (cells + (σ1.1 - σ.1)) (slots + (σ1.2.1 - σ.2.1)) Q (F0 m pc' mls' mst')) →
    W p l e R s m args below meth c H locs cells slots Q (F0 m pc mls mst)
/-! small laws -/
theorem ll_v_app {B : Nat → Prop} {adr z : List Nat} {v w : Value} (h : ll_v B adr v w) : ll_v B (adr ++ z) v w := by
  cases v with
  | ref i =>
    obtain ⟨a, h1, h2⟩ := h
    exact ⟨a, by rw [List.getElem?_append_left (List.getElem?_eq_some_iff.mp h1).1]; exact h1, h2⟩
  | _ => exact h
theorem ll_q_app {adr z : List Nat} {v w : Option Nat} (h : ll_q adr v w) : ll_q (adr ++ z) v w := by
  cases v with
  | some i =>
    obtain ⟨a, h1, h2⟩ := h
    exact ⟨a, by rw [List.getElem?_append_left (List.getElem?_eq_some_iff.mp h1).1]; exact h1, h2⟩
  | none => exact h
theorem ll_st_app {B : Nat → Prop} {adr z : List Nat} : ∀ {a b : List Value}, ll_st B adr a b → ll_st B (adr ++ z) a b
  | [], [], _ => trivial
  | _ :: _, _ :: _, h => ⟨ll_v_app h.1, ll_st_app h.2⟩
  | [], _ :: _, h => h.elim
  | _ :: _, [], h => h.elim
theorem ll_st_inv {B : Nat → Prop} {adr : List Nat} {v : Value} {st mst : List Value} (h : ll_st B adr (v :: st) mst) : ∃ w mr, mst = w :: mr ∧ ll_v B adr v w ∧ ll_st B adr st mr := by
  cases mst with
  | nil => exact h.elim
  | cons w mr => exact ⟨w, mr, rfl, h.1, h.2⟩
theorem ll_st_int {B : Nat → Prop} {adr : List Nat} {x : Int32} {st mst : List Value} (h : ll_st B adr (.int x :: st) mst) : ∃ mr, mst = .int x :: mr ∧ ll_st B adr st mr := by
  obtain ⟨w, mr, h1, h2, h3⟩ := ll_st_inv h
  exact ⟨mr, by rw [h1, show w = .int x from h2], h3⟩
theorem ll_st_long {B : Nat → Prop} {adr : List Nat} {x : Int64} {st mst : List Value} (h : ll_st B adr (.long x :: st) mst) : ∃ mr, mst = .long x :: mr ∧ ll_st B adr st mr := by
  obtain ⟨w, mr, h1, h2, h3⟩ := ll_st_inv h
  exact ⟨mr, by rw [h1, show w = .long x from h2], h3⟩
theorem ll_st_ref {B : Nat → Prop} {adr : List Nat} {i : Nat} {st mst : List Value} (h : ll_st B adr (.ref i :: st) mst) : ∃ a mr, adr[i]? = some a ∧ mst = .ref a :: mr ∧ ll_st B adr st mr := by
  obtain ⟨w, mr, h1, ⟨a, h2, h4⟩, h3⟩ := ll_st_inv h
  exact ⟨a, mr, h2, by rw [h1, h4], h3⟩
theorem ll_st_len {B : Nat → Prop} {adr : List Nat} : ∀ {a b : List Value}, ll_st B adr a b → a.length = b.length
  | [], [], _ => rfl
  | _ :: _, _ :: _, h => by simp [ll_st_len h.2]
  | [], _ :: _, h => h.elim
  | _ :: _, [], h => h.elim
theorem ll_cr_app {B : Nat → Prop} {U : State} {adr z : List Nat} {c : ll_C} {e : va_E} (h : ll_cr B U adr c e) : ll_cr B U (adr ++ z) c e := by
  rcases c with ⟨t, n, f⟩ | ⟨t, n, g⟩ | ⟨ci, f⟩
  · exact h
  · obtain ⟨cA, g', h1, h2, h3⟩ := h
    exact ⟨cA, g', h1, fun j => ll_q_app (h2 j), h3⟩
  · obtain ⟨fs, h1, h2, h3⟩ := h
    exact ⟨fs, h1, h2, fun k v hk => ll_v_app (h3 k v hk)⟩
theorem ll_cr_moved {B : Nat → Prop} {u U : State} {adr : List Nat} {c : ll_C} {e : va_E} (hvm : u.vm.Alike U.vm) (h : ll_cr B u adr c e) : ll_cr B U adr c e := by
  rcases c with ⟨t, n, f⟩ | ⟨t, n, g⟩ | ⟨ci, f⟩
  · obtain ⟨cA, h1, h2, h3⟩ := h
    exact ⟨cA, h1, arrOfT_moved hvm h2, h3.moved hvm⟩
  · obtain ⟨cA, g', h1, h2, h3, h4⟩ := h
    exact ⟨cA, g', h1, h2, arrOfT_moved hvm h3, h4.moved hvm⟩
  · exact h
theorem ll_W_moved {B : Nat → Prop} {u U : State} {D : va_G} {A : Nat → Prop} {adr : List Nat} {ws : va_W} {σ : ll_S} {H : Heap} (hvm : u.vm.Alike U.vm) (h : ll_W B u D A adr ws σ H) : ll_W B U D A adr ws σ H :=
  ⟨h.1, h.2.1, h.2.2.1, h.2.2.2.1, fun i a e hi => ll_cr_moved hvm (h.2.2.2.2 i a e hi)⟩
theorem ll_L_app {B : Nat → Prop} {adr z : List Nat} {ls : List Value} {mls : Array Slot} {nL : Nat} (h : ll_L B adr ls mls nL) : ll_L B (adr ++ z) ls mls nL := by
  obtain ⟨h1, lv, h2, h3⟩ := h
  refine ⟨h1, lv, h2, fun i v hi hn => ?_⟩
  obtain ⟨w, q1, q2⟩ := h3 i v hi hn
  exact ⟨w, q1, ll_v_app q2⟩
/-- the cell behind a reference -/
theorem ll_W_at {B : Nat → Prop} {U : State} {D : va_G} {A : Nat → Prop} {adr : List Nat} {ws : va_W} {σ : ll_S} {H : Heap} (h : ll_W B U D A adr ws σ H) {i a : Nat} (hi : adr[i]? = some a) : ∃ e, ws[i]? = some (a, e) ∧ ll_cr B U adr (σ.2.2 i) e := by
  rw [h.2.2.1, List.getElem?_map] at hi
  cases hq : ws[i]? with
  | none => rw [hq] at hi; cases hi
  | some q =>
    rw [hq] at hi
    have e1 : q.1 = a := by simpa using hi
    obtain ⟨q1, q2⟩ := q
    cases e1
    exact ⟨q2, rfl, h.2.2.2.2 i _ _ hq⟩
/-- a cell is written -/
theorem ll_W_set {B : Nat → Prop} {U : State} {D : va_G} {A : Nat → Prop} {adr : List Nat} {ws : va_W} {σ : ll_S} {H H1 : Heap} (h : ll_W B U D A adr ws σ H) {i a : Nat} {e0 e : va_E} {c : ll_C} (hi : ws[i]? = some (a, e0)) (hP : va_P D vwCl (ws.set i (a, e)) H1) (hD : va_D A (ws.set i (a, e))) (hc : ll_cr B U adr c e) : ll_W B U D A adr (ws.set i (a, e)) (ll_set σ i c) H1 := by
  obtain ⟨-, -, h3, h4, h5⟩ := h
  have hlt : i < ws.length := (List.getElem?_eq_some_iff.mp hi).1
  refine ⟨hP, hD, ?_, by rw [List.length_set]; exact h4, fun j b e' hj => ?_⟩
  · rw [h3, List.map_set]
    apply List.ext_getElem?
    intro j
    rw [List.getElem?_set]
    by_cases hj : i = j
    · subst hj
      have hz := (List.getElem?_eq_some_iff.mp hi).2
      simp [hlt, hz]
    · simp [hj]
  · show ll_cr B U adr (ll_up σ.2.2 i c j) e'
    rw [List.getElem?_set] at hj
    by_cases hij : i = j
    · subst hij
      rw [if_pos rfl, if_pos hlt] at hj
      cases hj
      simp only [ll_up, if_true]
      exact hc
    · rw [if_neg hij] at hj
      rw [ll_up, if_neg (fun q => hij q.symm)]
      exact h5 j b e' hj
/-- a cell is made -/
theorem ll_W_new {B : Nat → Prop} {U : State} {D : va_G} {A : Nat → Prop} {adr : List Nat} {ws : va_W} {σ : ll_S} {H H1 : Heap} (h : ll_W B U D A adr ws σ H) {a n : Nat} {e : va_E} {c : ll_C} (hP : va_P D vwCl (ws ++ [(a, e)]) H1) (hD : va_D A (ws ++ [(a, e)])) (hc : ll_cr B U (adr ++ [a]) c e) : ll_W B U D A (adr ++ [a]) (ws ++ [(a, e)]) (ll_add σ n c) H1 ∧ (adr ++ [a])[σ.1]? = some a := by
  obtain ⟨-, -, h3, h4, h5⟩ := h
  have hl : adr.length = σ.1 := by rw [h3, List.length_map]; exact h4
  refine ⟨⟨hP, hD, by rw [h3]; simp, by simp [ll_add, h4], fun j b e' hj => ?_⟩, by rw [← hl]; simp⟩
  show ll_cr B U (adr ++ [a]) (ll_up σ.2.2 σ.1 c j) e'
  by_cases hlt : j < ws.length
  · rw [List.getElem?_append_left hlt] at hj
    rw [ll_up, if_neg (by omega)]
    exact ll_cr_app (h5 j b e' hj)
  · rw [List.getElem?_append_right (by omega)] at hj
    have hz : j - ws.length < 1 := (List.getElem?_eq_some_iff.mp hj).1
    have hj0 : j = σ.1 := by omega
    subst hj0
    rw [h4, Nat.sub_self] at hj
    cases hj
    rw [ll_up, if_pos rfl]
    exact hc
end
section
/-! THE STEPS, and that each is the machine's. -/
def lo_push (n : Nat) (v : Value) : ll_G := fun ls st σ => some (n, ls, v :: st, σ)
def lo_iload (n i : Nat) : ll_G := fun ls st σ => match ls[i]? with
  | some (.int x) => some (n, ls, .int x :: st, σ)
  | _ => none
def lo_lload (n i : Nat) : ll_G := fun ls st σ => match ls[i]? with
  | some (.long x) => some (n, ls, .long x :: st, σ)
  | _ => none
def lo_aload (n i : Nat) : ll_G := fun ls st σ => match ls[i]? with
  | some (.ref x) => some (n, ls, .ref x :: st, σ)
  | some (.float x) => some (n, ls, .float x :: st, σ)
  | _ => none
/-- the local before is none of two words -/
def ll_no2 (ls : List Value) (i : Nat) : Bool := match i with
  | 0 => true
  | j + 1 => match ls[j]? with
    | some (.long _) => false
    | some (.double _) => false
    | _ => true
def lo_istore (n i : Nat) : ll_G := fun ls st σ => match st with
  | .int x :: r => if i < ls.length ∧ ll_no2 ls i = true then some (n, ls.set i (.int x), r, σ) else none
  | _ => none
def lo_astore (n i : Nat) : ll_G := fun ls st σ => match st with
  | .ref x :: r => if i < ls.length ∧ ll_no2 ls i = true then some (n, ls.set i (.ref x), r, σ) else none
  | _ => none
def lo_iinc (n i : Nat) (k : Int32) : ll_G := fun ls st σ => match ls[i]? with
  | some (.int x) => if ll_no2 ls i = true then some (n, ls.set i (.int (x + k)), st, σ) else none
  | _ => none
def lo_bin (n : Nat) (g : Int32 → Int32 → Int32) : ll_G := fun ls st σ => match st with
  | .int y :: .int x :: r => some (n, ls, .int (g x y) :: r, σ)
  | _ => none
def lo_div (n : Nat) (g : Int32 → Int32 → Int32) : ll_G := fun ls st σ => match st with
  | .int y :: .int x :: r => if y = 0 then none else some (n, ls, .int (g x y) :: r, σ)
  | _ => none
def lo_lbin (n : Nat) (g : Int64 → Int64 → Int64) : ll_G := fun ls st σ => match st with
  | .long y :: .long x :: r => some (n, ls, .long (g x y) :: r, σ)
  | _ => none
def lo_lsh (n : Nat) (g : Int64 → Int32 → Int64) : ll_G := fun ls st σ => match st with
  | .int y :: .long x :: r => some (n, ls, .long (g x y) :: r, σ)
  | _ => none
def lo_i2l (n : Nat) : ll_G := fun ls st σ => match st with
  | .int x :: r => some (n, ls, .long x.toInt64 :: r, σ)
  | _ => none
def lo_l2i (n : Nat) : ll_G := fun ls st σ => match st with
  | .long x :: r => some (n, ls, .int x.toInt32 :: r, σ)
  | _ => none
def lo_lcmp (n : Nat) : ll_G := fun ls st σ => match st with
  | .long y :: .long x :: r => some (n, ls, .int (lg_cmp x y) :: r, σ)
  | _ => none
/-- a value of one word -/
def ll_one (v : Value) : Bool := match v with
  | .int _ => true
  | .ref _ => true
  | .float _ => true
  | .null => true
  | _ => false
def lo_dup (n : Nat) : ll_G := fun ls st σ => match st with
  | v :: r => if ll_one v = true then some (n, ls, v :: v :: r, σ) else none
  | _ => none
def lo_dup2 (n : Nat) : ll_G := fun ls st σ => match st with
  | v :: w :: r => if ll_one v = true ∧ ll_one w = true then some (n, ls, v :: w :: v :: w :: r, σ) else none
  | _ => none
def lo_pop (n : Nat) : ll_G := fun ls st σ => match st with
  | v :: r => if ll_one v = true then some (n, ls, r, σ) else none
  | _ => none
def lo_goto (t : Nat) : ll_G := fun ls st σ => some (t, ls, st, σ)
def lo_if (t n : Nat) (g : Int32 → Bool) : ll_G := fun ls st σ => match st with
  | .int x :: r => if g x = true then some (t, ls, r, σ) else some (n, ls, r, σ)
  | _ => none
def lo_cmp (t n : Nat) (g : Int32 → Int32 → Bool) : ll_G := fun ls st σ => match st with
  | .int y :: .int x :: r => if g x y = true then some (t, ls, r, σ) else some (n, ls, r, σ)
  | _ => none
/-- tableswitch over 0, 1 .. or lo, lo + 1 .. -/
def lo_tab (lo : Int) (ts : List Nat) (d : Nat) : ll_G := fun ls st σ => match st with
  | .int x :: r => if x.toInt < lo then some (d, ls, r, σ) else some (ts.getD (x.toInt - lo).toNat d, ls, r, σ)
  | _ => none
section LK
variable {cc : ByteArray} {own : String} {ini lw : Bool} {L : Nat} {xs : Nat → Int32} {pc : Nat}
/-- steps on the operand stack alone -/
theorem ll_kst {f : ll_G} (h : ∀ (ls st : List Value) (σ : ll_S) (pc' : Nat) (ls' st' : List Value) (σ1 : ll_S), f ls st σ = some (pc', ls', st', σ1) → ls' = ls ∧ σ1 = σ ∧
    ∀ (B : Nat → Prop) (nL : Nat) (p : Program) (l : Launch) (e : Env) (R : Room) (s : State) (m : MethodId) (args : Array Value) (below : List Frame) (meth : Method) (c : Code) (D : va_G) (A : Nat → Prop) (Q : State → Prop),
    ll_X cc nL own ini lw L xs B p R s m args meth c D A → ∀ (adr : List Nat) (mls : Array Slot) (mst : List Value) (H : Heap) (locs : List Loc) (cells slots : Nat), ll_L B adr ls mls nL → ll_st B adr st mst →
      ∃ mst', ll_st B adr st' mst' ∧ (W p l e R s m args below meth c H locs cells slots Q (F0 m pc' mls mst') → W p l e R s m args below meth c H locs cells slots Q (F0 m pc mls mst))) : ll_K cc own ini lw L xs pc f := by
  intro ls st σ pc' ls' st' σ1 hf
  obtain ⟨rfl, rfl, h3⟩ := h ls st σ pc' ls' st' σ1 hf
  refine ⟨⟨Nat.le_refl _, Nat.le_refl _⟩, ?_⟩
  intro B nL p l e R s m args below meth c D A Q cx adr ws mls mst H locs cells slots hW hS hL hst _ _ kk
  obtain ⟨mst', q1, q2⟩ := h3 B nL p l e R s m args below meth c D A Q cx adr mls mst H locs cells slots hL hst
  have k2 := kk adr ws mls mst' H locs ⟨[], by simp⟩ hW hS hL q1
  rw [Nat.sub_self, Nat.sub_self] at k2
  exact q2 k2
theorem lk_iconst {n : Int} {v : Int32} (hd : decode cc pc = .ok (.iconst n, 1)) (hv : Int32.ofInt n = v) : ll_K cc own ini lw L xs pc (lo_push (pc + 1) (.int v)) := by
  refine ll_kst fun ls st σ pc' ls' st' σ1 hf => ?_
  cases hf
  refine ⟨rfl, rfl, fun B nL p l e R s m args below meth c D A Q cx adr mls mst H locs cells slots hL hst => ⟨.int v :: mst, ⟨rfl, hst⟩, fun k => lv_iconst cx.1 cx.2.1 hd hv k⟩⟩
theorem lk_bipush {n : Int} {v : Int32} (hd : decode cc pc = .ok (.bipush n, 2)) (hv : (Int8.ofInt n).toInt32 = v) : ll_K cc own ini lw L xs pc (lo_push (pc + 2) (.int v)) := by
  refine ll_kst fun ls st σ pc' ls' st' σ1 hf => ?_
  cases hf
  refine ⟨rfl, rfl, fun B nL p l e R s m args below meth c D A Q cx adr mls mst H locs cells slots hL hst => ⟨.int v :: mst, ⟨rfl, hst⟩, fun k => lv_bipush cx.1 cx.2.1 hd hv k⟩⟩
theorem lk_sipush {n : Int} {v : Int32} (hd : decode cc pc = .ok (.sipush n, 3)) (hv : (Int16.ofInt n).toInt32 = v) : ll_K cc own ini lw L xs pc (lo_push (pc + 3) (.int v)) := by
  refine ll_kst fun ls st σ pc' ls' st' σ1 hf => ?_
  cases hf
  refine ⟨rfl, rfl, fun B nL p l e R s m args below meth c D A Q cx adr mls mst H locs cells slots hL hst => ⟨.int v :: mst, ⟨rfl, hst⟩, fun k => lv_sipush cx.1 cx.2.1 hd hv k⟩⟩
theorem lk_lconst {n : Fin 2} {v : Int64} (hd : decode cc pc = .ok (.lconst n, 1)) (hv : Int64.ofNat (n : Nat) = v) : ll_K cc own ini lw L xs pc (lo_push (pc + 1) (.long v)) := by
  refine ll_kst fun ls st σ pc' ls' st' σ1 hf => ?_
  cases hf
  refine ⟨rfl, rfl, fun B nL p l e R s m args below meth c D A Q cx adr mls mst H locs cells slots hL hst => ⟨.long v :: mst, ⟨rfl, hst⟩, fun k => lv_lconst cx.1 cx.2.1 hd hv k⟩⟩
theorem lk_ldc {ix : Nat} {v : Int32} (hd : decode cc pc = .ok (.ldc ix, 2)) (hw : ll_tb (.constant own ix v)) : ll_K cc own ini lw L xs pc (lo_push (pc + 2) (.int v)) := by
  refine ll_kst fun ls st σ pc' ls' st' σ1 hf => ?_
  cases hf
  refine ⟨rfl, rfl, fun B nL p l e R s m args below meth c D A Q cx adr mls mst H locs cells slots hL hst => ⟨.int v :: mst, ⟨rfl, hst⟩, fun k => lv_ldc cx.1 cx.2.1 cx.2.2.2.1 (cx.2.2.2.2.1 _ hw) hd k⟩⟩
theorem lk_ldc2 {ix : Nat} {v : Int64} (hd : decode cc pc = .ok (.ldc2_w ix, 3)) (hw : ll_tb (.constantLong own ix v)) : ll_K cc own ini lw L xs pc (lo_push (pc + 3) (.long v)) := by
  refine ll_kst fun ls st σ pc' ls' st' σ1 hf => ?_
  cases hf
  refine ⟨rfl, rfl, fun B nL p l e R s m args below meth c D A Q cx adr mls mst H locs cells slots hL hst => ⟨.long v :: mst, ⟨rfl, hst⟩, fun k => lv_ldc2 cx.1 cx.2.1 cx.2.2.2.1 (cx.2.2.2.2.1 _ hw) hd k⟩⟩
/-- what a local holds -/
theorem ll_L_at {B : Nat → Prop} {adr : List Nat} {ls : List Value} {mls : Array Slot} {nL i : Nat} {v : Value} (h : ll_L B adr ls mls nL) (hi : ls[i]? = some v) (hn : v ≠ .null) : ∃ w, mls[i]? = some (.val w) ∧ ll_v B adr v w := by
  obtain ⟨-, lv, h2, h3⟩ := h
  obtain ⟨w, q1, q2⟩ := h3 i v hi hn
  exact ⟨w, h2.2.2 (i, w) q1, q2⟩
theorem lo_iload_inv {n i : Nat} {ls st : List Value} {σ : ll_S} {r : ll_F} (h : lo_iload n i ls st σ = some r) : ∃ x, ls[i]? = some (.int x) ∧ r = (n, ls, .int x :: st, σ) := by
  unfold lo_iload at h
  split at h
  · rename_i x hx
    exact ⟨x, hx, (Option.some.inj h).symm⟩
  · cases h
theorem lo_lload_inv {n i : Nat} {ls st : List Value} {σ : ll_S} {r : ll_F} (h : lo_lload n i ls st σ = some r) : ∃ x, ls[i]? = some (.long x) ∧ r = (n, ls, .long x :: st, σ) := by
  unfold lo_lload at h
  split at h
  · rename_i x hx
    exact ⟨x, hx, (Option.some.inj h).symm⟩
  · cases h
theorem lo_aload_inv {n i : Nat} {ls st : List Value} {σ : ll_S} {r : ll_F} (h : lo_aload n i ls st σ = some r) : ∃ v, ls[i]? = some v ∧ v ≠ .null ∧ (∀ (B : Nat → Prop) (adr : List Nat) (w : Value), ll_v B adr v w → ∃ a, w = .ref a) ∧ r = (n, ls, v :: st, σ) := by
  unfold lo_aload at h
  split at h
  · rename_i x hx
    exact ⟨.ref x, hx, (fun q => by cases q), fun B adr w q => by obtain ⟨a, -, q2⟩ := q; exact ⟨a, q2⟩, (Option.some.inj h).symm⟩
  · rename_i x hx
    exact ⟨.float x, hx, (fun q => by cases q), fun B adr w q => by obtain ⟨a, -, q2⟩ := q; exact ⟨a, q2⟩, (Option.some.inj h).symm⟩
  · cases h
theorem lk_iload_n {k : Fin 4} {i : Nat} (hd : decode cc pc = .ok (.iload_n k, 1)) (hk : (k : Nat) = i) : ll_K cc own ini lw L xs pc (lo_iload (pc + 1) i) := by
  refine ll_kst fun ls st σ pc' ls' st' σ1 hf => ?_
  obtain ⟨x, hx, he⟩ := lo_iload_inv hf
  cases he
  refine ⟨rfl, rfl, fun B nL p l e R s m args below meth c D A Q cx adr mls mst H locs cells slots hL hst => ?_⟩
  obtain ⟨w, q1, q2⟩ := ll_L_at hL hx (fun q => by cases q)
  rw [show w = .int x from q2] at q1
  exact ⟨.int x :: mst, ⟨rfl, hst⟩, fun k => lv_iload_n cx.1 cx.2.1 hd hk q1 k⟩
theorem lk_iload {i : Nat} (hd : decode cc pc = .ok (.iload i, 2)) : ll_K cc own ini lw L xs pc (lo_iload (pc + 2) i) := by
  refine ll_kst fun ls st σ pc' ls' st' σ1 hf => ?_
  obtain ⟨x, hx, he⟩ := lo_iload_inv hf
  cases he
  refine ⟨rfl, rfl, fun B nL p l e R s m args below meth c D A Q cx adr mls mst H locs cells slots hL hst => ?_⟩
  obtain ⟨w, q1, q2⟩ := ll_L_at hL hx (fun q => by cases q)
  rw [show w = .int x from q2] at q1
  exact ⟨.int x :: mst, ⟨rfl, hst⟩, fun k => lv_iload cx.1 cx.2.1 hd q1 k⟩
theorem lk_lload_n {k : Fin 4} {i : Nat} (hd : decode cc pc = .ok (.lload_n k, 1)) (hk : (k : Nat) = i) : ll_K cc own ini lw L xs pc (lo_lload (pc + 1) i) := by
  refine ll_kst fun ls st σ pc' ls' st' σ1 hf => ?_
  obtain ⟨x, hx, he⟩ := lo_lload_inv hf
  cases he
  refine ⟨rfl, rfl, fun B nL p l e R s m args below meth c D A Q cx adr mls mst H locs cells slots hL hst => ?_⟩
  obtain ⟨w, q1, q2⟩ := ll_L_at hL hx (fun q => by cases q)
  rw [show w = .long x from q2] at q1
  exact ⟨.long x :: mst, ⟨rfl, hst⟩, fun k => lv_lload_n cx.1 cx.2.1 hd hk q1 k⟩
theorem lk_aload_n {k : Fin 4} {i : Nat} (hd : decode cc pc = .ok (.aload_n k, 1)) (hk : (k : Nat) = i) : ll_K cc own ini lw L xs pc (lo_aload (pc + 1) i) := by
  refine ll_kst fun ls st σ pc' ls' st' σ1 hf => ?_
  obtain ⟨v, hx, hn, hr, he⟩ := lo_aload_inv hf
  cases he
  refine ⟨rfl, rfl, fun B nL p l e R s m args below meth c D A Q cx adr mls mst H locs cells slots hL hst => ?_⟩
  obtain ⟨w, q1, q2⟩ := ll_L_at hL hx hn
  obtain ⟨a, rfl⟩ := hr B adr w q2
  exact ⟨.ref a :: mst, ⟨q2, hst⟩, fun k => lv_aload_n cx.1 cx.2.1 hd hk q1 k⟩
theorem lk_aload {i : Nat} (hd : decode cc pc = .ok (.aload i, 2)) : ll_K cc own ini lw L xs pc (lo_aload (pc + 2) i) := by
  refine ll_kst fun ls st σ pc' ls' st' σ1 hf => ?_
  obtain ⟨v, hx, hn, hr, he⟩ := lo_aload_inv hf
  cases he
  refine ⟨rfl, rfl, fun B nL p l e R s m args below meth c D A Q cx adr mls mst H locs cells slots hL hst => ?_⟩
  obtain ⟨w, q1, q2⟩ := ll_L_at hL hx hn
  obtain ⟨a, rfl⟩ := hr B adr w q2
  exact ⟨.ref a :: mst, ⟨q2, hst⟩, fun k => lv_aload cx.1 cx.2.1 hd q1 k⟩
/-- a local is written -/
theorem ll_L_set {B : Nat → Prop} {adr : List Nat} {ls : List Value} {mls mls' : Array Slot} {nL i : Nat} {v w : Value} {lv : List (Nat × Value)} (hl : ls.length = nL) (h3 : ∀ (i : Nat) (v : Value), ls[i]? = some v → v ≠ .null → ∃ w, (i, w) ∈ lv ∧ ll_v B adr v w) (hi : i < ls.length) (hno : ll_no2 ls i = true) (hv : ll_v B adr v w)
    (h' : lv_has mls' nL ((i, w) :: lv.filter (fun q => !(q.1 == i) && !(q.1 + 1 == i && q.2.category == 2)))) : ll_L B adr (ls.set i v) mls' nL := by
  refine ⟨by rw [List.length_set]; exact hl, _, h', fun j u hj hn => ?_⟩
  rw [List.getElem?_set] at hj
  by_cases hij : i = j
  · subst hij
    rw [if_pos rfl, if_pos hi] at hj
    cases hj
    exact ⟨w, List.mem_cons_self, hv⟩
  · rw [if_neg hij] at hj
    obtain ⟨w', q1, q2⟩ := h3 j u hj hn
    refine ⟨w', List.mem_cons_of_mem _ (List.mem_filter.mpr ⟨q1, ?_⟩), q2⟩
    have e1 : (j == i) = false := by simpa using fun q => hij q.symm
    by_cases e2 : j + 1 = i
    · subst e2
      have e3 : (w'.category == 2) = false := by
        simp only [ll_no2, hj] at hno
        cases u with
        | int x => rw [show w' = .int x from q2]; rfl
        | long x => simp at hno
        | float x => obtain ⟨b, -, rfl⟩ := q2; rfl
        | double x => simp at hno
        | null => exact absurd rfl hn
        | ref a => obtain ⟨b, -, rfl⟩ := q2; rfl
        | retAddr a => exact False.elim q2
      simp [e3]
    · simp [e1, e2]
theorem lo_istore_inv {n i : Nat} {ls st : List Value} {σ : ll_S} {r : ll_F} (h : lo_istore n i ls st σ = some r) : ∃ x rest, st = .int x :: rest ∧ i < ls.length ∧ ll_no2 ls i = true ∧ r = (n, ls.set i (.int x), rest, σ) := by
  unfold lo_istore at h
  split at h
  · rename_i x rest
    split at h
    · rename_i hc
      exact ⟨x, rest, rfl, hc.1, hc.2, (Option.some.inj h).symm⟩
    · cases h
  · cases h
theorem lo_astore_inv {n i : Nat} {ls st : List Value} {σ : ll_S} {r : ll_F} (h : lo_astore n i ls st σ = some r) : ∃ x rest, st = .ref x :: rest ∧ i < ls.length ∧ ll_no2 ls i = true ∧ r = (n, ls.set i (.ref x), rest, σ) := by
  unfold lo_astore at h
  split at h
  · rename_i x rest
    split at h
    · rename_i hc
      exact ⟨x, rest, rfl, hc.1, hc.2, (Option.some.inj h).symm⟩
    · cases h
  · cases h
theorem lo_iinc_inv {n i : Nat} {k : Int32} {ls st : List Value} {σ : ll_S} {r : ll_F} (h : lo_iinc n i k ls st σ = some r) : ∃ x, ls[i]? = some (.int x) ∧ ll_no2 ls i = true ∧ r = (n, ls.set i (.int (x + k)), st, σ) := by
  unfold lo_iinc at h
  split at h
  · rename_i x hx
    split at h
    · rename_i hc
      exact ⟨x, hx, hc, (Option.some.inj h).symm⟩
    · cases h
  · cases h
/-- steps on locals and operand stack -/
theorem ll_kls {f : ll_G} (h : ∀ (ls st : List Value) (σ : ll_S) (pc' : Nat) (ls' st' : List Value) (σ1 : ll_S), f ls st σ = some (pc', ls', st', σ1) → σ1 = σ ∧
    ∀ (B : Nat → Prop) (nL : Nat) (p : Program) (l : Launch) (e : Env) (R : Room) (s : State) (m : MethodId) (args : Array Value) (below : List Frame) (meth : Method) (c : Code) (D : va_G) (A : Nat → Prop) (Q : State → Prop),
    ll_X cc nL own ini lw L xs B p R s m args meth c D A → ∀ (adr : List Nat) (mls : Array Slot) (mst : List Value) (H : Heap) (locs : List Loc) (cells slots : Nat), ll_L B adr ls mls nL → ll_st B adr st mst →
      (∀ (mls' : Array Slot) (mst' : List Value), ll_L B adr ls' mls' nL → ll_st B adr st' mst' → W p l e R s m args below meth c H locs cells slots Q (F0 m pc' mls' mst')) → W p l e R s m args below meth c H locs cells slots Q (F0 m pc mls mst)) : ll_K cc own ini lw L xs pc f := by
  intro ls st σ pc' ls' st' σ1 hf
  obtain ⟨rfl, h3⟩ := h ls st σ pc' ls' st' σ1 hf
  refine ⟨⟨Nat.le_refl _, Nat.le_refl _⟩, ?_⟩
  intro B nL p l e R s m args below meth c D A Q cx adr ws mls mst H locs cells slots hW hS hL hst _ _ kk
  refine h3 B nL p l e R s m args below meth c D A Q cx adr mls mst H locs cells slots hL hst fun mls' mst' q1 q2 => ?_
  have k2 := kk adr ws mls' mst' H locs ⟨[], by simp⟩ hW hS q1 q2
  rw [Nat.sub_self, Nat.sub_self] at k2
  exact k2
theorem lk_istore_n {k : Fin 4} {i : Nat} (hd : decode cc pc = .ok (.istore_n k, 1)) (hk : (k : Nat) = i) : ll_K cc own ini lw L xs pc (lo_istore (pc + 1) i) := by
  refine ll_kls fun ls st σ pc' ls' st' σ1 hf => ?_
  obtain ⟨x, rest, rfl, hi, hno, he⟩ := lo_istore_inv hf
  cases he
  refine ⟨rfl, fun B nL p l e R s m args below meth c D A Q cx adr mls mst H locs cells slots hL hst kk => ?_⟩
  obtain ⟨mr, rfl, hr⟩ := ll_st_int hst
  obtain ⟨hl, lv, h2, h3⟩ := hL
  exact lv_istore_n cx.1 cx.2.1 hd hk h2 (by omega) rfl fun mls' h' => kk mls' mr (ll_L_set (mls := mls) hl h3 hi hno rfl h') hr
theorem lk_istore {i : Nat} (hd : decode cc pc = .ok (.istore i, 2)) : ll_K cc own ini lw L xs pc (lo_istore (pc + 2) i) := by
  refine ll_kls fun ls st σ pc' ls' st' σ1 hf => ?_
  obtain ⟨x, rest, rfl, hi, hno, he⟩ := lo_istore_inv hf
  cases he
  refine ⟨rfl, fun B nL p l e R s m args below meth c D A Q cx adr mls mst H locs cells slots hL hst kk => ?_⟩
  obtain ⟨mr, rfl, hr⟩ := ll_st_int hst
  obtain ⟨hl, lv, h2, h3⟩ := hL
  exact lv_istore cx.1 cx.2.1 hd h2 (by omega) rfl fun mls' h' => kk mls' mr (ll_L_set (mls := mls) hl h3 hi hno rfl h') hr
theorem lk_astore_n {k : Fin 4} {i : Nat} (hd : decode cc pc = .ok (.astore_n k, 1)) (hk : (k : Nat) = i) : ll_K cc own ini lw L xs pc (lo_astore (pc + 1) i) := by
  refine ll_kls fun ls st σ pc' ls' st' σ1 hf => ?_
  obtain ⟨x, rest, rfl, hi, hno, he⟩ := lo_astore_inv hf
  cases he
  refine ⟨rfl, fun B nL p l e R s m args below meth c D A Q cx adr mls mst H locs cells slots hL hst kk => ?_⟩
  obtain ⟨a, mr, ha, rfl, hr⟩ := ll_st_ref hst
  obtain ⟨hl, lv, h2, h3⟩ := hL
  exact lv_astore_n cx.1 cx.2.1 hd hk h2 (by omega) rfl fun mls' h' => kk mls' mr (ll_L_set (mls := mls) hl h3 hi hno ⟨a, ha, rfl⟩ h') hr
theorem lk_astore {i : Nat} (hd : decode cc pc = .ok (.astore i, 2)) : ll_K cc own ini lw L xs pc (lo_astore (pc + 2) i) := by
  refine ll_kls fun ls st σ pc' ls' st' σ1 hf => ?_
  obtain ⟨x, rest, rfl, hi, hno, he⟩ := lo_astore_inv hf
  cases he
  refine ⟨rfl, fun B nL p l e R s m args below meth c D A Q cx adr mls mst H locs cells slots hL hst kk => ?_⟩
  obtain ⟨a, mr, ha, rfl, hr⟩ := ll_st_ref hst
  obtain ⟨hl, lv, h2, h3⟩ := hL
  exact lv_astore cx.1 cx.2.1 hd h2 (by omega) rfl fun mls' h' => kk mls' mr (ll_L_set (mls := mls) hl h3 hi hno ⟨a, ha, rfl⟩ h') hr
theorem lk_iinc {i : Nat} {n : Int} {k : Int32} (hd : decode cc pc = .ok (.iinc i n, 3)) (hk : Int32.ofInt n = k) : ll_K cc own ini lw L xs pc (lo_iinc (pc + 3) i k) := by
  subst hk
  refine ll_kls fun ls st σ pc' ls' st' σ1 hf => ?_
  obtain ⟨x, hx, hno, he⟩ := lo_iinc_inv hf
  cases he
  refine ⟨rfl, fun B nL p l e R s m args below meth c D A Q cx adr mls mst H locs cells slots hL hst kk => ?_⟩
  have hi : i < ls.length := (List.getElem?_eq_some_iff.mp hx).1
  obtain ⟨hl, lv, h2, h3⟩ := hL
  obtain ⟨w, q1, q2⟩ := h3 i _ hx (fun q => by cases q)
  rw [show w = .int x from q2] at q1
  obtain ⟨j, hj⟩ := List.getElem?_of_mem q1
  exact lv_iinc cx.1 cx.2.1 hd h2 hj rfl (by omega) rfl fun mls' h' => kk mls' mst (ll_L_set (mls := mls) hl h3 hi hno rfl h') hst
theorem lo_bin_inv {n : Nat} {g : Int32 → Int32 → Int32} {ls st : List Value} {σ : ll_S} {r : ll_F} (h : lo_bin n g ls st σ = some r) : ∃ x y rest, st = .int y :: .int x :: rest ∧ r = (n, ls, .int (g x y) :: rest, σ) := by
  unfold lo_bin at h
  split at h
  · rename_i y x rest
    exact ⟨x, y, rest, rfl, (Option.some.inj h).symm⟩
  · cases h
theorem lo_div_inv {n : Nat} {g : Int32 → Int32 → Int32} {ls st : List Value} {σ : ll_S} {r : ll_F} (h : lo_div n g ls st σ = some r) : ∃ x y rest, st = .int y :: .int x :: rest ∧ ¬ y = 0 ∧ r = (n, ls, .int (g x y) :: rest, σ) := by
  unfold lo_div at h
  split at h
  · rename_i y x rest
    split at h
    · cases h
    · rename_i hy
      exact ⟨x, y, rest, rfl, hy, (Option.some.inj h).symm⟩
  · cases h
theorem lo_lbin_inv {n : Nat} {g : Int64 → Int64 → Int64} {ls st : List Value} {σ : ll_S} {r : ll_F} (h : lo_lbin n g ls st σ = some r) : ∃ x y rest, st = .long y :: .long x :: rest ∧ r = (n, ls, .long (g x y) :: rest, σ) := by
  unfold lo_lbin at h
  split at h
  · rename_i y x rest
    exact ⟨x, y, rest, rfl, (Option.some.inj h).symm⟩
  · cases h
theorem lo_lsh_inv {n : Nat} {g : Int64 → Int32 → Int64} {ls st : List Value} {σ : ll_S} {r : ll_F} (h : lo_lsh n g ls st σ = some r) : ∃ x y rest, st = .int y :: .long x :: rest ∧ r = (n, ls, .long (g x y) :: rest, σ) := by
  unfold lo_lsh at h
  split at h
  · rename_i y x rest
    exact ⟨x, y, rest, rfl, (Option.some.inj h).symm⟩
  · cases h
theorem lk_iadd (hd : decode cc pc = .ok (.iadd, 1)) : ll_K cc own ini lw L xs pc (lo_bin (pc + 1) (fun x y => x + y)) := by
  refine ll_kst fun ls st σ pc' ls' st' σ1 hf => ?_
  obtain ⟨x, y, rest, rfl, he⟩ := lo_bin_inv hf
  cases he
  refine ⟨rfl, rfl, fun B nL p l e R s m args below meth c D A Q cx adr mls mst H locs cells slots hL hst => ?_⟩
  obtain ⟨m1, rfl, h1⟩ := ll_st_int hst
  obtain ⟨m2, rfl, h2⟩ := ll_st_int h1
  exact ⟨_ :: m2, ⟨rfl, h2⟩, fun k => lv_iadd cx.1 cx.2.1 hd k⟩
theorem lk_isub (hd : decode cc pc = .ok (.isub, 1)) : ll_K cc own ini lw L xs pc (lo_bin (pc + 1) (fun x y => x - y)) := by
  refine ll_kst fun ls st σ pc' ls' st' σ1 hf => ?_
  obtain ⟨x, y, rest, rfl, he⟩ := lo_bin_inv hf
  cases he
  refine ⟨rfl, rfl, fun B nL p l e R s m args below meth c D A Q cx adr mls mst H locs cells slots hL hst => ?_⟩
  obtain ⟨m1, rfl, h1⟩ := ll_st_int hst
  obtain ⟨m2, rfl, h2⟩ := ll_st_int h1
  exact ⟨_ :: m2, ⟨rfl, h2⟩, fun k => lv_isub cx.1 cx.2.1 hd k⟩
theorem lk_imul (hd : decode cc pc = .ok (.imul, 1)) : ll_K cc own ini lw L xs pc (lo_bin (pc + 1) (fun x y => x * y)) := by
  refine ll_kst fun ls st σ pc' ls' st' σ1 hf => ?_
  obtain ⟨x, y, rest, rfl, he⟩ := lo_bin_inv hf
  cases he
  refine ⟨rfl, rfl, fun B nL p l e R s m args below meth c D A Q cx adr mls mst H locs cells slots hL hst => ?_⟩
  obtain ⟨m1, rfl, h1⟩ := ll_st_int hst
  obtain ⟨m2, rfl, h2⟩ := ll_st_int h1
  exact ⟨_ :: m2, ⟨rfl, h2⟩, fun k => lv_imul cx.1 cx.2.1 hd k⟩
theorem lk_iand (hd : decode cc pc = .ok (.iand, 1)) : ll_K cc own ini lw L xs pc (lo_bin (pc + 1) (fun x y => x &&& y)) := by
  refine ll_kst fun ls st σ pc' ls' st' σ1 hf => ?_
  obtain ⟨x, y, rest, rfl, he⟩ := lo_bin_inv hf
  cases he
  refine ⟨rfl, rfl, fun B nL p l e R s m args below meth c D A Q cx adr mls mst H locs cells slots hL hst => ?_⟩
  obtain ⟨m1, rfl, h1⟩ := ll_st_int hst
  obtain ⟨m2, rfl, h2⟩ := ll_st_int h1
  exact ⟨_ :: m2, ⟨rfl, h2⟩, fun k => lv_iand cx.1 cx.2.1 hd k⟩
theorem lk_ior (hd : decode cc pc = .ok (.ior, 1)) : ll_K cc own ini lw L xs pc (lo_bin (pc + 1) (fun x y => x ||| y)) := by
  refine ll_kst fun ls st σ pc' ls' st' σ1 hf => ?_
  obtain ⟨x, y, rest, rfl, he⟩ := lo_bin_inv hf
  cases he
  refine ⟨rfl, rfl, fun B nL p l e R s m args below meth c D A Q cx adr mls mst H locs cells slots hL hst => ?_⟩
  obtain ⟨m1, rfl, h1⟩ := ll_st_int hst
  obtain ⟨m2, rfl, h2⟩ := ll_st_int h1
  exact ⟨_ :: m2, ⟨rfl, h2⟩, fun k => lv_ior cx.1 cx.2.1 hd k⟩
theorem lk_ixor (hd : decode cc pc = .ok (.ixor, 1)) : ll_K cc own ini lw L xs pc (lo_bin (pc + 1) (fun x y => x ^^^ y)) := by
  refine ll_kst fun ls st σ pc' ls' st' σ1 hf => ?_
  obtain ⟨x, y, rest, rfl, he⟩ := lo_bin_inv hf
  cases he
  refine ⟨rfl, rfl, fun B nL p l e R s m args below meth c D A Q cx adr mls mst H locs cells slots hL hst => ?_⟩
  obtain ⟨m1, rfl, h1⟩ := ll_st_int hst
  obtain ⟨m2, rfl, h2⟩ := ll_st_int h1
  exact ⟨_ :: m2, ⟨rfl, h2⟩, fun k => lv_ixor cx.1 cx.2.1 hd k⟩
theorem lk_ishl (hd : decode cc pc = .ok (.ishl, 1)) : ll_K cc own ini lw L xs pc (lo_bin (pc + 1) (fun x y => x <<< (y &&& 31))) := by
  refine ll_kst fun ls st σ pc' ls' st' σ1 hf => ?_
  obtain ⟨x, y, rest, rfl, he⟩ := lo_bin_inv hf
  cases he
  refine ⟨rfl, rfl, fun B nL p l e R s m args below meth c D A Q cx adr mls mst H locs cells slots hL hst => ?_⟩
  obtain ⟨m1, rfl, h1⟩ := ll_st_int hst
  obtain ⟨m2, rfl, h2⟩ := ll_st_int h1
  exact ⟨_ :: m2, ⟨rfl, h2⟩, fun k => lv_ishl cx.1 cx.2.1 hd k⟩
theorem lk_ishr (hd : decode cc pc = .ok (.ishr, 1)) : ll_K cc own ini lw L xs pc (lo_bin (pc + 1) (fun x y => x >>> (y &&& 31))) := by
  refine ll_kst fun ls st σ pc' ls' st' σ1 hf => ?_
  obtain ⟨x, y, rest, rfl, he⟩ := lo_bin_inv hf
  cases he
  refine ⟨rfl, rfl, fun B nL p l e R s m args below meth c D A Q cx adr mls mst H locs cells slots hL hst => ?_⟩
  obtain ⟨m1, rfl, h1⟩ := ll_st_int hst
  obtain ⟨m2, rfl, h2⟩ := ll_st_int h1
  exact ⟨_ :: m2, ⟨rfl, h2⟩, fun k => lv_ishr cx.1 cx.2.1 hd k⟩
theorem lk_iushr (hd : decode cc pc = .ok (.iushr, 1)) : ll_K cc own ini lw L xs pc (lo_bin (pc + 1) (fun x y => (x.toUInt32 >>> (y.toUInt32 &&& Int32.toUInt32 31)).toInt32)) := by
  refine ll_kst fun ls st σ pc' ls' st' σ1 hf => ?_
  obtain ⟨x, y, rest, rfl, he⟩ := lo_bin_inv hf
  cases he
  refine ⟨rfl, rfl, fun B nL p l e R s m args below meth c D A Q cx adr mls mst H locs cells slots hL hst => ?_⟩
  obtain ⟨m1, rfl, h1⟩ := ll_st_int hst
  obtain ⟨m2, rfl, h2⟩ := ll_st_int h1
  exact ⟨_ :: m2, ⟨rfl, h2⟩, fun k => lv_iushr cx.1 cx.2.1 hd rfl k⟩
theorem lk_idiv (hd : decode cc pc = .ok (.idiv, 1)) : ll_K cc own ini lw L xs pc (lo_div (pc + 1) (fun x y => x / y)) := by
  refine ll_kst fun ls st σ pc' ls' st' σ1 hf => ?_
  obtain ⟨x, y, rest, rfl, hy, he⟩ := lo_div_inv hf
  cases he
  refine ⟨rfl, rfl, fun B nL p l e R s m args below meth c D A Q cx adr mls mst H locs cells slots hL hst => ?_⟩
  obtain ⟨m1, rfl, h1⟩ := ll_st_int hst
  obtain ⟨m2, rfl, h2⟩ := ll_st_int h1
  exact ⟨_ :: m2, ⟨rfl, h2⟩, fun k => lv_idiv cx.1 cx.2.1 hd hy k⟩
theorem lk_irem (hd : decode cc pc = .ok (.irem, 1)) : ll_K cc own ini lw L xs pc (lo_div (pc + 1) (fun x y => x - x / y * y)) := by
  refine ll_kst fun ls st σ pc' ls' st' σ1 hf => ?_
  obtain ⟨x, y, rest, rfl, hy, he⟩ := lo_div_inv hf
  cases he
  refine ⟨rfl, rfl, fun B nL p l e R s m args below meth c D A Q cx adr mls mst H locs cells slots hL hst => ?_⟩
  obtain ⟨m1, rfl, h1⟩ := ll_st_int hst
  obtain ⟨m2, rfl, h2⟩ := ll_st_int h1
  exact ⟨_ :: m2, ⟨rfl, h2⟩, fun k => lv_irem cx.1 cx.2.1 hd hy k⟩
theorem lk_land (hd : decode cc pc = .ok (.land, 1)) : ll_K cc own ini lw L xs pc (lo_lbin (pc + 1) (fun x y => x &&& y)) := by
  refine ll_kst fun ls st σ pc' ls' st' σ1 hf => ?_
  obtain ⟨x, y, rest, rfl, he⟩ := lo_lbin_inv hf
  cases he
  refine ⟨rfl, rfl, fun B nL p l e R s m args below meth c D A Q cx adr mls mst H locs cells slots hL hst => ?_⟩
  obtain ⟨m1, rfl, h1⟩ := ll_st_long hst
  obtain ⟨m2, rfl, h2⟩ := ll_st_long h1
  exact ⟨_ :: m2, ⟨rfl, h2⟩, fun k => lv_land cx.1 cx.2.1 hd k⟩
theorem lk_lor (hd : decode cc pc = .ok (.lor, 1)) : ll_K cc own ini lw L xs pc (lo_lbin (pc + 1) (fun x y => x ||| y)) := by
  refine ll_kst fun ls st σ pc' ls' st' σ1 hf => ?_
  obtain ⟨x, y, rest, rfl, he⟩ := lo_lbin_inv hf
  cases he
  refine ⟨rfl, rfl, fun B nL p l e R s m args below meth c D A Q cx adr mls mst H locs cells slots hL hst => ?_⟩
  obtain ⟨m1, rfl, h1⟩ := ll_st_long hst
  obtain ⟨m2, rfl, h2⟩ := ll_st_long h1
  exact ⟨_ :: m2, ⟨rfl, h2⟩, fun k => lv_lor cx.1 cx.2.1 hd k⟩
theorem lk_lshl (hd : decode cc pc = .ok (.lshl, 1)) : ll_K cc own ini lw L xs pc (lo_lsh (pc + 1) (fun x y => x <<< (y.toInt64 &&& 63))) := by
  refine ll_kst fun ls st σ pc' ls' st' σ1 hf => ?_
  obtain ⟨x, y, rest, rfl, he⟩ := lo_lsh_inv hf
  cases he
  refine ⟨rfl, rfl, fun B nL p l e R s m args below meth c D A Q cx adr mls mst H locs cells slots hL hst => ?_⟩
  obtain ⟨m1, rfl, h1⟩ := ll_st_int hst
  obtain ⟨m2, rfl, h2⟩ := ll_st_long h1
  exact ⟨_ :: m2, ⟨rfl, h2⟩, fun k => lv_lshl cx.1 cx.2.1 hd rfl k⟩
theorem lk_lushr (hd : decode cc pc = .ok (.lushr, 1)) : ll_K cc own ini lw L xs pc (lo_lsh (pc + 1) (fun x y => (x.toUInt64 >>> (y.toInt64.toUInt64 &&& Int64.toUInt64 63)).toInt64)) := by
  refine ll_kst fun ls st σ pc' ls' st' σ1 hf => ?_
  obtain ⟨x, y, rest, rfl, he⟩ := lo_lsh_inv hf
  cases he
  refine ⟨rfl, rfl, fun B nL p l e R s m args below meth c D A Q cx adr mls mst H locs cells slots hL hst => ?_⟩
  obtain ⟨m1, rfl, h1⟩ := ll_st_int hst
  obtain ⟨m2, rfl, h2⟩ := ll_st_long h1
  exact ⟨_ :: m2, ⟨rfl, h2⟩, fun k => lv_lushr cx.1 cx.2.1 hd rfl k⟩
theorem lk_i2l (hd : decode cc pc = .ok (.i2l, 1)) : ll_K cc own ini lw L xs pc (lo_i2l (pc + 1)) := by
  refine ll_kst fun ls st σ pc' ls' st' σ1 hf => ?_
  unfold lo_i2l at hf
  split at hf
  · cases hf
    refine ⟨rfl, rfl, fun B nL p l e R s m args below meth c D A Q cx adr mls mst H locs cells slots hL hst => ?_⟩
    obtain ⟨m1, rfl, h1⟩ := ll_st_int hst
    exact ⟨_ :: m1, ⟨rfl, h1⟩, fun k => lv_i2l cx.1 cx.2.1 hd rfl k⟩
  · cases hf
theorem lk_l2i (hd : decode cc pc = .ok (.l2i, 1)) : ll_K cc own ini lw L xs pc (lo_l2i (pc + 1)) := by
  refine ll_kst fun ls st σ pc' ls' st' σ1 hf => ?_
  unfold lo_l2i at hf
  split at hf
  · cases hf
    refine ⟨rfl, rfl, fun B nL p l e R s m args below meth c D A Q cx adr mls mst H locs cells slots hL hst => ?_⟩
    obtain ⟨m1, rfl, h1⟩ := ll_st_long hst
    exact ⟨_ :: m1, ⟨rfl, h1⟩, fun k => lv_l2i cx.1 cx.2.1 hd rfl k⟩
  · cases hf
theorem lk_lcmp (hd : decode cc pc = .ok (.lcmp, 1)) : ll_K cc own ini lw L xs pc (lo_lcmp (pc + 1)) := by
  refine ll_kst fun ls st σ pc' ls' st' σ1 hf => ?_
  unfold lo_lcmp at hf
  split at hf
  · cases hf
    refine ⟨rfl, rfl, fun B nL p l e R s m args below meth c D A Q cx adr mls mst H locs cells slots hL hst => ?_⟩
    obtain ⟨m1, rfl, h1⟩ := ll_st_long hst
    obtain ⟨m2, rfl, h2⟩ := ll_st_long h1
    exact ⟨_ :: m2, ⟨rfl, h2⟩, fun k => W.lcmp cx.1 cx.2.1 hd k⟩
  · cases hf
theorem ll_one_cat {B : Nat → Prop} {adr : List Nat} {v w : Value} (h : ll_one v = true) (hv : ll_v B adr v w) : w.category = 1 := by
  cases v with
  | int x => rw [show w = .int x from hv]; rfl
  | long x => cases h
  | float x => obtain ⟨b, -, rfl⟩ := hv; rfl
  | double x => cases h
  | null => rw [show w = .null from hv]; rfl
  | ref a => obtain ⟨b, -, rfl⟩ := hv; rfl
  | retAddr a => exact False.elim hv
theorem lk_dup (hd : decode cc pc = .ok (.dup, 1)) : ll_K cc own ini lw L xs pc (lo_dup (pc + 1)) := by
  refine ll_kst fun ls st σ pc' ls' st' σ1 hf => ?_
  unfold lo_dup at hf
  split at hf
  · split at hf
    · rename_i h1
      cases hf
      refine ⟨rfl, rfl, fun B nL p l e R s m args below meth c D A Q cx adr mls mst H locs cells slots hL hst => ?_⟩
      obtain ⟨w, mr, rfl, q1, q2⟩ := ll_st_inv hst
      exact ⟨w :: w :: mr, ⟨q1, q1, q2⟩, fun k => lv_dup cx.1 cx.2.1 hd (ll_one_cat h1 q1) k⟩
    · cases hf
  · cases hf
theorem lk_dup2 (hd : decode cc pc = .ok (.dup2, 1)) : ll_K cc own ini lw L xs pc (lo_dup2 (pc + 1)) := by
  refine ll_kst fun ls st σ pc' ls' st' σ1 hf => ?_
  unfold lo_dup2 at hf
  split at hf
  · split at hf
    · rename_i h1
      cases hf
      refine ⟨rfl, rfl, fun B nL p l e R s m args below meth c D A Q cx adr mls mst H locs cells slots hL hst => ?_⟩
      obtain ⟨w, m1, rfl, q1, q2⟩ := ll_st_inv hst
      obtain ⟨w2, m2, rfl, q3, q4⟩ := ll_st_inv q2
      exact ⟨w :: w2 :: w :: w2 :: m2, ⟨q1, q3, q1, q3, q4⟩, fun k => lv_dup2_11 cx.1 cx.2.1 hd (ll_one_cat h1.1 q1) (ll_one_cat h1.2 q3) k⟩
    · cases hf
  · cases hf
theorem lk_pop (hd : decode cc pc = .ok (.pop, 1)) : ll_K cc own ini lw L xs pc (lo_pop (pc + 1)) := by
  refine ll_kst fun ls st σ pc' ls' st' σ1 hf => ?_
  unfold lo_pop at hf
  split at hf
  · split at hf
    · rename_i h1
      cases hf
      refine ⟨rfl, rfl, fun B nL p l e R s m args below meth c D A Q cx adr mls mst H locs cells slots hL hst => ?_⟩
      obtain ⟨w, mr, rfl, q1, q2⟩ := ll_st_inv hst
      exact ⟨mr, q2, fun k => lv_pop cx.1 cx.2.1 hd (ll_one_cat h1 q1) k⟩
    · cases hf
  · cases hf
theorem lk_goto {off : Int} {t : Nat} (hd : decode cc pc = .ok (.goto off, 3)) (ht : (pc : Int) + off = (t : Int)) : ll_K cc own ini lw L xs pc (lo_goto t) := by
  refine ll_kst fun ls st σ pc' ls' st' σ1 hf => ?_
  cases hf
  exact ⟨rfl, rfl, fun B nL p l e R s m args below meth c D A Q cx adr mls mst H locs cells slots hL hst => ⟨mst, hst, fun k => lv_goto cx.1 cx.2.1 hd ht k⟩⟩
theorem lo_if_inv {t n : Nat} {g : Int32 → Bool} {ls st : List Value} {σ : ll_S} {r : ll_F} (h : lo_if t n g ls st σ = some r) : ∃ x rest, st = .int x :: rest ∧ ((g x = true ∧ r = (t, ls, rest, σ)) ∨ (¬ g x = true ∧ r = (n, ls, rest, σ))) := by
  unfold lo_if at h
  split at h
  · rename_i x rest
    refine ⟨x, rest, rfl, ?_⟩
    split at h
    · rename_i hg
      exact Or.inl ⟨hg, (Option.some.inj h).symm⟩
    · rename_i hg
      exact Or.inr ⟨hg, (Option.some.inj h).symm⟩
  · cases h
theorem lo_cmp_inv {t n : Nat} {g : Int32 → Int32 → Bool} {ls st : List Value} {σ : ll_S} {r : ll_F} (h : lo_cmp t n g ls st σ = some r) : ∃ x y rest, st = .int y :: .int x :: rest ∧ ((g x y = true ∧ r = (t, ls, rest, σ)) ∨ (¬ g x y = true ∧ r = (n, ls, rest, σ))) := by
  unfold lo_cmp at h
  split at h
  · rename_i y x rest
    refine ⟨x, y, rest, rfl, ?_⟩
    split at h
    · rename_i hg
      exact Or.inl ⟨hg, (Option.some.inj h).symm⟩
    · rename_i hg
      exact Or.inr ⟨hg, (Option.some.inj h).symm⟩
  · cases h
theorem lk_if_eq {off : Int} {t : Nat} (hd : decode cc pc = .ok (.ifCond .eq off, 3)) (ht : (pc : Int) + off = (t : Int)) : ll_K cc own ini lw L xs pc (lo_if t (pc + 3) (fun x => decide (x = 0))) := by
  refine ll_kst fun ls st σ pc' ls' st' σ1 hf => ?_
  obtain ⟨x, rest, rfl, hc⟩ := lo_if_inv hf
  rcases hc with ⟨hg, he⟩ | ⟨hg, he⟩ <;> cases he
  · refine ⟨rfl, rfl, fun B nL p l e R s m args below meth c D A Q cx adr mls mst H locs cells slots hL hst => ?_⟩
    obtain ⟨m1, rfl, h1⟩ := ll_st_int hst
    exact ⟨m1, h1, fun k => lv_if_eq cx.1 cx.2.1 hd ht (fun _ => k) (fun q => absurd (of_decide_eq_true hg) q)⟩
  · refine ⟨rfl, rfl, fun B nL p l e R s m args below meth c D A Q cx adr mls mst H locs cells slots hL hst => ?_⟩
    obtain ⟨m1, rfl, h1⟩ := ll_st_int hst
    exact ⟨m1, h1, fun k => lv_if_eq cx.1 cx.2.1 hd ht (fun q => absurd (decide_eq_true q) hg) (fun _ => k)⟩
theorem lk_icmp_eq {off : Int} {t : Nat} (hd : decode cc pc = .ok (.if_icmp .eq off, 3)) (ht : (pc : Int) + off = (t : Int)) : ll_K cc own ini lw L xs pc (lo_cmp t (pc + 3) (fun x y => decide (x = y))) := by
  refine ll_kst fun ls st σ pc' ls' st' σ1 hf => ?_
  obtain ⟨x, y, rest, rfl, hc⟩ := lo_cmp_inv hf
  rcases hc with ⟨hg, he⟩ | ⟨hg, he⟩ <;> cases he
  · refine ⟨rfl, rfl, fun B nL p l e R s m args below meth c D A Q cx adr mls mst H locs cells slots hL hst => ?_⟩
    obtain ⟨m1, rfl, h1⟩ := ll_st_int hst
    obtain ⟨m2, rfl, h2⟩ := ll_st_int h1
    exact ⟨m2, h2, fun k => lv_icmp_eq cx.1 cx.2.1 hd ht (fun _ => k) (fun q => absurd (of_decide_eq_true hg) q)⟩
  · refine ⟨rfl, rfl, fun B nL p l e R s m args below meth c D A Q cx adr mls mst H locs cells slots hL hst => ?_⟩
    obtain ⟨m1, rfl, h1⟩ := ll_st_int hst
    obtain ⟨m2, rfl, h2⟩ := ll_st_int h1
    exact ⟨m2, h2, fun k => lv_icmp_eq cx.1 cx.2.1 hd ht (fun q => absurd (decide_eq_true q) hg) (fun _ => k)⟩
theorem lk_if_ne {off : Int} {t : Nat} (hd : decode cc pc = .ok (.ifCond .ne off, 3)) (ht : (pc : Int) + off = (t : Int)) : ll_K cc own ini lw L xs pc (lo_if t (pc + 3) (fun x => decide (¬ x = 0))) := by
  refine ll_kst fun ls st σ pc' ls' st' σ1 hf => ?_
  obtain ⟨x, rest, rfl, hc⟩ := lo_if_inv hf
  rcases hc with ⟨hg, he⟩ | ⟨hg, he⟩ <;> cases he
  · refine ⟨rfl, rfl, fun B nL p l e R s m args below meth c D A Q cx adr mls mst H locs cells slots hL hst => ?_⟩
    obtain ⟨m1, rfl, h1⟩ := ll_st_int hst
    exact ⟨m1, h1, fun k => lv_if_ne cx.1 cx.2.1 hd ht (fun _ => k) (fun q => absurd q (of_decide_eq_true hg))⟩
  · refine ⟨rfl, rfl, fun B nL p l e R s m args below meth c D A Q cx adr mls mst H locs cells slots hL hst => ?_⟩
    obtain ⟨m1, rfl, h1⟩ := ll_st_int hst
    exact ⟨m1, h1, fun k => lv_if_ne cx.1 cx.2.1 hd ht (fun q => absurd (decide_eq_true q) hg) (fun _ => k)⟩
theorem lk_icmp_ne {off : Int} {t : Nat} (hd : decode cc pc = .ok (.if_icmp .ne off, 3)) (ht : (pc : Int) + off = (t : Int)) : ll_K cc own ini lw L xs pc (lo_cmp t (pc + 3) (fun x y => decide (¬ x = y))) := by
  refine ll_kst fun ls st σ pc' ls' st' σ1 hf => ?_
  obtain ⟨x, y, rest, rfl, hc⟩ := lo_cmp_inv hf
  rcases hc with ⟨hg, he⟩ | ⟨hg, he⟩ <;> cases he
  · refine ⟨rfl, rfl, fun B nL p l e R s m args below meth c D A Q cx adr mls mst H locs cells slots hL hst => ?_⟩
    obtain ⟨m1, rfl, h1⟩ := ll_st_int hst
    obtain ⟨m2, rfl, h2⟩ := ll_st_int h1
    exact ⟨m2, h2, fun k => lv_icmp_ne cx.1 cx.2.1 hd ht (fun _ => k) (fun q => absurd q (of_decide_eq_true hg))⟩
  · refine ⟨rfl, rfl, fun B nL p l e R s m args below meth c D A Q cx adr mls mst H locs cells slots hL hst => ?_⟩
    obtain ⟨m1, rfl, h1⟩ := ll_st_int hst
    obtain ⟨m2, rfl, h2⟩ := ll_st_int h1
    exact ⟨m2, h2, fun k => lv_icmp_ne cx.1 cx.2.1 hd ht (fun q => absurd (decide_eq_true q) hg) (fun _ => k)⟩
theorem lk_if_lt {off : Int} {t : Nat} (hd : decode cc pc = .ok (.ifCond .lt off, 3)) (ht : (pc : Int) + off = (t : Int)) : ll_K cc own ini lw L xs pc (lo_if t (pc + 3) (fun x => decide (x < 0))) := by
  refine ll_kst fun ls st σ pc' ls' st' σ1 hf => ?_
  obtain ⟨x, rest, rfl, hc⟩ := lo_if_inv hf
  rcases hc with ⟨hg, he⟩ | ⟨hg, he⟩ <;> cases he
  · refine ⟨rfl, rfl, fun B nL p l e R s m args below meth c D A Q cx adr mls mst H locs cells slots hL hst => ?_⟩
    obtain ⟨m1, rfl, h1⟩ := ll_st_int hst
    exact ⟨m1, h1, fun k => lv_if_lt cx.1 cx.2.1 hd ht (fun _ => k) (fun q => absurd (of_decide_eq_true hg) q)⟩
  · refine ⟨rfl, rfl, fun B nL p l e R s m args below meth c D A Q cx adr mls mst H locs cells slots hL hst => ?_⟩
    obtain ⟨m1, rfl, h1⟩ := ll_st_int hst
    exact ⟨m1, h1, fun k => lv_if_lt cx.1 cx.2.1 hd ht (fun q => absurd (decide_eq_true q) hg) (fun _ => k)⟩
theorem lk_icmp_lt {off : Int} {t : Nat} (hd : decode cc pc = .ok (.if_icmp .lt off, 3)) (ht : (pc : Int) + off = (t : Int)) : ll_K cc own ini lw L xs pc (lo_cmp t (pc + 3) (fun x y => decide (x < y))) := by
  refine ll_kst fun ls st σ pc' ls' st' σ1 hf => ?_
  obtain ⟨x, y, rest, rfl, hc⟩ := lo_cmp_inv hf
  rcases hc with ⟨hg, he⟩ | ⟨hg, he⟩ <;> cases he
  · refine ⟨rfl, rfl, fun B nL p l e R s m args below meth c D A Q cx adr mls mst H locs cells slots hL hst => ?_⟩
    obtain ⟨m1, rfl, h1⟩ := ll_st_int hst
    obtain ⟨m2, rfl, h2⟩ := ll_st_int h1
    exact ⟨m2, h2, fun k => lv_icmp_lt cx.1 cx.2.1 hd ht (fun _ => k) (fun q => absurd (of_decide_eq_true hg) q)⟩
  · refine ⟨rfl, rfl, fun B nL p l e R s m args below meth c D A Q cx adr mls mst H locs cells slots hL hst => ?_⟩
    obtain ⟨m1, rfl, h1⟩ := ll_st_int hst
    obtain ⟨m2, rfl, h2⟩ := ll_st_int h1
    exact ⟨m2, h2, fun k => lv_icmp_lt cx.1 cx.2.1 hd ht (fun q => absurd (decide_eq_true q) hg) (fun _ => k)⟩
theorem lk_if_ge {off : Int} {t : Nat} (hd : decode cc pc = .ok (.ifCond .ge off, 3)) (ht : (pc : Int) + off = (t : Int)) : ll_K cc own ini lw L xs pc (lo_if t (pc + 3) (fun x => decide (0 ≤ x))) := by
  refine ll_kst fun ls st σ pc' ls' st' σ1 hf => ?_
  obtain ⟨x, rest, rfl, hc⟩ := lo_if_inv hf
  rcases hc with ⟨hg, he⟩ | ⟨hg, he⟩ <;> cases he
  · refine ⟨rfl, rfl, fun B nL p l e R s m args below meth c D A Q cx adr mls mst H locs cells slots hL hst => ?_⟩
    obtain ⟨m1, rfl, h1⟩ := ll_st_int hst
    exact ⟨m1, h1, fun k => lv_if_ge cx.1 cx.2.1 hd ht (fun _ => k) (fun q => absurd (of_decide_eq_true hg) q)⟩
  · refine ⟨rfl, rfl, fun B nL p l e R s m args below meth c D A Q cx adr mls mst H locs cells slots hL hst => ?_⟩
    obtain ⟨m1, rfl, h1⟩ := ll_st_int hst
    exact ⟨m1, h1, fun k => lv_if_ge cx.1 cx.2.1 hd ht (fun q => absurd (decide_eq_true q) hg) (fun _ => k)⟩
theorem lk_icmp_ge {off : Int} {t : Nat} (hd : decode cc pc = .ok (.if_icmp .ge off, 3)) (ht : (pc : Int) + off = (t : Int)) : ll_K cc own ini lw L xs pc (lo_cmp t (pc + 3) (fun x y => decide (y ≤ x))) := by
  refine ll_kst fun ls st σ pc' ls' st' σ1 hf => ?_
  obtain ⟨x, y, rest, rfl, hc⟩ := lo_cmp_inv hf
  rcases hc with ⟨hg, he⟩ | ⟨hg, he⟩ <;> cases he
  · refine ⟨rfl, rfl, fun B nL p l e R s m args below meth c D A Q cx adr mls mst H locs cells slots hL hst => ?_⟩
    obtain ⟨m1, rfl, h1⟩ := ll_st_int hst
    obtain ⟨m2, rfl, h2⟩ := ll_st_int h1
    exact ⟨m2, h2, fun k => lv_icmp_ge cx.1 cx.2.1 hd ht (fun _ => k) (fun q => absurd (of_decide_eq_true hg) q)⟩
  · refine ⟨rfl, rfl, fun B nL p l e R s m args below meth c D A Q cx adr mls mst H locs cells slots hL hst => ?_⟩
    obtain ⟨m1, rfl, h1⟩ := ll_st_int hst
    obtain ⟨m2, rfl, h2⟩ := ll_st_int h1
    exact ⟨m2, h2, fun k => lv_icmp_ge cx.1 cx.2.1 hd ht (fun q => absurd (decide_eq_true q) hg) (fun _ => k)⟩
theorem lk_if_gt {off : Int} {t : Nat} (hd : decode cc pc = .ok (.ifCond .gt off, 3)) (ht : (pc : Int) + off = (t : Int)) : ll_K cc own ini lw L xs pc (lo_if t (pc + 3) (fun x => decide (0 < x))) := by
  refine ll_kst fun ls st σ pc' ls' st' σ1 hf => ?_
  obtain ⟨x, rest, rfl, hc⟩ := lo_if_inv hf
  rcases hc with ⟨hg, he⟩ | ⟨hg, he⟩ <;> cases he
  · refine ⟨rfl, rfl, fun B nL p l e R s m args below meth c D A Q cx adr mls mst H locs cells slots hL hst => ?_⟩
    obtain ⟨m1, rfl, h1⟩ := ll_st_int hst
    exact ⟨m1, h1, fun k => lv_if_gt cx.1 cx.2.1 hd ht (fun _ => k) (fun q => absurd (of_decide_eq_true hg) q)⟩
  · refine ⟨rfl, rfl, fun B nL p l e R s m args below meth c D A Q cx adr mls mst H locs cells slots hL hst => ?_⟩
    obtain ⟨m1, rfl, h1⟩ := ll_st_int hst
    exact ⟨m1, h1, fun k => lv_if_gt cx.1 cx.2.1 hd ht (fun q => absurd (decide_eq_true q) hg) (fun _ => k)⟩
theorem lk_icmp_gt {off : Int} {t : Nat} (hd : decode cc pc = .ok (.if_icmp .gt off, 3)) (ht : (pc : Int) + off = (t : Int)) : ll_K cc own ini lw L xs pc (lo_cmp t (pc + 3) (fun x y => decide (y < x))) := by
  refine ll_kst fun ls st σ pc' ls' st' σ1 hf => ?_
  obtain ⟨x, y, rest, rfl, hc⟩ := lo_cmp_inv hf
  rcases hc with ⟨hg, he⟩ | ⟨hg, he⟩ <;> cases he
  · refine ⟨rfl, rfl, fun B nL p l e R s m args below meth c D A Q cx adr mls mst H locs cells slots hL hst => ?_⟩
    obtain ⟨m1, rfl, h1⟩ := ll_st_int hst
    obtain ⟨m2, rfl, h2⟩ := ll_st_int h1
    exact ⟨m2, h2, fun k => lv_icmp_gt cx.1 cx.2.1 hd ht (fun _ => k) (fun q => absurd (of_decide_eq_true hg) q)⟩
  · refine ⟨rfl, rfl, fun B nL p l e R s m args below meth c D A Q cx adr mls mst H locs cells slots hL hst => ?_⟩
    obtain ⟨m1, rfl, h1⟩ := ll_st_int hst
    obtain ⟨m2, rfl, h2⟩ := ll_st_int h1
    exact ⟨m2, h2, fun k => lv_icmp_gt cx.1 cx.2.1 hd ht (fun q => absurd (decide_eq_true q) hg) (fun _ => k)⟩
theorem lk_if_le {off : Int} {t : Nat} (hd : decode cc pc = .ok (.ifCond .le off, 3)) (ht : (pc : Int) + off = (t : Int)) : ll_K cc own ini lw L xs pc (lo_if t (pc + 3) (fun x => decide (x ≤ 0))) := by
  refine ll_kst fun ls st σ pc' ls' st' σ1 hf => ?_
  obtain ⟨x, rest, rfl, hc⟩ := lo_if_inv hf
  rcases hc with ⟨hg, he⟩ | ⟨hg, he⟩ <;> cases he
  · refine ⟨rfl, rfl, fun B nL p l e R s m args below meth c D A Q cx adr mls mst H locs cells slots hL hst => ?_⟩
    obtain ⟨m1, rfl, h1⟩ := ll_st_int hst
    exact ⟨m1, h1, fun k => lv_if_le cx.1 cx.2.1 hd ht (fun _ => k) (fun q => absurd (of_decide_eq_true hg) q)⟩
  · refine ⟨rfl, rfl, fun B nL p l e R s m args below meth c D A Q cx adr mls mst H locs cells slots hL hst => ?_⟩
    obtain ⟨m1, rfl, h1⟩ := ll_st_int hst
    exact ⟨m1, h1, fun k => lv_if_le cx.1 cx.2.1 hd ht (fun q => absurd (decide_eq_true q) hg) (fun _ => k)⟩
theorem lk_icmp_le {off : Int} {t : Nat} (hd : decode cc pc = .ok (.if_icmp .le off, 3)) (ht : (pc : Int) + off = (t : Int)) : ll_K cc own ini lw L xs pc (lo_cmp t (pc + 3) (fun x y => decide (x ≤ y))) := by
  refine ll_kst fun ls st σ pc' ls' st' σ1 hf => ?_
  obtain ⟨x, y, rest, rfl, hc⟩ := lo_cmp_inv hf
  rcases hc with ⟨hg, he⟩ | ⟨hg, he⟩ <;> cases he
  · refine ⟨rfl, rfl, fun B nL p l e R s m args below meth c D A Q cx adr mls mst H locs cells slots hL hst => ?_⟩
    obtain ⟨m1, rfl, h1⟩ := ll_st_int hst
    obtain ⟨m2, rfl, h2⟩ := ll_st_int h1
    exact ⟨m2, h2, fun k => lv_icmp_le cx.1 cx.2.1 hd ht (fun _ => k) (fun q => absurd (of_decide_eq_true hg) q)⟩
  · refine ⟨rfl, rfl, fun B nL p l e R s m args below meth c D A Q cx adr mls mst H locs cells slots hL hst => ?_⟩
    obtain ⟨m1, rfl, h1⟩ := ll_st_int hst
    obtain ⟨m2, rfl, h2⟩ := ll_st_int h1
    exact ⟨m2, h2, fun k => lv_icmp_le cx.1 cx.2.1 hd ht (fun q => absurd (decide_eq_true q) hg) (fun _ => k)⟩
/-- the switch: 'ho' says that the offsets lead to ts -/
theorem lk_tab {d0 lo hi : Int} {offs : Array Int} {len d : Nat} {ts : List Nat} (hd : decode cc pc = .ok (.tableswitch d0 lo hi offs, len)) (hdt : (pc : Int) + d0 = (d : Int)) (hn : hi = lo + (ts.length : Int) - 1) (hts : ts.map (fun (t : Nat) => (t : Int) - (pc : Int)) = offs.toList) : ll_K cc own ini lw L xs pc (lo_tab lo ts d) := by
  refine ll_kst fun ls st σ pc' ls' st' σ1 hf => ?_
  unfold lo_tab at hf
  split at hf
  · rename_i x rest
    split at hf
    · rename_i hlt
      cases hf
      refine ⟨rfl, rfl, fun B nL p l e R s m args below meth c D A Q cx adr mls mst H locs cells slots hL hst => ?_⟩
      obtain ⟨m1, rfl, h1⟩ := ll_st_int hst
      exact ⟨m1, h1, fun k => lv_tableOut cx.1 cx.2.1 hd (Or.inl hlt) hdt k⟩
    · rename_i hlt
      cases hf
      refine ⟨rfl, rfl, fun B nL p l e R s m args below meth c D A Q cx adr mls mst H locs cells slots hL hst => ?_⟩
      obtain ⟨m1, rfl, h1⟩ := ll_st_int hst
      refine ⟨m1, h1, fun k => ?_⟩
      by_cases hin : hi < x.toInt
      · have hz : ts.getD (x.toInt - lo).toNat d = d := by
          rw [List.getD_eq_getElem?_getD, List.getElem?_eq_none (by omega)]
          rfl
        rw [hz] at k
        exact lv_tableOut cx.1 cx.2.1 hd (Or.inr hin) hdt k
      · have hlt2 : (x.toInt - lo).toNat < ts.length := by omega
        have e1 : offs.toList[(x.toInt - lo).toNat]? = some ((ts.getD (x.toInt - lo).toNat d : Nat) - (pc : Int)) := by
          rw [← hts, List.getElem?_map, List.getD_eq_getElem?_getD, List.getElem?_eq_getElem hlt2]
          rfl
        rw [Array.getElem?_toList] at e1
        exact lv_tableIn cx.1 cx.2.1 hd hlt hin e1 (by omega) k
  · cases hf
end LK
end
section
/-! STEPS ON THE STORE, and that each is the machine's. -/
def ll_T : List Cond := lw_tbl.filter goodWord
theorem ll_T_in {w : Cond} (h : ll_tb w) : w ∈ ll_T := List.mem_filter.mpr ⟨h.1, h.2⟩
theorem ll_T_tb {w : Cond} (h : w ∈ ll_T) : ll_tb w := ⟨(List.mem_filter.mp h).1, (List.mem_filter.mp h).2⟩
def lo_getf (n ci k : Nat) : ll_G := fun ls st σ => match st with
  | .ref i :: r => match σ.2.2 i with
    | .inr (.inr (c, f)) => if c = ci then some (n, ls, f k :: r, σ) else none
    | _ => none
  | _ => none
/-- what a field of kind 0 (int), 1 (boolean), 2 (reference) takes -/
def ll_fit (t : Nat) (v : Value) : Bool := match v with
  | .int x => t == 0 || (t == 1 && (x == 0 || x == 1))
  | .ref _ => t == 2
  | _ => false
def lo_putf (n ci k t : Nat) : ll_G := fun ls st σ => match st with
  | v :: .ref i :: r => match σ.2.2 i with
    | .inr (.inr (c, f)) => if c = ci ∧ ll_fit t v = true then some (n, ls, r, ll_set σ i (.inr (.inr (c, ll_up f k v)))) else none
    | _ => none
  | _ => none
def lo_ald (n t : Nat) : ll_G := fun ls st σ => match st with
  | .int j :: .ref i :: r => match σ.2.2 i with
    | .inl (t', m, f) => if t' = t ∧ ¬ (j < 0 ∨ m ≤ j.toNatClampNeg) then some (n, ls, .int (f j.toNatClampNeg) :: r, σ) else none
    | _ => none
  | _ => none
def lo_ast (n t : Nat) : ll_G := fun ls st σ => match st with
  | .int x :: .int j :: .ref i :: r => match σ.2.2 i with
    | .inl (t', m, f) => if t' = t ∧ ¬ (j < 0 ∨ m ≤ j.toNatClampNeg) then some (n, ls, r, ll_set σ i (.inl (t', m, ll_up f j.toNatClampNeg (vp_nar (ll_ty t) x)))) else none
    | _ => none
  | _ => none
def ll_rf (v : Option Nat) : Value := match v with
  | some a => .ref a
  | none => .null
def lo_aald (n : Nat) : ll_G := fun ls st σ => match st with
  | .int j :: .ref i :: r => match σ.2.2 i with
    | .inr (.inl (_, m, g)) => if ¬ (j < 0 ∨ m ≤ j.toNatClampNeg) then some (n, ls, ll_rf (g j.toNatClampNeg) :: r, σ) else none
    | _ => none
  | _ => none
def lo_aast (n : Nat) : ll_G := fun ls st σ => match st with
  | .ref v :: .int j :: .ref i :: r => match σ.2.2 i with
    | .inr (.inl (t, m, g)) => match σ.2.2 v with
      | .inr (.inr (c, _)) => if c = t ∧ ¬ (j < 0 ∨ m ≤ j.toNatClampNeg) then some (n, ls, r, ll_set σ i (.inr (.inl (t, m, ll_up g j.toNatClampNeg (some v))))) else none
      | _ => none
    | _ => none
  | _ => none
def lo_alen (n : Nat) : ll_G := fun ls st σ => match st with
  | .ref i :: r => match σ.2.2 i with
    | .inl (_, m, _) => some (n, ls, .int (Int32.ofNat m) :: r, σ)
    | .inr (.inl (_, m, _)) => some (n, ls, .int (Int32.ofNat m) :: r, σ)
    | _ => none
  | _ => none
def lo_newa (n t : Nat) : ll_G := fun ls st σ => match st with
  | .int k :: r => if k < 0 ∨ 100000000 < k.toNatClampNeg then none else some (n, ls, .ref σ.1 :: r, ll_add σ k.toNatClampNeg (.inl (t, k.toNatClampNeg, fun _ => 0)))
  | _ => none
def lo_anew (n t : Nat) : ll_G := fun ls st σ => match st with
  | .int k :: r => if k < 0 ∨ 100000000 < k.toNatClampNeg then none else some (n, ls, .ref σ.1 :: r, ll_add σ k.toNatClampNeg (.inr (.inl (t, k.toNatClampNeg, fun _ => none))))
  | _ => none
def lo_new (n ci N : Nat) (fs : List Value) : ll_G := fun ls st σ => some (n, ls, .ref σ.1 :: st, ll_add σ N (.inr (.inr (ci, fun k => fs.getD k .null))))
def lo_init (n : Nat) : ll_G := fun ls st σ => match st with
  | .ref _ :: r => if r.length ≤ 10 then some (n, ls, r, σ) else none
  | _ => none
def lo_copy (n : Nat) : ll_G := fun ls st σ => match st with
  | .int k :: .int dp :: .ref d :: .int sp :: .ref s0 :: r => match σ.2.2 s0, σ.2.2 d with
    | .inl (t0, n0, f), .inl (t1, n1, g) => if t0 = 0 ∧ t1 = 0 ∧ r.length ≤ 4 ∧ ¬ sp < 0 ∧ ¬ dp < 0 ∧ ¬ k < 0 ∧ sp.toNatClampNeg + k.toNatClampNeg ≤ n0 ∧ dp.toNatClampNeg + k.toNatClampNeg ≤ n1 then some (n, ls, r, ll_set σ d (.inl (0, n1, va_cpy f g sp.toNatClampNeg dp.toNatClampNeg k.toNatClampNeg))) else none
    | _, _ => none
  | _ => none
/-- the law's script -/
def lo_sld (n L : Nat) (xs : Nat → Int32) : ll_G := fun ls st σ => match st with
  | .int j :: .float _ :: r => if j < 0 ∨ L ≤ j.toNatClampNeg then none else some (n, ls, .int (xs j.toNatClampNeg) :: r, σ)
  | _ => none
def lo_slen (n L : Nat) : ll_G := fun ls st σ => match st with
  | .float _ :: r => some (n, ls, .int (Int32.ofNat L) :: r, σ)
  | _ => none
section LH
variable {cc : ByteArray} {own : String} {ini lw : Bool} {L : Nat} {xs : Nat → Int32} {pc : Nat}
theorem ll_K1 {D : va_G} {s : State} {cA : ClassId} {ty : FieldType} (hK : va_K D vwCl [] s) (h1 : ArrOfT s cA ty) (h2 : va_RA s cA ty) : va_K D vwCl [(cA, ty)] s := by
  refine ⟨hK.1, fun k q hk => ?_⟩
  have hz : k < 1 := (List.getElem?_eq_some_iff.mp hk).1
  rw [show k = 0 by omega] at hk
  cases hk
  exact ⟨h1, h2⟩
theorem ll_hts {args : Array Value} {s : State} (h : ∀ w, ll_tb w → w.before args s = true) : ∀ w ∈ ll_T, w.before args s = true := fun w hw => h w (ll_T_tb hw)
theorem ll_cat {B : Nat → Prop} {adr : List Nat} : ∀ {st mst : List Value}, ll_st B adr st mst → (mst.map fun v => v.category).sum ≤ 2 * st.length
  | [], [], _ => Nat.le_refl _
  | v :: a, w :: b, h => by
    have h1 := ll_cat h.2
    have h2 : w.category ≤ 2 := by rcases lv_cat w with q | q <;> omega
    simp only [List.map_cons, List.sum_cons, List.length_cons]
    omega
  | [], _ :: _, h => h.elim
  | _ :: _, [], h => h.elim
/-- steps that read the store: 'st' alone changes -/
theorem ll_krd {f : ll_G} (h : ∀ (ls st : List Value) (σ : ll_S) (pc' : Nat) (ls' st' : List Value) (σ1 : ll_S), f ls st σ = some (pc', ls', st', σ1) → ls' = ls ∧ σ1 = σ ∧
    ∀ (B : Nat → Prop) (nL : Nat) (p : Program) (l : Launch) (e : Env) (R : Room) (s : State) (m : MethodId) (args : Array Value) (below : List Frame) (meth : Method) (c : Code) (D : va_G) (A : Nat → Prop) (Q : State → Prop),
    ll_X cc nL own ini lw L xs B p R s m args meth c D A → ∀ (adr : List Nat) (ws : va_W) (mls : Array Slot) (mst : List Value) (H : Heap) (locs : List Loc) (cells slots : Nat), ll_W B s D A adr ws σ H → va_S A s.heap H locs → mls.size = nL → ll_st B adr st mst →
      ∃ mst', ll_st B adr st' mst' ∧ (W p l e R s m args below meth c H locs cells slots Q (F0 m pc' mls mst') → W p l e R s m args below meth c H locs cells slots Q (F0 m pc mls mst))) : ll_K cc own ini lw L xs pc f := by
  intro ls st σ pc' ls' st' σ1 hf
  obtain ⟨rfl, rfl, h3⟩ := h ls st σ pc' ls' st' σ1 hf
  refine ⟨⟨Nat.le_refl _, Nat.le_refl _⟩, ?_⟩
  intro B nL p l e R s m args below meth c D A Q cx adr ws mls mst H locs cells slots hW hS hL hst _ _ kk
  obtain ⟨mst', q1, q2⟩ := h3 B nL p l e R s m args below meth c D A Q cx adr ws mls mst H locs cells slots hW hS (by obtain ⟨-, lv, q, -⟩ := hL; exact q.1) hst
  have k2 := kk adr ws mls mst' H locs ⟨[], by simp⟩ hW hS hL q1
  rw [Nat.sub_self, Nat.sub_self] at k2
  exact q2 k2
/-- steps that write one cell -/
theorem ll_kwr {f : ll_G} (h : ∀ (ls st : List Value) (σ : ll_S) (pc' : Nat) (ls' st' : List Value) (σ1 : ll_S), f ls st σ = some (pc', ls', st', σ1) → ls' = ls ∧ (σ1.1 = σ.1 ∧ σ1.2.1 = σ.2.1) ∧
    ∀ (B : Nat → Prop) (nL : Nat) (p : Program) (l : Launch) (e : Env) (R : Room) (s : State) (m : MethodId) (args : Array Value) (below : List Frame) (meth : Method) (c : Code) (D : va_G) (A : Nat → Prop) (Q : State → Prop),
    ll_X cc nL own ini lw L xs B p R s m args meth c D A → ∀ (adr : List Nat) (ws : va_W) (mls : Array Slot) (mst : List Value) (H : Heap) (locs : List Loc) (cells slots : Nat), ll_W B s D A adr ws σ H → va_S A s.heap H locs → mls.size = nL → ll_st B adr st mst →
      (∀ (ws' : va_W) (mst' : List Value) (H' : Heap) (locs' : List Loc), ll_W B s D A adr ws' σ1 H' → va_S A s.heap H' locs' → ll_st B adr st' mst' → W p l e R s m args below meth c H' locs' cells slots Q (F0 m pc' mls mst')) → W p l e R s m args below meth c H locs cells slots Q (F0 m pc mls mst)) : ll_K cc own ini lw L xs pc f := by
  intro ls st σ pc' ls' st' σ1 hf
  obtain ⟨rfl, ⟨e1, e2⟩, h3⟩ := h ls st σ pc' ls' st' σ1 hf
  refine ⟨⟨by omega, by omega⟩, ?_⟩
  intro B nL p l e R s m args below meth c D A Q cx adr ws mls mst H locs cells slots hW hS hL hst _ _ kk
  refine h3 B nL p l e R s m args below meth c D A Q cx adr ws mls mst H locs cells slots hW hS (by obtain ⟨-, lv, q, -⟩ := hL; exact q.1) hst fun ws' mst' H' locs' q1 q2 q3 => ?_
  have k2 := kk adr ws' mls mst' H' locs' ⟨[], by simp⟩ q1 q2 hL q3
  rw [e1, e2, Nat.sub_self, Nat.sub_self] at k2
  exact k2
/-- steps that make one cell -/
theorem ll_knw {f : ll_G} (h : ∀ (ls st : List Value) (σ : ll_S) (pc' : Nat) (ls' st' : List Value) (σ1 : ll_S), f ls st σ = some (pc', ls', st', σ1) → ∃ (N : Nat) (c0 : ll_C) (rest : List Value), ls' = ls ∧ σ1 = ll_add σ N c0 ∧ st' = .ref σ.1 :: rest ∧
    ∀ (B : Nat → Prop) (nL : Nat) (p : Program) (l : Launch) (e : Env) (R : Room) (s : State) (m : MethodId) (args : Array Value) (below : List Frame) (meth : Method) (c : Code) (D : va_G) (A : Nat → Prop) (Q : State → Prop),
    ll_X cc nL own ini lw L xs B p R s m args meth c D A → ∀ (adr : List Nat) (ws : va_W) (mls : Array Slot) (mst : List Value) (H : Heap) (locs : List Loc) (cells slots : Nat), ll_W B s D A adr ws σ H → va_S A s.heap H locs → ll_st B adr st mst → cells + 1 ≤ R.cells → slots + N ≤ R.slots →
      (∀ (q : Nat) (e0 : va_E) (mr : List Value) (H' : Heap) (locs' : List Loc), ll_st B adr rest mr → va_P D vwCl (ws ++ [(q, e0)]) H' → va_D A (ws ++ [(q, e0)]) → ll_cr B s (adr ++ [q]) c0 e0 → va_S A s.heap H' locs' → W p l e R s m args below meth c H' locs' (cells + 1) (slots + N) Q (F0 m pc' mls (.ref q :: mr))) → W p l e R s m args below meth c H locs cells slots Q (F0 m pc mls mst)) : ll_K cc own ini lw L xs pc f := by
  intro ls st σ pc' ls' st' σ1 hf
  obtain ⟨N, c0, rest, rfl, rfl, rfl, h3⟩ := h ls st σ pc' ls' st' σ1 hf
  have e1 : (ll_add σ N c0).1 - σ.1 = 1 := by simp [ll_add]
  have e2 : (ll_add σ N c0).2.1 - σ.2.1 = N := by simp [ll_add]
  refine ⟨⟨by simp [ll_add], by simp [ll_add]⟩, ?_⟩
  intro B nL p l e R s m args below meth c D A Q cx adr ws mls mst H locs cells slots hW hS hL hst hc hs kk
  rw [e1] at hc kk
  rw [e2] at hs kk
  refine h3 B nL p l e R s m args below meth c D A Q cx adr ws mls mst H locs cells slots hW hS hst hc hs fun q e0 mr H' locs' q1 q2 q3 q4 q5 => ?_
  obtain ⟨w1, w2⟩ := ll_W_new (n := N) hW q2 q3 q4
  exact kk (adr ++ [q]) _ mls (.ref q :: mr) H' locs' ⟨[q], rfl⟩ w1 q5 (ll_L_app hL) ⟨⟨q, w2, rfl⟩, ll_st_app q1⟩
/-! fields -/
theorem lk_getf {ix ci k N : Nat} {C : String} {T : u_T} (hd : decode cc pc = .ok (.getfield ix, 3)) (hc : vwCl[ci]? = some (C, T, N)) (hin : ∀ w ∈ u_ws C T N, w ∈ ll_T) (hk : k < N) (hl : ll_tb (.fieldLink own ix (T k).1 (T k).2.1 (T k).2.2.1)) : ll_K cc own ini lw L xs pc (lo_getf (pc + 3) ci k) := by
  refine ll_krd fun ls st σ pc' ls' st' σ1 hf => ?_
  unfold lo_getf at hf
  split at hf
  · rename_i i r
    split at hf
    · rename_i c0 f hcell
      split at hf
      · rename_i hci
        cases hf
        subst hci
        refine ⟨rfl, rfl, fun B nL p l e R s m args below meth c D A Q cx adr ws mls mst H locs cells slots hW hS _ hst => ?_⟩
        obtain ⟨a, mr, ha, rfl, hr⟩ := ll_st_ref hst
        obtain ⟨e0, hws, hcr⟩ := ll_W_at hW ha
        rw [hcell] at hcr
        obtain ⟨fs, rfl, ⟨q, hq, hlen⟩, hfs⟩ := hcr
        cases hq.symm.trans hc
        have hkl : k < fs.length := by rw [hlen]; exact hk
        have hv := List.getElem?_eq_getElem hkl
        exact ⟨fs[k] :: mr, ⟨hfs k _ hv, hr⟩, fun kk => va_get cx.1 cx.2.1 (ll_hts cx.2.2.2.2.1) hin cx.2.2.2.1 cx.2.2.2.2.2.1 hW.1 i hws hc k hk (cx.2.2.2.2.1 _ hl) (fun _ h9 => h9) hv hd kk⟩
      · cases hf
    · cases hf
  · cases hf
theorem ll_fit_int {B : Nat → Prop} {adr : List Nat} {v w : Value} (h : ll_fit 0 v = true) (hv : ll_v B adr v w) : narrow .int w = w ∧ fits .int w = true := by
  cases v with
  | int x => rw [show w = .int x from hv]; exact ⟨rfl, rfl⟩
  | ref a => simp [ll_fit] at h
  | _ => cases h
theorem ll_fit_bool {B : Nat → Prop} {adr : List Nat} {v w : Value} (h : ll_fit 1 v = true) (hv : ll_v B adr v w) : narrow .boolean w = w ∧ fits .boolean w = true := by
  cases v with
  | int x =>
    rw [show w = .int x from hv]
    have hx : x = 0 ∨ x = 1 := by simpa [ll_fit] using h
    rcases hx with rfl | rfl <;> exact ⟨rfl, rfl⟩
  | ref a => simp [ll_fit] at h
  | _ => cases h
theorem ll_fit_obj {B : Nat → Prop} {adr : List Nat} {v w : Value} {C : String} (h : ll_fit 2 v = true) (hv : ll_v B adr v w) : narrow (.object C) w = w ∧ fits (.object C) w = true := by
  cases v with
  | int x => simp [ll_fit] at h
  | ref a => obtain ⟨b, -, rfl⟩ := hv; exact ⟨rfl, rfl⟩
  | _ => cases h
theorem ll_fit_arr {B : Nat → Prop} {adr : List Nat} {v w : Value} {t : FieldType} (h : ll_fit 2 v = true) (hv : ll_v B adr v w) : narrow (.array t) w = w ∧ fits (.array t) w = true := by
  cases v with
  | int x => simp [ll_fit] at h
  | ref a => obtain ⟨b, -, rfl⟩ := hv; exact ⟨rfl, rfl⟩
  | _ => cases h
/-- the fields of an object with one of them new -/
theorem ll_fs_set {B : Nat → Prop} {adr : List Nat} {f : Nat → Value} {fs : List Value} {k : Nat} {v w : Value} (h : ∀ (k : Nat) (v : Value), fs[k]? = some v → ll_v B adr (f k) v) (hv : ll_v B adr v w) : ∀ (j : Nat) (u : Value), (fs.set k w)[j]? = some u → ll_v B adr (ll_up f k v j) u := by
  intro j u hj
  rw [List.getElem?_set] at hj
  by_cases hkj : k = j
  · subst hkj
    rw [if_pos rfl] at hj
    split at hj
    · cases hj
      rw [ll_up, if_pos rfl]
      exact hv
    · cases hj
  · rw [if_neg hkj] at hj
    rw [ll_up, if_neg (fun q => hkj q.symm)]
    exact h j u hj
theorem lk_putf {ix ci k t N : Nat} {C : String} {T : u_T} {ty0 : Nat → FieldType} (hd : decode cc pc = .ok (.putfield ix, 3)) (hc : vwCl[ci]? = some (C, T, N)) (hin : ∀ w ∈ u_ws C T N, w ∈ ll_T) (hty : ∀ k, k < N → parseFieldDescriptor (T k).2.2.1 = some (ty0 k)) (hnm : ∀ a, a < N → ∀ b, b < N → a ≠ b → (T a).2.1 ≠ (T b).2.1) (hk : k < N) (hl : ll_tb (.fieldLink own ix (T k).1 (T k).2.1 (T k).2.2.1)) (hfit : ∀ (B : Nat → Prop) (adr : List Nat) (v w : Value), ll_fit t v = true → ll_v B adr v w → narrow (ty0 k) w = w ∧ fits (ty0 k) w = true) (hfin : (T k).2.2.2 = false ∨ ((T k).2.2.2 = true ∧ ini = true ∧ (T k).1 = own)) : ll_K cc own ini lw L xs pc (lo_putf (pc + 3) ci k t) := by
  refine ll_kwr fun ls st σ pc' ls' st' σ1 hf => ?_
  unfold lo_putf at hf
  split at hf
  · rename_i v i r
    split at hf
    · rename_i c0 f hcell
      split at hf
      · rename_i hci
        obtain ⟨hci, hvt⟩ := hci
        cases hf
        subst hci
        refine ⟨rfl, ⟨rfl, rfl⟩, fun B nL p l e R s m args below meth c D A Q cx adr ws mls mst H locs cells slots hW hS _ hst kk => ?_⟩
        obtain ⟨w, m1, rfl, hvw, h1⟩ := ll_st_inv hst
        obtain ⟨a, mr, ha, rfl, hr⟩ := ll_st_ref h1
        obtain ⟨e0, hws, hcr⟩ := ll_W_at hW ha
        rw [hcell] at hcr
        obtain ⟨fs, rfl, ⟨q, hq, hlen⟩, hfs⟩ := hcr
        cases hq.symm.trans hc
        have hkl : k < fs.length := by rw [hlen]; exact hk
        obtain ⟨n1, n2⟩ := hfit B adr v w hvt hvw
        have kk' : ∀ (H1 : Heap) (locs1 : List Loc), va_P D vwCl (ws.set i (a, .inr (c0, fs.set k w))) H1 → va_D A (ws.set i (a, .inr (c0, fs.set k w))) → va_S A s.heap H1 locs1 → W p l e R s m args below meth c H1 locs1 cells slots Q (F0 m (pc + 3) mls mr) := fun H1 locs1 g1 g2 g3 => kk _ mr H1 locs1 (ll_W_set hW hws g1 g2 ⟨_, rfl, ⟨_, hc, by rw [List.length_set]; exact hlen⟩, ll_fs_set hfs hvw⟩) g3 hr
        rcases hfin with hfin | ⟨hfin, hini, hdecl⟩
        · exact va_put cx.1 cx.2.1 (ll_hts cx.2.2.2.2.1) hin ty0 hty hnm cx.2.2.2.1 cx.2.2.2.2.2.1 hW.1 hW.2.1 hS i hws hc k hk (cx.2.2.2.2.1 _ hl) (fun _ h9 => h9) hfin (hty k hk) n1 n2 hkl hd kk'
        · exact va_putF cx.1 cx.2.1 (ll_hts cx.2.2.2.2.1) hin ty0 hty hnm cx.2.2.2.1 cx.2.2.2.2.2.1 hW.1 hW.2.1 hS i hws hc k hk (cx.2.2.2.2.1 _ hl) (fun _ h9 => h9) hfin (cx.2.2.2.2.2.2.2.1 hini) hdecl (hty k hk) n1 n2 hkl hd kk'
      · cases hf
    · cases hf
  · cases hf
end LH
end
section
/-- Math.max and Math.min -/
def lo_mm (n : Nat) (g : Int32 → Int32 → Int32) : ll_G := fun ls st σ => match st with
  | .int y :: .int x :: r => if r.length ≤ 10 then some (n, ls, .int (g x y) :: r, σ) else none
  | _ => none
section LH2
variable {cc : ByteArray} {own : String} {ini lw : Bool} {L : Nat} {xs : Nat → Int32} {pc : Nat}
theorem lo_ald_inv {n t : Nat} {ls st : List Value} {σ : ll_S} {r : ll_F} (h : lo_ald n t ls st σ = some r) : ∃ (j : Int32) (i m : Nat) (f : Nat → Int32) (rest : List Value), st = .int j :: .ref i :: rest ∧ σ.2.2 i = .inl (t, m, f) ∧ vp_in j m ∧ r = (n, ls, .int (f j.toNatClampNeg) :: rest, σ) := by
  unfold lo_ald at h
  split at h
  · rename_i j i rest
    split at h
    · rename_i t' m f hc
      split at h
      · rename_i hq
        obtain ⟨rfl, h2⟩ := hq
        exact ⟨j, i, m, f, rest, rfl, hc, h2, (Option.some.inj h).symm⟩
      · cases h
    · cases h
  · cases h
theorem lk_iald (hd : decode cc pc = .ok (.iaload, 1)) : ll_K cc own ini lw L xs pc (lo_ald (pc + 1) 0) := by
  refine ll_krd fun ls st σ pc' ls' st' σ1 hf => ?_
  obtain ⟨j, i, m0, f, rest, rfl, hcell, hin, he⟩ := lo_ald_inv hf
  cases he
  refine ⟨rfl, rfl, fun B nL p l e R s m args below meth c D A Q cx adr ws mls mst H locs cells slots hW hS _ hst => ?_⟩
  obtain ⟨m1, rfl, h1⟩ := ll_st_int hst
  obtain ⟨a, mr, ha, rfl, hr⟩ := ll_st_ref h1
  obtain ⟨e0, hws, hcr⟩ := ll_W_at hW ha
  rw [hcell] at hcr
  obtain ⟨cA, rfl, g1, g2⟩ := hcr
  exact ⟨_ :: mr, ⟨rfl, hr⟩, fun kk => va_iald cx.1 cx.2.1 (ll_K1 cx.2.2.2.2.2.1 g1 g2) hW.1 i 0 hws rfl hin hd kk⟩
theorem lk_zald (hd : decode cc pc = .ok (.baload, 1)) : ll_K cc own ini lw L xs pc (lo_ald (pc + 1) 1) := by
  refine ll_krd fun ls st σ pc' ls' st' σ1 hf => ?_
  obtain ⟨j, i, m0, f, rest, rfl, hcell, hin, he⟩ := lo_ald_inv hf
  cases he
  refine ⟨rfl, rfl, fun B nL p l e R s m args below meth c D A Q cx adr ws mls mst H locs cells slots hW hS _ hst => ?_⟩
  obtain ⟨m1, rfl, h1⟩ := ll_st_int hst
  obtain ⟨a, mr, ha, rfl, hr⟩ := ll_st_ref h1
  obtain ⟨e0, hws, hcr⟩ := ll_W_at hW ha
  rw [hcell] at hcr
  obtain ⟨cA, rfl, g1, g2⟩ := hcr
  exact ⟨_ :: mr, ⟨rfl, hr⟩, fun kk => va_zald cx.1 cx.2.1 (ll_K1 cx.2.2.2.2.2.1 g1 g2) hW.1 i 0 hws rfl hin hd kk⟩
theorem lo_ast_inv {n t : Nat} {ls st : List Value} {σ : ll_S} {r : ll_F} (h : lo_ast n t ls st σ = some r) : ∃ (x j : Int32) (i m : Nat) (f : Nat → Int32) (rest : List Value), st = .int x :: .int j :: .ref i :: rest ∧ σ.2.2 i = .inl (t, m, f) ∧ vp_in j m ∧ r = (n, ls, rest, ll_set σ i (.inl (t, m, ll_up f j.toNatClampNeg (vp_nar (ll_ty t) x)))) := by
  unfold lo_ast at h
  split at h
  · rename_i x j i rest
    split at h
    · rename_i t' m f hc
      split at h
      · rename_i hq
        obtain ⟨rfl, h2⟩ := hq
        exact ⟨x, j, i, m, f, rest, rfl, hc, h2, (Option.some.inj h).symm⟩
      · cases h
    · cases h
  · cases h
theorem lk_iast (hd : decode cc pc = .ok (.iastore, 1)) : ll_K cc own ini lw L xs pc (lo_ast (pc + 1) 0) := by
  refine ll_kwr fun ls st σ pc' ls' st' σ1 hf => ?_
  obtain ⟨x, j, i, m0, f, rest, rfl, hcell, hin, he⟩ := lo_ast_inv hf
  cases he
  refine ⟨rfl, ⟨rfl, rfl⟩, fun B nL p l e R s m args below meth c D A Q cx adr ws mls mst H locs cells slots hW hS _ hst kk => ?_⟩
  obtain ⟨m1, rfl, h1⟩ := ll_st_int hst
  obtain ⟨m2, rfl, h2⟩ := ll_st_int h1
  obtain ⟨a, mr, ha, rfl, hr⟩ := ll_st_ref h2
  obtain ⟨e0, hws, hcr⟩ := ll_W_at hW ha
  rw [hcell] at hcr
  obtain ⟨cA, rfl, g1, g2⟩ := hcr
  exact va_iast cx.1 cx.2.1 (ll_K1 cx.2.2.2.2.2.1 g1 g2) hW.1 hW.2.1 hS i 0 hws rfl hin hd fun H1 locs1 k1 k2 k3 => kk _ mr H1 locs1 (ll_W_set hW hws k1 k2 ⟨cA, rfl, g1, g2⟩) k3 hr
theorem lk_zast (hd : decode cc pc = .ok (.bastore, 1)) : ll_K cc own ini lw L xs pc (lo_ast (pc + 1) 1) := by
  refine ll_kwr fun ls st σ pc' ls' st' σ1 hf => ?_
  obtain ⟨x, j, i, m0, f, rest, rfl, hcell, hin, he⟩ := lo_ast_inv hf
  cases he
  refine ⟨rfl, ⟨rfl, rfl⟩, fun B nL p l e R s m args below meth c D A Q cx adr ws mls mst H locs cells slots hW hS _ hst kk => ?_⟩
  obtain ⟨m1, rfl, h1⟩ := ll_st_int hst
  obtain ⟨m2, rfl, h2⟩ := ll_st_int h1
  obtain ⟨a, mr, ha, rfl, hr⟩ := ll_st_ref h2
  obtain ⟨e0, hws, hcr⟩ := ll_W_at hW ha
  rw [hcell] at hcr
  obtain ⟨cA, rfl, g1, g2⟩ := hcr
  exact va_zast cx.1 cx.2.1 (ll_K1 cx.2.2.2.2.2.1 g1 g2) hW.1 hW.2.1 hS i 0 hws rfl hin hd fun H1 locs1 k1 k2 k3 => kk _ mr H1 locs1 (ll_W_set hW hws k1 k2 ⟨cA, rfl, g1, g2⟩) k3 hr
theorem ll_rf_v {B : Nat → Prop} {adr : List Nat} {v w : Option Nat} (h : ll_q adr v w) : ll_v B adr (ll_rf v) (va_rf w) := by
  cases v with
  | none => rw [show w = none from h]; rfl
  | some i => obtain ⟨a, h1, rfl⟩ := h; exact ⟨a, h1, rfl⟩
theorem lk_aald (hd : decode cc pc = .ok (.aaload, 1)) : ll_K cc own ini lw L xs pc (lo_aald (pc + 1)) := by
  refine ll_krd fun ls st σ pc' ls' st' σ1 hf => ?_
  unfold lo_aald at hf
  split at hf
  · rename_i j i rest
    split at hf
    · rename_i t m0 g hcell
      split at hf
      · rename_i hin
        cases hf
        refine ⟨rfl, rfl, fun B nL p l e R s m args below meth c D A Q cx adr ws mls mst H locs cells slots hW hS _ hst => ?_⟩
        obtain ⟨m1, rfl, h1⟩ := ll_st_int hst
        obtain ⟨a, mr, ha, rfl, hr⟩ := ll_st_ref h1
        obtain ⟨e0, hws, hcr⟩ := ll_W_at hW ha
        rw [hcell] at hcr
        obtain ⟨cA, g', rfl, gq, g1, g2⟩ := hcr
        exact ⟨_ :: mr, ⟨ll_rf_v (gq _), hr⟩, fun kk => va_aldq cx.1 cx.2.1 (ll_K1 cx.2.2.2.2.2.1 g1 g2) hW.1 i 0 hws rfl hin hd kk⟩
      · cases hf
    · cases hf
  · cases hf
theorem lk_aast (hd : decode cc pc = .ok (.aastore, 1)) : ll_K cc own ini lw L xs pc (lo_aast (pc + 1)) := by
  refine ll_kwr fun ls st σ pc' ls' st' σ1 hf => ?_
  unfold lo_aast at hf
  split at hf
  · rename_i v j i rest
    split at hf
    · rename_i t m0 g hcell
      split at hf
      · rename_i c0 f0 hvc
        split at hf
        · rename_i hq
          obtain ⟨rfl, hin⟩ := hq
          cases hf
          refine ⟨rfl, ⟨rfl, rfl⟩, fun B nL p l e R s m args below meth c D A Q cx adr ws mls mst H locs cells slots hW hS _ hst kk => ?_⟩
          obtain ⟨av, m1, hav, rfl, h1⟩ := ll_st_ref hst
          obtain ⟨m2, rfl, h2⟩ := ll_st_int h1
          obtain ⟨a, mr, ha, rfl, hr⟩ := ll_st_ref h2
          obtain ⟨e0, hws, hcr⟩ := ll_W_at hW ha
          rw [hcell] at hcr
          obtain ⟨cA, g', rfl, gq, g1, g2⟩ := hcr
          obtain ⟨ev, hwv, hcv⟩ := ll_W_at hW hav
          rw [hvc] at hcv
          obtain ⟨fs, rfl, ⟨q, hq, hlen⟩, hfs⟩ := hcv
          have hcn : ll_cn c0 = q.1 := by unfold ll_cn; rw [hq]
          have g1' : ArrOfT s cA (.object q.1) := hcn ▸ g1
          have g2' : va_RA s cA (.object q.1) := hcn ▸ g2
          refine va_astq cx.1 cx.2.1 (ll_K1 cx.2.2.2.2.2.1 g1' g2') hW.1 hW.2.1 hS i 0 v c0 hws rfl hwv hq hin hd fun H1 locs1 k1 k2 k3 => kk _ mr H1 locs1 (ll_W_set hW hws k1 k2 ⟨cA, _, rfl, fun j' => ?_, g1, g2⟩) k3 hr
          unfold ll_up va_up
          by_cases hj : j' = j.toNatClampNeg
          · rw [if_pos hj, if_pos hj]; exact ⟨av, hav, rfl⟩
          · rw [if_neg hj, if_neg hj]; exact gq j'
        · cases hf
      · cases hf
    · cases hf
  · cases hf
theorem lk_alen (hd : decode cc pc = .ok (.arraylength, 1)) : ll_K cc own ini lw L xs pc (lo_alen (pc + 1)) := by
  refine ll_krd fun ls st σ pc' ls' st' σ1 hf => ?_
  unfold lo_alen at hf
  split at hf
  · rename_i i rest
    split at hf
    · rename_i t m0 f hcell
      cases hf
      refine ⟨rfl, rfl, fun B nL p l e R s m args below meth c D A Q cx adr ws mls mst H locs cells slots hW hS _ hst => ?_⟩
      obtain ⟨a, mr, ha, rfl, hr⟩ := ll_st_ref hst
      obtain ⟨e0, hws, hcr⟩ := ll_W_at hW ha
      rw [hcell] at hcr
      obtain ⟨cA, rfl, g1, g2⟩ := hcr
      exact ⟨_ :: mr, ⟨rfl, hr⟩, fun kk => va_alen cx.1 cx.2.1 (ll_K1 cx.2.2.2.2.2.1 g1 g2) hW.1 i 0 hws rfl rfl hd kk⟩
    · rename_i t m0 f hcell
      cases hf
      refine ⟨rfl, rfl, fun B nL p l e R s m args below meth c D A Q cx adr ws mls mst H locs cells slots hW hS _ hst => ?_⟩
      obtain ⟨a, mr, ha, rfl, hr⟩ := ll_st_ref hst
      obtain ⟨e0, hws, hcr⟩ := ll_W_at hW ha
      rw [hcell] at hcr
      obtain ⟨cA, g', rfl, gq, g1, g2⟩ := hcr
      exact ⟨_ :: mr, ⟨rfl, hr⟩, fun kk => va_alen cx.1 cx.2.1 (ll_K1 cx.2.2.2.2.2.1 g1 g2) hW.1 i 0 hws rfl rfl hd kk⟩
    · cases hf
  · cases hf
/-! new cells -/
theorem ll_K2 {D : va_G} {s : State} {cA : ClassId} {ty : FieldType} {tys : List (ClassId × FieldType)} (h : va_K D vwCl (tys ++ [(cA, ty)]) s) : ArrOfT s cA ty ∧ va_RA s cA ty := h.2 tys.length (cA, ty) (by simp)
theorem lk_newa_int (hd : decode cc pc = .ok (.newarray .int, 2)) (hw : ll_tb (.arrayClass .int)) : ll_K cc own ini lw L xs pc (lo_newa (pc + 2) 0) := by
  refine ll_knw fun ls st σ pc' ls' st' σ1 hf => ?_
  unfold lo_newa at hf
  split at hf
  · rename_i k rest
    split at hf
    · cases hf
    · rename_i hk
      cases hf
      refine ⟨_, _, rest, rfl, rfl, rfl, fun B nL p l e R s m args below meth c D A Q cx adr ws mls mst H locs cells slots hW hS hst hc hs kk => ?_⟩
      obtain ⟨m1, rfl, h1⟩ := ll_st_int hst
      have hb : k.toNatClampNeg * componentBytes .int ≤ 536870912 := by
        have e1 : componentBytes .int = 4 := rfl
        rw [e1]
        omega
      exact va_newa (ty := .int) (atype := .int) cx.1 cx.2.1 (cx.2.2.2.2.1 _ hw) rfl cx.2.2.2.2.2.1 hW.1 hW.2.1 hS cx.2.2.2.2.2.2.1 (a0 := (k.toNatClampNeg, .inl (fun _ => 0))) (fun cA => rfl) (fun q => hk (Or.inl q)) rfl hb hc hs hd
        fun q cA H1 k0 k1 k2 k3 => kk q _ m1 H1 locs h1 k1 k2 ⟨cA, rfl, (ll_K2 k0).1, (ll_K2 k0).2⟩ k3
  · cases hf
theorem lk_newa_bool (hd : decode cc pc = .ok (.newarray .boolean, 2)) (hw : ll_tb (.arrayClass .boolean)) : ll_K cc own ini lw L xs pc (lo_newa (pc + 2) 1) := by
  refine ll_knw fun ls st σ pc' ls' st' σ1 hf => ?_
  unfold lo_newa at hf
  split at hf
  · rename_i k rest
    split at hf
    · cases hf
    · rename_i hk
      cases hf
      refine ⟨_, _, rest, rfl, rfl, rfl, fun B nL p l e R s m args below meth c D A Q cx adr ws mls mst H locs cells slots hW hS hst hc hs kk => ?_⟩
      obtain ⟨m1, rfl, h1⟩ := ll_st_int hst
      have hb : k.toNatClampNeg * componentBytes .boolean ≤ 536870912 := by
        have e1 : componentBytes .boolean = 1 := rfl
        rw [e1]
        omega
      exact va_newa (ty := .boolean) (atype := .boolean) cx.1 cx.2.1 (cx.2.2.2.2.1 _ hw) rfl cx.2.2.2.2.2.1 hW.1 hW.2.1 hS cx.2.2.2.2.2.2.1 (a0 := (k.toNatClampNeg, .inl (fun _ => 0))) (fun cA => rfl) (fun q => hk (Or.inl q)) rfl hb hc hs hd
        fun q cA H1 k0 k1 k2 k3 => kk q _ m1 H1 locs h1 k1 k2 ⟨cA, rfl, (ll_K2 k0).1, (ll_K2 k0).2⟩ k3
  · cases hf
theorem lk_anew {ix t : Nat} (hd : decode cc pc = .ok (.anewarray ix, 3)) (hw : ll_tb (.classLink own ix (ll_cn t))) (ho : ll_cn t ∈ ll_aos) : ll_K cc own ini lw L xs pc (lo_anew (pc + 3) t) := by
  refine ll_knw fun ls st σ pc' ls' st' σ1 hf => ?_
  unfold lo_anew at hf
  split at hf
  · rename_i k rest
    split at hf
    · cases hf
    · rename_i hk
      cases hf
      refine ⟨_, _, rest, rfl, rfl, rfl, fun B nL p l e R s m args below meth c D A Q cx adr ws mls mst H locs cells slots hW hS hst hc hs kk => ?_⟩
      obtain ⟨m1, rfl, h1⟩ := ll_st_int hst
      exact va_newq cx.1 cx.2.1 cx.2.2.2.1 (cx.2.2.2.2.1 _ hw) (cx.2.2.2.2.2.2.2.2.2.2.2.1 _ ho) cx.2.2.2.2.2.1 hW.1 hW.2.1 hS cx.2.2.2.2.2.2.1 (fun q => hk (Or.inl q)) rfl (by omega) hc hs hd
        fun q cA H1 k0 k1 k2 k3 => kk q _ m1 H1 locs h1 k1 k2 ⟨cA, _, rfl, fun _ => rfl, (ll_K2 k0).1, (ll_K2 k0).2⟩ k3
  · cases hf
theorem lk_new {ix ci N : Nat} {C : String} {T : u_T} {ty0 : Nat → FieldType} {fs : List Value} (hd : decode cc pc = .ok (.new ix, 3)) (hc : vwCl[ci]? = some (C, T, N)) (hin : ∀ w ∈ u_ws C T N, w ∈ ll_T) (hty : ∀ k, k < N → parseFieldDescriptor (T k).2.2.1 = some (ty0 k)) (hw : ll_tb (.classLink own ix C)) (hi : ll_tb (.instantiable C N)) (hn : ll_tb (.initialized C)) (hl : fs.length = N) (hfs : ∀ j, j < N → defaultValue (ty0 j) = vp_V fs j) (hdf : ∀ v ∈ fs, v = .null ∨ v = .int 0) : ll_K cc own ini lw L xs pc (lo_new (pc + 3) ci N fs) := by
  refine ll_knw fun ls st σ pc' ls' st' σ1 hf => ?_
  cases hf
  refine ⟨_, _, st, rfl, rfl, rfl, fun B nL p l e R s m args below meth c D A Q cx adr ws mls mst H locs cells slots hW hS hst hcl hs kk => ?_⟩
  refine va_new (fs := fs) cx.1 cx.2.1 (ll_hts cx.2.2.2.2.1) hin ty0 hty cx.2.2.2.1 (cx.2.2.2.2.1 _ hw) (cx.2.2.2.2.1 _ hi) (cx.2.2.2.2.1 _ hn) cx.2.2.2.2.2.1 hW.1 hW.2.1 hS cx.2.2.2.2.2.2.1 hc hfs hcl hs hd
    fun q H1 k1 k2 k3 => kk q _ mst H1 locs hst k1 k2 ⟨fs, rfl, ⟨_, hc, hl⟩, fun k v hk => ?_⟩ k3
  have h1 : fs.getD k .null = v := by rw [List.getD_eq_getElem?_getD, hk]; rfl
  show ll_v B _ (fs.getD k .null) v
  rw [h1]
  rcases hdf v (List.mem_of_getElem? hk) with rfl | rfl <;> rfl
theorem lk_init {ix : Nat} (hd : decode cc pc = .ok (.invokespecial ix, 3)) (hw : ll_tb (.methodLink own ix Lib.objectInit)) (hi : ll_tb (.instanceMethod Lib.objectInit)) (hcd : ll_tb (.code Lib.objectInit ⟨#[0xb1]⟩ 1 none)) : ll_K cc own ini lw L xs pc (lo_init (pc + 3)) := by
  refine ll_krd fun ls st σ pc' ls' st' σ1 hf => ?_
  unfold lo_init at hf
  split at hf
  · rename_i i rest
    split at hf
    · rename_i hlen
      cases hf
      refine ⟨rfl, rfl, fun B nL p l e R s m args below meth c D A Q cx adr ws mls mst H locs cells slots hW hS hsz hst => ?_⟩
      obtain ⟨a, mr, ha, rfl, hr⟩ := ll_st_ref hst
      have hct := ll_cat hr
      refine ⟨mr, hr, fun kk => W.objInit cx.1 cx.2.1 cx.2.2.2.1 (cx.2.2.2.2.1 _ hw) (cx.2.2.2.2.1 _ hi) (cx.2.2.2.2.1 _ hcd) rfl (hsz.trans cx.2.2.1.symm) rfl hd cx.2.2.2.2.2.2.2.2.1 ?_ kk⟩
      have hR := cx.2.2.2.2.2.2.2.2.2.1
      show 2 * 0 + (mr.map fun v => v.category).sum + 12 ≤ R.locals
      omega
    · cases hf
  · cases hf
theorem lk_copy {ix : Nat} (hd : decode cc pc = .ok (.invokestatic ix, 3)) (hw : ll_tb (.methodLink own ix arraycopyName)) (hn : ll_tb (.native arraycopyName)) (hs : ll_tb (.static arraycopyName)) (hi : ll_tb (.initialized "java/lang/System")) : ll_K cc own ini lw L xs pc (lo_copy (pc + 3)) := by
  refine ll_kwr fun ls st σ pc' ls' st' σ1 hf => ?_
  unfold lo_copy at hf
  split at hf
  · rename_i k dp d sp s0 rest
    split at hf
    · rename_i t0 n0 f t1 n1 g hc0 hc1
      split at hf
      · rename_i hq
        obtain ⟨rfl, rfl, hlen, q1, q2, q3, q4, q5⟩ := hq
        cases hf
        refine ⟨rfl, ⟨rfl, rfl⟩, fun B nL p l e R s m args below meth c D A Q cx adr ws mls mst H locs cells slots hW hS hsz hst kk => ?_⟩
        obtain ⟨m1, rfl, h1⟩ := ll_st_int hst
        obtain ⟨m2, rfl, h2⟩ := ll_st_int h1
        obtain ⟨a1, m3, ha1, rfl, h3⟩ := ll_st_ref h2
        obtain ⟨m4, rfl, h4⟩ := ll_st_int h3
        obtain ⟨a0, mr, ha0, rfl, hr⟩ := ll_st_ref h4
        obtain ⟨e0, hws0, hcr0⟩ := ll_W_at hW ha0
        rw [hc0] at hcr0
        obtain ⟨cA0, rfl, g1, g2⟩ := hcr0
        obtain ⟨e1, hws1, hcr1⟩ := ll_W_at hW ha1
        rw [hc1] at hcr1
        obtain ⟨cA1, rfl, g3, g4⟩ := hcr1
        have hct := ll_cat hr
        have hR := cx.2.2.2.2.2.2.2.2.2.1
        have hKK : va_K D vwCl [(cA0, .int), (cA1, .int)] s := by
          refine ⟨cx.2.2.2.2.2.1.1, fun k q hk => ?_⟩
          match k, hk with
          | 0, hk => cases hk; exact ⟨g1, g2⟩
          | 1, hk => cases hk; exact ⟨g3, g4⟩
          | _ + 2, hk => cases hk
        have hnat : nativeFrameWords "java/lang/System" "arraycopy" 5 ≤ 40 := by decide +kernel
        refine va_copyi cx.1 cx.2.1 (cx.2.2.1.trans hsz.symm) cx.2.2.2.1 (cx.2.2.2.2.1 _ hw) (cx.2.2.2.2.1 _ hn) (cx.2.2.2.2.1 _ hs) (cx.2.2.2.2.1 _ hi) hKK hW.1 hW.2.1 hS s0 d 0 1 hws0 hws1 rfl rfl rfl q1 q2 q3 q4 q5 (fun _ _ => rfl) cx.2.2.2.2.2.2.2.2.1 (by omega) hd fun H1 locs1 k1 k2 k3 => kk _ mr H1 locs1 (ll_W_set hW hws1 k1 k2 ⟨cA1, rfl, g3, g4⟩) k3 hr
      · cases hf
    · cases hf
  · cases hf
theorem lk_sld (hd : decode cc pc = .ok (.iaload, 1)) (hlw : lw = true) : ll_K cc own ini lw L xs pc (lo_sld (pc + 1) L xs) := by
  refine ll_krd fun ls st σ pc' ls' st' σ1 hf => ?_
  unfold lo_sld at hf
  split at hf
  · rename_i j x rest
    split at hf
    · cases hf
    · rename_i hin
      cases hf
      refine ⟨rfl, rfl, fun B nL p l e R s m args below meth c D A Q cx adr ws mls mst H locs cells slots hW hS hsz hst => ?_⟩
      obtain ⟨m1, rfl, h1⟩ := ll_st_int hst
      obtain ⟨w, mr, rfl, ⟨b, hB, rfl⟩, hr⟩ := ll_st_inv h1
      obtain ⟨x1, x2, x3⟩ := cx.2.2.2.2.2.2.2.2.2.2.1 hlw b hB
      exact ⟨_ :: mr, ⟨rfl, hr⟩, fun kk => va_sld cx.1 cx.2.1 x1 x2 x3 hS hin hd kk⟩
  · cases hf
theorem lk_slen (hd : decode cc pc = .ok (.arraylength, 1)) (hlw : lw = true) : ll_K cc own ini lw L xs pc (lo_slen (pc + 1) L) := by
  refine ll_krd fun ls st σ pc' ls' st' σ1 hf => ?_
  unfold lo_slen at hf
  split at hf
  · rename_i x rest
    cases hf
    refine ⟨rfl, rfl, fun B nL p l e R s m args below meth c D A Q cx adr ws mls mst H locs cells slots hW hS hsz hst => ?_⟩
    obtain ⟨w, mr, rfl, ⟨b, hB, rfl⟩, hr⟩ := ll_st_inv hst
    obtain ⟨x1, x2, x3⟩ := cx.2.2.2.2.2.2.2.2.2.2.1 hlw b hB
    exact ⟨_ :: mr, ⟨rfl, hr⟩, fun kk => va_slen cx.1 cx.2.1 x1 x2 x3 hS hd kk⟩
  · cases hf
theorem lk_max {ix : Nat} (hd : decode cc pc = .ok (.invokestatic ix, 3)) (hw : ll_tb (.methodLink own ix Lib.Math.max.name)) (hs : ll_tb (.static Lib.Math.max.name)) (hi : ll_tb (.initialized "java/lang/Math")) (hcd : ll_tb (.code Lib.Math.max.name Lib.Math.max.code 2 (some .int))) : ll_K cc own ini lw L xs pc (lo_mm (pc + 3) (fun x y => if x < y then y else x)) := by
  intro ls st σ pc' ls' st' σ1 hf
  unfold lo_mm at hf
  split at hf
  · rename_i y x rest
    split at hf
    · rename_i hlen
      cases hf
      refine ⟨⟨Nat.le_refl _, Nat.le_refl _⟩, ?_⟩
      intro B nL p l e R s m args below meth c D A Q cx adr ws mls mst H locs cells slots hW hS hL hst hc hsl kk
      rw [Nat.sub_self] at hc hsl
      rw [Nat.sub_self, Nat.sub_self] at kk
      obtain ⟨m1, rfl, h1⟩ := ll_st_int hst
      obtain ⟨m2, rfl, h2⟩ := ll_st_int h1
      have hct := ll_cat h2
      have hR := cx.2.2.2.2.2.2.2.2.2.1
      have hsz : mls.size = nL := by obtain ⟨-, lv, q, -⟩ := hL; exact q.1
      exact va_mmax cx.1 cx.2.1 (cx.2.2.1.trans hsz.symm) cx.2.2.2.1 (cx.2.2.2.2.1 _ hw) (cx.2.2.2.2.1 _ hs) (cx.2.2.2.2.1 _ hi) (cx.2.2.2.2.1 _ hcd) cx.2.2.2.2.2.2.2.2.1 (by omega) (by omega) (by omega) hd (kk adr ws mls (.int _ :: m2) H locs ⟨[], by simp⟩ hW hS hL ⟨rfl, h2⟩)
    · cases hf
  · cases hf
theorem lk_min {ix : Nat} (hd : decode cc pc = .ok (.invokestatic ix, 3)) (hw : ll_tb (.methodLink own ix Lib.Math.min.name)) (hs : ll_tb (.static Lib.Math.min.name)) (hi : ll_tb (.initialized "java/lang/Math")) (hcd : ll_tb (.code Lib.Math.min.name Lib.Math.min.code 2 (some .int))) : ll_K cc own ini lw L xs pc (lo_mm (pc + 3) (fun x y => if y < x then y else x)) := by
  intro ls st σ pc' ls' st' σ1 hf
  unfold lo_mm at hf
  split at hf
  · rename_i y x rest
    split at hf
    · rename_i hlen
      cases hf
      refine ⟨⟨Nat.le_refl _, Nat.le_refl _⟩, ?_⟩
      intro B nL p l e R s m args below meth c D A Q cx adr ws mls mst H locs cells slots hW hS hL hst hc hsl kk
      rw [Nat.sub_self] at hc hsl
      rw [Nat.sub_self, Nat.sub_self] at kk
      obtain ⟨m1, rfl, h1⟩ := ll_st_int hst
      obtain ⟨m2, rfl, h2⟩ := ll_st_int h1
      have hct := ll_cat h2
      have hR := cx.2.2.2.2.2.2.2.2.2.1
      have hsz : mls.size = nL := by obtain ⟨-, lv, q, -⟩ := hL; exact q.1
      exact va_mmin cx.1 cx.2.1 (cx.2.2.1.trans hsz.symm) cx.2.2.2.1 (cx.2.2.2.2.1 _ hw) (cx.2.2.2.2.1 _ hs) (cx.2.2.2.2.1 _ hi) (cx.2.2.2.2.1 _ hcd) cx.2.2.2.2.2.2.2.2.1 (by omega) (by omega) (by omega) hd (kk adr ws mls (.int _ :: m2) H locs ⟨[], by simp⟩ hW hS hL ⟨rfl, h2⟩)
    · cases hf
  · cases hf
end LH2
end
section
/-! THE RUN of the light machine, and that it is the machine's. -/
def ll_sl (vs : List Value) : List Value := vs.flatMap fun v => if v.category = 2 then [v, .null] else [v]
def ll_ent (n : Nat) (vs : List Value) : List Value := ll_sl vs ++ List.replicate (n - (ll_sl vs).length) .null
/-- the receiver is of the method's class -/
def ll_rc (ci : Option Nat) (as : List Value) (σ : ll_S) : Bool := match ci with
  | none => true
  | some c => match as with
    | .ref i :: _ => match σ.2.2 i with
      | .inr (.inr (c', _)) => c' == c
      | _ => false
    | _ => false
def ll_okc (ci : Option Nat) (nL k : Nat) (st : List Value) (σ : ll_S) : Bool := decide (k ≤ st.length) && (decide ((st.drop k).length ≤ 4) && (decide ((ll_sl (st.take k).reverse).length ≤ nL) && ll_rc ci (st.take k).reverse σ))
def ll_ret (t : Nat) (st : List Value) (σ : ll_S) : Option (Option Int32 × ll_S) := match st with
  | [] => if t = 0 then some (none, σ) else none
  | [.int x] => if t = 1 ∨ (t = 2 ∧ (x = 0 ∨ x = 1)) then some (some x, σ) else none
  | _ => none
def ll_run (P : Nat → Nat → Option ll_O) (mL : Nat → Nat) (mK : Nat → Option Nat) : Nat → Nat → Nat → Nat → List Value → List Value → ll_S → Option (Option Int32 × ll_S)
  | 0, _, _, _, _, _, _ => none
  | n + 1, d, y, pc, ls, st, σ => match P y pc with
    | none => none
    | some (.inl f) => match f ls st σ with
      | none => none
      | some r => ll_run P mL mK n d y r.1 r.2.1 r.2.2.1 r.2.2.2
    | some (.inr (.inl q)) => match d with
      | 0 => none
      | d' + 1 => if ll_okc (mK q.1) (mL q.1) q.2.1 st σ = true then (match ll_run P mL mK n d' q.1 0 (ll_ent (mL q.1) (st.take q.2.1).reverse) [] σ with
          | none => none
          | some r => ll_run P mL mK n (d' + 1) y q.2.2 ls ((r.1.map Value.int).toList ++ st.drop q.2.1) r.2) else none
    | some (.inr (.inr t)) => ll_ret t st σ
theorem ll_v_cat {B : Nat → Prop} {adr : List Nat} {v w : Value} (h : ll_v B adr v w) : v.category = w.category := by
  cases v with
  | int x => rw [show w = .int x from h]
  | long x => rw [show w = .long x from h]
  | float x => obtain ⟨b, -, rfl⟩ := h; rfl
  | double x => exact h.elim
  | null => rw [show w = .null from h]
  | ref a => obtain ⟨b, -, rfl⟩ := h; rfl
  | retAddr a => exact h.elim
theorem ll_sl_cons (v : Value) (vs : List Value) : ll_sl (v :: vs) = (if v.category = 2 then [v, .null] else [v]) ++ ll_sl vs := by simp [ll_sl]
theorem ll_sl_len {B : Nat → Prop} {adr : List Nat} : ∀ {as was : List Value}, ll_st B adr as was → (lg_sl was).length = (ll_sl as).length
  | [], [], _ => rfl
  | v :: as, w :: was, h => by
    have h1 := ll_sl_len h.2
    have h2 : lg_sl (w :: was) = (if w.category = 2 then [.val w, .second] else [.val w]) ++ lg_sl was := by simp [lg_sl]
    rw [h2, ll_sl_cons, List.length_append, List.length_append, h1, ll_v_cat h.1]
    split <;> rfl
  | [], _ :: _, h => h.elim
  | _ :: _, [], h => h.elim
theorem ll_ent_at {B : Nat → Prop} {adr : List Nat} : ∀ {as was : List Value} (off : Nat), ll_st B adr as was → ∀ (i : Nat) (v : Value), (ll_sl as)[i]? = some v → v ≠ .null → ∃ w, (off + i, w) ∈ lv_args off was ∧ ll_v B adr v w
  | [], [], _, _, i, v, hi, _ => by simp [ll_sl] at hi
  | u :: as, w :: was, off, h, i, v, hi, hn => by
    rw [ll_sl_cons] at hi
    by_cases hc : u.category = 2
    · rw [if_pos hc] at hi
      match i, hi with
      | 0, hi =>
        cases hi
        exact ⟨w, by simp [lv_args], h.1⟩
      | 1, hi =>
        cases hi
        exact absurd rfl hn
      | i + 2, hi =>
        obtain ⟨w', q1, q2⟩ := ll_ent_at (off + 2) h.2 i v (by simpa using hi) hn
        refine ⟨w', ?_, q2⟩
        rw [lv_args, if_pos (by rw [← ll_v_cat h.1]; exact hc)]
        exact List.mem_cons_of_mem _ (by rw [show off + (i + 2) = off + 2 + i by omega]; exact q1)
    · rw [if_neg hc] at hi
      match i, hi with
      | 0, hi =>
        cases hi
        exact ⟨w, by simp [lv_args], h.1⟩
      | i + 1, hi =>
        obtain ⟨w', q1, q2⟩ := ll_ent_at (off + 1) h.2 i v (by simpa using hi) hn
        refine ⟨w', ?_, q2⟩
        rw [lv_args, if_neg (by rw [← ll_v_cat h.1]; exact hc)]
        exact List.mem_cons_of_mem _ (by rw [show off + (i + 1) = off + 1 + i by omega]; exact q1)
  | [], _ :: _, _, h, _, _, _, _ => h.elim
  | _ :: _, [], _, h, _, _, _, _ => h.elim
theorem ll_ent_L {B : Nat → Prop} {adr : List Nat} {as was : List Value} {n : Nat} {mls : Array Slot} (h : ll_st B adr as was) (hn : (ll_sl as).length ≤ n) (hl : lv_has mls n (lv_args 0 was)) : ll_L B adr (ll_ent n as) mls n := by
  refine ⟨by simp [ll_ent]; omega, _, hl, fun i v hi hv => ?_⟩
  unfold ll_ent at hi
  by_cases hlt : i < (ll_sl as).length
  · rw [List.getElem?_append_left hlt] at hi
    obtain ⟨w, q1, q2⟩ := ll_ent_at 0 h i v hi hv
    exact ⟨w, by rw [Nat.zero_add] at q1; exact q1, q2⟩
  · rw [List.getElem?_append_right (by omega)] at hi
    exact absurd (List.eq_of_mem_replicate (List.mem_of_getElem? hi)) hv
theorem ll_st_append {B : Nat → Prop} {adr : List Nat} : ∀ {a b a2 b2 : List Value}, ll_st B adr a b → ll_st B adr a2 b2 → ll_st B adr (a ++ a2) (b ++ b2)
  | [], [], _, _, _, h => h
  | _ :: _, _ :: _, _, _, h, h2 => ⟨h.1, ll_st_append h.2 h2⟩
  | [], _ :: _, _, _, h, _ => h.elim
  | _ :: _, [], _, _, h, _ => h.elim
theorem ll_st_reverse {B : Nat → Prop} {adr : List Nat} : ∀ {a b : List Value}, ll_st B adr a b → ll_st B adr a.reverse b.reverse
  | [], [], _ => trivial
  | v :: a, w :: b, h => by
    rw [List.reverse_cons, List.reverse_cons]
    exact ll_st_append (ll_st_reverse h.2) ⟨h.1, trivial⟩
  | [], _ :: _, h => h.elim
  | _ :: _, [], h => h.elim
theorem ll_st_take {B : Nat → Prop} {adr : List Nat} : ∀ (k : Nat) {a b : List Value}, ll_st B adr a b → ll_st B adr (a.take k) (b.take k) ∧ ll_st B adr (a.drop k) (b.drop k)
  | 0, _, _, h => ⟨trivial, h⟩
  | _ + 1, [], [], _ => ⟨trivial, trivial⟩
  | k + 1, _ :: _, _ :: _, h => ⟨⟨h.1, (ll_st_take k h.2).1⟩, (ll_st_take k h.2).2⟩
  | _ + 1, [], _ :: _, h => h.elim
  | _ + 1, _ :: _, [], h => h.elim
/-- a call instruction: what the tables say of it (N: the method called, K: its receiver's class, k: the values taken) -/
def ll_J (cc : ByteArray) (own : String) (pc : Nat) (N : MethodName) (K : Option Nat) (rt : Option FieldType) (k : Nat) : Prop :=
  (∃ ix n ci q, decode cc pc = .ok (.invokevirtual ix, 3) ∧ ll_tb (.methodLink own ix N) ∧ ll_tb (.instanceMethod N) ∧ ll_tb (.selects N.cls N N) ∧ K = some ci ∧ vwCl[ci]? = some q ∧ q.1 = N.cls ∧ k = n + 1 ∧ (parseMethodDescriptor N.desc).map (fun d => d.parameters.length) = some n) ∨
  (∃ ix, decode cc pc = .ok (.invokestatic ix, 3) ∧ ll_tb (.methodLink own ix N) ∧ ll_tb (.static N) ∧ (parseMethodDescriptor N.desc).map (fun d => d.parameters.length) = some k) ∨
  (∃ ix n ci, decode cc pc = .ok (.invokespecial ix, 3) ∧ (ll_tb (.methodLink own ix N) ∨ ∃ host, (own, ix, N, host) ∈ ll_nws) ∧ ll_tb (.instanceMethod N) ∧ N.name = "<init>" ∧ K = some ci ∧ k = n + 1 ∧ (parseMethodDescriptor N.desc).map (fun d => d.parameters.length) = some n ∧ rt = none)
/-- an instruction of the table is the machine's -/
def ll_OK1 (cc : ByteArray) (own : String) (ret : Option FieldType) (ini : Bool) (mN : Nat → MethodName) (mR : Nat → Option FieldType) (mK : Nat → Option Nat) (cnt : Nat) (L : Nat) (xs : Nat → Int32) (lw : Bool) (pc : Nat) (o : ll_O) : Prop := match o with
  | .inl f => ll_K cc own ini lw L xs pc f
  | .inr (.inl (z, k, n)) => n = pc + 3 ∧ z < cnt ∧ ll_J cc own pc (mN z) (mK z) (mR z) k
  | .inr (.inr t) => (t = 0 → decode cc pc = .ok (.return_, 1) ∧ ret = none) ∧ (t = 1 → decode cc pc = .ok (.ireturn, 1) ∧ ret = some .int) ∧ (t = 2 → decode cc pc = .ok (.ireturn, 1) ∧ ret = some .boolean)
def ll_OK (mN : Nat → MethodName) (mC : Nat → ByteArray) (mR : Nat → Option FieldType) (mK : Nat → Option Nat) (mI : Nat → Bool) (cnt : Nat) (L : Nat) (xs : Nat → Int32) (lw : Bool) (y pc : Nat) (o : ll_O) : Prop := ll_OK1 (mC y) (mN y).cls (mR y) (mI y) mN mR mK cnt L xs lw pc o
/-- a method of the table -/
def ll_M (mN : Nat → MethodName) (mC : Nat → ByteArray) (mL : Nat → Nat) (mR : Nat → Option FieldType) (mI : Nat → Bool) (y : Nat) : Prop :=
  ll_tb (.code (mN y) (mC y) (mL y) (mR y)) ∧ ll_tb (.initialized (mN y).cls) ∧ plainName (mN y).cls = true ∧ ((mN y).cls ≠ "java/lang/invoke/MethodHandle" ∧ (mN y).cls ≠ "java/lang/invoke/VarHandle") ∧ mL y ≤ 40 ∧ (mI y = true → (mN y).name = "<init>")
theorem lj_v {cc : ByteArray} {own : String} {pc : Nat} {N : MethodName} {K : Option Nat} {rt : Option FieldType} {k : Nat} (ix n ci : Nat) (q : vw_C) (hd : decode cc pc = .ok (.invokevirtual ix, 3)) (h1 : ll_tb (.methodLink own ix N)) (h2 : ll_tb (.instanceMethod N)) (h3 : ll_tb (.selects N.cls N N)) (h4 : K = some ci) (h5 : vwCl[ci]? = some q) (h6 : q.1 = N.cls) (h7 : k = n + 1) (h8 : (parseMethodDescriptor N.desc).map (fun d => d.parameters.length) = some n) : ll_J cc own pc N K rt k := Or.inl ⟨ix, n, ci, q, hd, h1, h2, h3, h4, h5, h6, h7, h8⟩
theorem lj_s {cc : ByteArray} {own : String} {pc : Nat} {N : MethodName} {K : Option Nat} {rt : Option FieldType} {k : Nat} (ix : Nat) (hd : decode cc pc = .ok (.invokestatic ix, 3)) (h1 : ll_tb (.methodLink own ix N)) (h2 : ll_tb (.static N)) (h3 : (parseMethodDescriptor N.desc).map (fun d => d.parameters.length) = some k) : ll_J cc own pc N K rt k := Or.inr (Or.inl ⟨ix, hd, h1, h2, h3⟩)
theorem lj_i {cc : ByteArray} {own : String} {pc : Nat} {N : MethodName} {K : Option Nat} {rt : Option FieldType} {k : Nat} (ix n ci : Nat) (hd : decode cc pc = .ok (.invokespecial ix, 3)) (h1 : ll_tb (.methodLink own ix N) ∨ ∃ host, (own, ix, N, host) ∈ ll_nws) (h2 : ll_tb (.instanceMethod N)) (h3 : N.name = "<init>") (h4 : K = some ci) (h5 : k = n + 1) (h6 : (parseMethodDescriptor N.desc).map (fun d => d.parameters.length) = some n) (h7 : rt = none) : ll_J cc own pc N K rt k := Or.inr (Or.inr ⟨ix, n, ci, hd, h1, h2, h3, h4, h5, h6, h7⟩)
theorem ll_places {ws : List Cond} (ps : List Nat) (hp : ws = ps.filterMap (fun i => lw_tbl[i]?)) (h : ws.all goodWord = true) : ∀ w ∈ ws, w ∈ ll_T := by
  intro w hw
  have h1 := List.all_eq_true.mp h w hw
  rw [hp] at hw
  obtain ⟨i, -, hi⟩ := List.mem_filterMap.mp hw
  exact ll_T_in ⟨List.mem_of_getElem? hi, h1⟩
theorem ll_place {w : Cond} (i : Nat) (hi : lw_tbl[i]? = some w) (h : goodWord w = true) : ll_tb w := ⟨List.mem_of_getElem? hi, h⟩
end
section
/-- the return that ends a run with r -/
def ll_rt (mC : Nat → ByteArray) (mR : Nat → Option FieldType) (y pc : Nat) (r : Option Int32) : Prop := match r with
  | none => decode (mC y) pc = .ok (.return_, 1) ∧ mR y = none
  | some x => decode (mC y) pc = .ok (.ireturn, 1) ∧ (mR y = some .int ∨ (mR y = some .boolean ∧ (x = 0 ∨ x = 1)))
/-- from here the machine comes to the return of r, with the store σ' -/
def ll_Bd (mN : Nat → MethodName) (mC : Nat → ByteArray) (mL : Nat → Nat) (mR : Nat → Option FieldType) (mI : Nat → Bool) (L : Nat) (xs : Nat → Int32) (lwf : Bool) (d y pc : Nat) (ls st : List Value) (σ : ll_S) (r : Option Int32) (σ' : ll_S) : Prop :=
  ∀ (B : Nat → Prop) (p : Program) (l : Launch) (e : Env) (R : Room) (s : State) (m : MethodId) (args : Array Value) (below : List Frame) (meth : Method) (c : Code) (D : va_G) (A : Nat → Prop) (Q : State → Prop),
    ll_X (mC y) (mL y) (mN y).cls (mI y) lwf L xs B p R s m args meth c D A → d + 1 ≤ R.frames → 64 * (d + 1) ≤ R.locals → ∀ (adr : List Nat) (ws : va_W) (mls : Array Slot) (mst : List Value) (H : Heap) (locs : List Loc) (cells slots : Nat),
    ll_W B s D A adr ws σ H → va_S A s.heap H locs → ll_L B adr ls mls (mL y) → ll_st B adr st mst → cells + (σ'.1 - σ.1) ≤ R.cells → slots + (σ'.2.1 - σ.2.1) ≤ R.slots →
    (∀ (pc' : Nat) (adr' : List Nat) (ws' : va_W) (mls' : Array Slot) (H' : Heap) (locs' : List Loc), ll_rt mC mR y pc' r → (∃ z, adr' = adr ++ z) → ll_W B s D A adr' ws' σ' H' → va_S A s.heap H' locs' →
      W p l e R s m args below meth c H' locs' (cells + (σ'.1 - σ.1)) (slots + (σ'.2.1 - σ.2.1)) Q (F0 m pc' mls' (r.map Value.int).toList)) →
    W p l e R s m args below meth c H locs cells slots Q (F0 m pc mls mst)
/-- the world behind a call -/
def ll_af (B : Nat → Prop) (D : va_G) (adr : List Nat) (A : Nat → Prop) (σ1 : ll_S) (u : List Nat × va_W) (t : State) : Prop := (∃ z, u.1 = adr ++ z) ∧ ll_W B t D A u.1 u.2 σ1 t.heap
def ll_Qc (B : Nat → Prop) (D : va_G) (adr : List Nat) (A : Nat → Prop) (σ1 : ll_S) (r : Option Int32) : Array Value → State → Outcome → State → Prop := match r with
  | some x => va_Qi (S := List Nat × va_W) (fun y _ => y = x) (ll_af B D adr A σ1) A
  | none => va_Qv (S := List Nat × va_W) (fun _ => True) (ll_af B D adr A σ1) A
section LB
variable {P : Nat → Nat → Option ll_O} {mN : Nat → MethodName} {mC : Nat → ByteArray} {mL : Nat → Nat} {mR : Nat → Option FieldType} {mK : Nat → Option Nat} {mI : Nat → Bool} {cnt L : Nat} {xs : Nat → Int32}
/-- a method's contract out of its light run -/
theorem ll_met {z d : Nat} {as : List Value} {σ σ1 : ll_S} {r : Option Int32} (hb : ll_Bd mN mC mL mR mI L xs false d z 0 (ll_ent (mL z) as) [] σ r σ1) (hm : ll_M mN mC mL mR mI z) (hn : (ll_sl as).length ≤ mL z) (l : Launch) (B : Nat → Prop) (D : va_G) (adr : List Nat) (ws : va_W) (was : List Value) (sz : Nat) (hst : ll_st B adr as was) :
    Met l (mN z) (.code (mN z) (mC z) (mL z) (mR z) :: ll_T) { frames := d + 1, cells := σ1.1 - σ.1, slots := σ1.2.1 - σ.2.1, locals := 64 * (d + 1) } (va_Pc was (fun U => U.heap.size = sz ∧ va_K D vwCl [] U ∧ ll_Z U ∧ ll_W B U D (fun _ => True) adr ws σ U.heap)) (ll_Qc B D adr (va_A ws sz) σ1 r) (σ1.1 - σ.1) (σ1.2.1 - σ.2.1) (va_A ws sz) := by
  refine Met.ofW (cc := mC z) (maxL := mL z) (ret := mR z) hm.2.2.1 rfl ?_
  intro p e s m args below meth c s₁ Bd hml hv
  obtain ⟨rfl, hsz, hK, hZ, hW⟩ := hv
  subst hsz
  have hts := atoms_spec (ws := Cond.code (mN z) (mC z) (mL z) (mR z) :: ll_T) Bd.pre
  have hown : s.vm.findClass (mN z).cls = some m.cls := findClass_of_methodNamed Bd.named
  have hlocks := Bd.notSynchronized
  have hl := lv_entry was (n := mL z) (by rw [ll_sl_len hst]; exact hn)
  rw [lg_entry_eq]
  generalize (lg_sl was ++ List.replicate (mL z - (lg_sl was).length) Slot.unset).toArray = mls at hl ⊢
  have hX : ll_X (mC z) (mL z) (mN z).cls (mI z) false L xs B p (headSpec (Cond.code (mN z) (mC z) (mL z) (mR z) :: ll_T) { frames := d + 1, cells := σ1.1 - σ.1, slots := σ1.2.1 - σ.2.1, locals := 64 * (d + 1) }).room s m was.toArray meth c D (va_A ws s.heap.size) := by
    refine ⟨Bd.exec, Bd.bytes, hml, hown, fun w hw => hts w (List.mem_cons_of_mem _ (ll_T_in hw)), hK, fun q hq => Or.inr hq, fun hi => ?_, ?_, ?_, fun h => (by cases h), hZ⟩
    · rw [(name_of_methodNamed Bd.named Bd.method).1]; exact hm.2.2.2.2.2 hi
    · show 1 ≤ d + 1; omega
    · show 64 ≤ 64 * (d + 1); omega
  have hW' : ll_W B s D (va_A ws s.heap.size) adr ws σ s.heap := ⟨hW.1, hW.2.1.self, hW.2.2⟩
  refine hb B p l e _ s m _ below meth c D (va_A ws s.heap.size) _ hX (Nat.le_refl _) (Nat.le_refl _) adr ws mls [] s.heap [] 0 0 hW' va_S.rf (ll_ent_L hst hn hl) trivial (by rw [Nat.zero_add]; exact Nat.le_refl _) (by rw [Nat.zero_add]; exact Nat.le_refl _) ?_
  intro pc' adr' ws' mls' H' locs' hrt hz hW2 hS2
  rw [Nat.zero_add, Nat.zero_add]
  cases r with
  | none =>
    obtain ⟨h1, h2⟩ := hrt
    exact W.vret Bd.exec Bd.bytes (Bd.returns.trans h2) (fun t ht hWm => ⟨⟨(adr', ws'), rfl, trivial, hz, by rw [ht]; exact ll_W_moved hWm.alike hW2⟩, hS2.F ht⟩) hS2.2.2 h1
  | some x =>
    obtain ⟨h1, h2⟩ := hrt
    have hq : ∀ t : State, t.heap = H' → s.WarmedH t.vm → ll_Qc B D adr (va_A ws s.heap.size) σ1 (some x) was.toArray s (.returned (some (.int x))) t := fun t ht hWm => ⟨⟨x, (adr', ws'), rfl, rfl, hz, by rw [ht]; exact ll_W_moved hWm.alike hW2⟩, hS2.F ht⟩
    rcases h2 with h2 | ⟨h2, h3⟩
    · exact W.zret (ty := .int) Bd.exec Bd.bytes (Bd.returns.trans h2) rfl hq hS2.2.2 h1
    · exact W.zret (ty := .boolean) Bd.exec Bd.bytes (Bd.returns.trans h2) (by rcases h3 with rfl | rfl <;> rfl) hq hS2.2.2 h1
theorem ll_good {N : MethodName} {bs : ByteArray} {n : Nat} {r : Option FieldType} (h : ll_tb (.code N bs n r)) : GoodIn ll_T (Cond.code N bs n r :: ll_T) := by
  intro w hw
  rcases List.mem_cons.mp hw with rfl | hw
  · exact ⟨ll_T_in h, good_of_word h.2⟩
  · exact ⟨hw, good_of_word (ll_T_tb hw).2⟩
theorem ll_blind {B : Nat → Prop} {D : va_G} {adr : List Nat} {ws : va_W} {was : List Value} {sz : Nat} {σ : ll_S} : FrameBlind (va_Pc was (fun U => U.heap.size = sz ∧ va_K D vwCl [] U ∧ ll_Z U ∧ ll_W B U D (fun _ => True) adr ws σ U.heap)) := by
  intro a U g mk q
  obtain ⟨q0, q1, q2, q3, q4⟩ := q
  exact ⟨q0, q1, va_K.moved (u := U) (U := U.calling g mk a) (Vm.Alike.refl U.vm) q2, ll_Z_vm (s := U) (U := U.calling g mk a) rfl q3, ll_W_moved (u := U) (U := U.calling g mk a) (Vm.Alike.refl U.vm) q4⟩
theorem ll_okc_spec {ci : Option Nat} {nL k : Nat} {st : List Value} {σ : ll_S} (h : ll_okc ci nL k st σ = true) : k ≤ st.length ∧ (st.drop k).length ≤ 4 ∧ (ll_sl (st.take k).reverse).length ≤ nL ∧ ll_rc ci (st.take k).reverse σ = true := by
  simp only [ll_okc, Bool.and_eq_true, decide_eq_true_eq] at h
  exact h
theorem ll_rc_spec {ci : Nat} {as : List Value} {σ : ll_S} (h : ll_rc (some ci) as σ = true) : ∃ i f rest, as = .ref i :: rest ∧ σ.2.2 i = .inr (.inr (ci, f)) := by
  simp only [ll_rc] at h
  split at h
  · rename_i i rest
    split at h
    · rename_i c' f hc
      have e1 : c' = ci := by simpa using h
      subst e1
      exact ⟨i, f, rest, rfl, hc⟩
    · cases h
  · cases h
/-- a call, whatever its kind -/
theorem ll_call {lwf : Bool} {y z k d pc : Nat} {st : List Value} {σ σ1 : ll_S} {r : Option Int32} (hb : ll_Bd mN mC mL mR mI L xs false d z 0 (ll_ent (mL z) (st.take k).reverse) [] σ r σ1) (hm : ll_M mN mC mL mR mI z) (hok : ll_okc (mK z) (mL z) k st σ = true) (hJ : ll_J (mC y) (mN y).cls pc (mN z) (mK z) (mR z) k)
    {B : Nat → Prop} {p : Program} {l : Launch} {e : Env} {R : Room} {s : State} {m : MethodId} {args : Array Value} {below : List Frame} {meth : Method} {c : Code} {D : va_G} {A : Nat → Prop} {Q : State → Prop} (cx : ll_X (mC y) (mL y) (mN y).cls (mI y) lwf L xs B p R s m args meth c D A) (hfr : d + 2 ≤ R.frames) (hlo : 64 * (d + 2) ≤ R.locals)
    {adr : List Nat} {ws : va_W} {mls : Array Slot} {mst : List Value} {H : Heap} {locs : List Loc} {cells slots : Nat} (hW : ll_W B s D A adr ws σ H) (hS : va_S A s.heap H locs) (hsz : mls.size = mL y) (hst : ll_st B adr st mst) (hc : cells + (σ1.1 - σ.1) ≤ R.cells) (hs : slots + (σ1.2.1 - σ.2.1) ≤ R.slots)
    (kk : ∀ (adr' : List Nat) (ws' : va_W) (mst' : List Value) (H' : Heap) (locs' : List Loc), (∃ z, adr' = adr ++ z) → ll_W B s D A adr' ws' σ1 H' → va_S A s.heap H' locs' → ll_st B adr' ((r.map Value.int).toList ++ st.drop k) mst' → W p l e R s m args below meth c H' locs' (cells + (σ1.1 - σ.1)) (slots + (σ1.2.1 - σ.2.1)) Q (F0 m (pc + 3) mls mst')) :
    W p l e R s m args below meth c H locs cells slots Q (F0 m pc mls mst) := by
  obtain ⟨hk, hd4, hsl, hrc⟩ := ll_okc_spec hok
  obtain ⟨ht1, ht2⟩ := ll_st_take k hst
  have hlen : st.length = mst.length := ll_st_len hst
  have hwas := ll_st_reverse ht1
  have hM := ll_met hb hm hsl l B D adr ws (mst.take k).reverse H.size hwas
  have hA1 : ∀ q, va_A ws H.size q → A q := by
    intro q hq
    rcases hq with ⟨j, e0, hj⟩ | hq
    · exact hW.2.1.2 j _ hj
    · exact cx.2.2.2.2.2.2.1 q (Nat.le_trans hS.1 hq)
  have hroom : (mst.drop k |>.map fun v => v.category).sum ≤ 8 := by
    have := ll_cat ht2
    omega
  have hfix : CallFix p m c (mC y) (mL y) s args ll_T (mN y).cls := ⟨cx.1, cx.2.1, cx.2.2.1, cx.2.2.2.1, ll_hts cx.2.2.2.2.1⟩
  have hwl : (mst.take k).reverse.length = k := by rw [List.length_reverse, List.length_take]; omega
  have hsplit : mst = (mst.take k).reverse.reverse ++ mst.drop k := by rw [List.reverse_reverse, List.take_append_drop]
  have hpre : ∀ U : State, U.heap = H → s.WarmedH U.vm → va_Pc (mst.take k).reverse (fun U => U.heap.size = H.size ∧ va_K D vwCl [] U ∧ ll_Z U ∧ ll_W B U D (fun _ => True) adr ws σ U.heap) (mst.take k).reverse.toArray U := fun U hU hWm => ⟨rfl, by rw [hU], va_K.moved hWm.alike cx.2.2.2.2.2.1, ll_Z_warm hWm cx.2.2.2.2.2.2.2.2.2.2.2, by
    rw [hU]
    have := ll_W_moved hWm.alike hW
    exact ⟨this.1, this.2.1.weaken (fun _ _ _ _ => trivial), this.2.2⟩⟩
  generalize hwe : (mst.take k).reverse = was at hM hwas hwl hsplit hpre
  -- the run
  have hRun : va_Run p l e R s m args below meth c H locs cells slots (σ1.1 - σ.1) (σ1.2.1 - σ.2.1) (F0 m pc mls mst) (mst.drop k) (ll_Qc B D adr (va_A ws H.size) σ1 r was.toArray) (va_A ws H.size) := by
    have hR : d + 1 + 1 ≤ R.frames ∧ 8 + (mL z + 11) + 64 * (d + 1) ≤ R.locals := ⟨by omega, by have := hm.2.2.2.2.1; omega⟩
    rcases hJ with ⟨ix, n, ci, q, j1, j2, j3, j4, j5, j6, j7, j8, j9⟩ | ⟨ix, j1, j2, j3, j4⟩ | ⟨ix, n, ci, j1, j2, j3, j4, j5, j6, j7, hmr⟩
    · rw [j5] at hrc
      obtain ⟨i, f, rest, he, hcell⟩ := ll_rc_spec hrc
      rw [he] at hwas
      obtain ⟨b, As, hbi, rfl, hAs⟩ := ll_st_ref hwas
      obtain ⟨e0, hws, hcr⟩ := ll_W_at hW hbi
      rw [hcell] at hcr
      obtain ⟨fs, rfl, -, -⟩ := hcr
      have hcb := callB_of (own := (mN y).cls) (index := ix) (R := R) n (ll_hts cx.2.2.2.2.1) (ll_good hm.1) rfl rfl rfl (cx.2.2.2.2.1 _ hm.2.1) (cx.2.2.2.2.1 _ j2) ⟨hm.2.2.2.1.1, hm.2.2.2.1.2, j9⟩ (rm := { frames := d + 1, cells := σ1.1 - σ.1, slots := σ1.2.1 - σ.2.1, locals := 64 * (d + 1) }) hR
      refine va_runV (C := (mN z).cls) hfix hM ⟨hcb, cx.2.2.2.2.1 _ j3, cx.2.2.2.2.1 _ j4⟩ ⟨ll_blind, ?_, hpre⟩ rfl (by simp only [List.length_cons] at hwl; omega) hsz ?_ (lv_room hroom) j1 ⟨hc, hs⟩
      · have := va_recv cx.2.2.2.2.2.1 hW.1 j6 hws
        rw [j7] at this
        exact this
      · show mst = _
        rw [List.reverse_cons, List.append_assoc] at hsplit
        exact hsplit
    · have hcb := callB_of (own := (mN y).cls) (index := ix) (R := R) k (ll_hts cx.2.2.2.2.1) (ll_good hm.1) rfl rfl rfl (cx.2.2.2.2.1 _ hm.2.1) (cx.2.2.2.2.1 _ j2) ⟨hm.2.2.2.1.1, hm.2.2.2.1.2, j4⟩ (rm := { frames := d + 1, cells := σ1.1 - σ.1, slots := σ1.2.1 - σ.2.1, locals := 64 * (d + 1) }) hR
      exact va_runS hfix hM ⟨hcb, cx.2.2.2.2.1 _ j3⟩ ⟨ll_blind, hpre⟩ rfl hwl hsz hsplit (lv_room hroom) j1 ⟨hc, hs⟩
    · rw [j5] at hrc
      obtain ⟨i, f, rest, he, hcell⟩ := ll_rc_spec hrc
      rw [he] at hwas
      obtain ⟨b, As, hbi, rfl, hAs⟩ := ll_st_ref hwas
      have hm1 := hm.1
      rw [hmr] at hM hm1
      have hspl : mst = As.reverse ++ .ref b :: mst.drop k := by
        rw [List.reverse_cons, List.append_assoc] at hsplit
        exact hsplit
      rcases j2 with j2 | ⟨host, j2⟩
      · have hcb := callB_of (own := (mN y).cls) (index := ix) (R := R) n (ll_hts cx.2.2.2.2.1) (ll_good hm1) rfl rfl rfl (cx.2.2.2.2.1 _ hm.2.1) (cx.2.2.2.2.1 _ j2) ⟨hm.2.2.2.1.1, hm.2.2.2.1.2, j7⟩ (rm := { frames := d + 1, cells := σ1.1 - σ.1, slots := σ1.2.1 - σ.2.1, locals := 64 * (d + 1) }) hR
        exact va_runI hfix hM ⟨hcb, j4, cx.2.2.2.2.1 _ j3⟩ ⟨ll_blind, hpre⟩ rfl (by simp only [List.length_cons] at hwl; omega) hsz hspl (lv_room hroom) j1 ⟨hc, hs⟩
      · have hnw := cx.2.2.2.2.2.2.2.2.2.2.2.2 _ j2
        have hcb := va_cnB (R := R) (own := (mN y).cls) (host := host) (index := ix) n (ll_hts cx.2.2.2.2.1) (ll_good hm1) rfl rfl rfl hnw (cx.2.2.2.2.1 _ hm.2.1) ⟨hm.2.2.2.1.1, hm.2.2.2.1.2, j7⟩ (rm := { frames := d + 1, cells := σ1.1 - σ.1, slots := σ1.2.1 - σ.2.1, locals := 64 * (d + 1) }) hR
        exact va_runIN hfix hM ⟨hcb, j4, cx.2.2.2.2.1 _ j3⟩ ⟨ll_blind, hpre⟩ rfl (by simp only [List.length_cons] at hwl; omega) hsz hspl (lv_room hroom) j1 ⟨hc, hs⟩
  cases r with
  | none =>
    refine va_callv (a := was.toArray) hRun hS (fun q _ h => hA1 q h) hA1 (fun u t H1 locs1 hth hvm _ hB _ _ hS1 => ?_)
    obtain ⟨⟨zz, hzz⟩, hW1⟩ := hB
    rw [hth] at hW1
    have hW1 := ll_W_moved hvm.symm hW1
    refine kk u.1 u.2 (mst.drop k) H1 locs1 ⟨zz, hzz⟩ ⟨hW1.1, hW1.2.1.weaken (fun _ _ _ h => hA1 _ h), hW1.2.2⟩ hS1 ?_
    rw [hzz]
    exact ll_st_app ht2
  | some x =>
    refine va_calli (a := was.toArray) hRun hS (fun q _ h => hA1 q h) hA1 (fun r2 u t H1 locs1 hth hvm hr2 hB _ _ hS1 => ?_)
    obtain ⟨⟨zz, hzz⟩, hW1⟩ := hB
    rw [hth] at hW1
    have hW1 := ll_W_moved hvm.symm hW1
    refine kk u.1 u.2 (.int r2 :: mst.drop k) H1 locs1 ⟨zz, hzz⟩ ⟨hW1.1, hW1.2.1.weaken (fun _ _ _ h => hA1 _ h), hW1.2.2⟩ hS1 ?_
    rw [hzz, hr2]
    exact ⟨rfl, ll_st_app ht2⟩
theorem ll_ret_spec {t : Nat} {st : List Value} {σ : ll_S} {r : Option Int32} {σ' : ll_S} (h : ll_ret t st σ = some (r, σ')) : σ' = σ ∧ ((st = [] ∧ t = 0 ∧ r = none) ∨ ∃ x, st = [.int x] ∧ r = some x ∧ (t = 1 ∨ (t = 2 ∧ (x = 0 ∨ x = 1)))) := by
  unfold ll_ret at h
  split at h
  · split at h
    · rename_i ht
      cases h
      exact ⟨rfl, Or.inl ⟨rfl, ht, rfl⟩⟩
    · cases h
  · rename_i x
    split at h
    · rename_i ht
      cases h
      exact ⟨rfl, Or.inr ⟨x, rfl, rfl, ht⟩⟩
    · cases h
  · cases h
/-- THE LIGHT RUN IS THE MACHINE'S -/
theorem ll_body (HM : ∀ y, y < cnt → ll_M mN mC mL mR mI y) (HP : ∀ y, y < cnt → ∀ pc o, P y pc = some o → ll_OK mN mC mR mK mI cnt L xs false y pc o) : ∀ (fuel : Nat) (d y : Nat) (lwf : Bool) (pc : Nat) (ls st : List Value) (σ : ll_S) (r : Option Int32) (σ' : ll_S),
    (∀ pc o, P y pc = some o → ll_OK mN mC mR mK mI cnt L xs lwf y pc o) → ll_run P mL mK fuel d y pc ls st σ = some (r, σ') → (σ.1 ≤ σ'.1 ∧ σ.2.1 ≤ σ'.2.1) ∧ ll_Bd mN mC mL mR mI L xs lwf d y pc ls st σ r σ' := by
  intro fuel
  induction fuel with
  | zero => intro d y lwf pc ls st σ r σ' _ h; rw [ll_run] at h; cases h
  | succ n ih =>
    intro d y lwf pc ls st σ r σ' hy h
    rw [ll_run.eq_def] at h
    simp only at h
    cases hP : P y pc with
    | none => rw [hP] at h; cases h
    | some o =>
      rw [hP] at h
      have hO := hy pc o hP
      rcases o with f | q | t
      · simp only at h
        cases hf : f ls st σ with
        | none => rw [hf] at h; cases h
        | some r0 =>
          rw [hf] at h
          obtain ⟨pc1, ls1, st1, σ1⟩ := r0
          obtain ⟨⟨a1, a2⟩, k1⟩ := hO ls st σ pc1 ls1 st1 σ1 hf
          obtain ⟨⟨b1, b2⟩, k2⟩ := ih d y lwf pc1 ls1 st1 σ1 r σ' hy h
          refine ⟨⟨Nat.le_trans a1 b1, Nat.le_trans a2 b2⟩, ?_⟩
          intro B p l e R s m args below meth c D A Q cx hfr hlo adr ws mls mst H locs cells slots hW hS hL hst hc hs kk
          refine k1 B (mL y) p l e R s m args below meth c D A Q cx adr ws mls mst H locs cells slots hW hS hL hst (by omega) (by omega) fun adr' ws' mls' mst' H' locs' hz hW' hS' hL' hst' => ?_
          refine k2 B p l e R s m args below meth c D A Q cx hfr hlo adr' ws' mls' mst' H' locs' _ _ hW' hS' hL' hst' (by omega) (by omega) fun pc' adr2 ws2 mls2 H2 locs2 q1 q2 q3 q4 => ?_
          have e1 : cells + (σ1.1 - σ.1) + (σ'.1 - σ1.1) = cells + (σ'.1 - σ.1) := by omega
          have e2 : slots + (σ1.2.1 - σ.2.1) + (σ'.2.1 - σ1.2.1) = slots + (σ'.2.1 - σ.2.1) := by omega
          rw [e1, e2]
          obtain ⟨z1, rfl⟩ := hz
          obtain ⟨z2, rfl⟩ := q2
          exact kk pc' _ ws2 mls2 H2 locs2 q1 ⟨z1 ++ z2, by rw [List.append_assoc]⟩ q3 q4
      · obtain ⟨z, k, n'⟩ := q
        simp only at h
        obtain ⟨rfl, hzc, hJ⟩ := hO
        cases d with
        | zero => cases h
        | succ d' =>
          simp only at h
          split at h
          · rename_i hok
            cases hr : ll_run P mL mK n d' z 0 (ll_ent (mL z) (st.take k).reverse) [] σ with
            | none => rw [hr] at h; cases h
            | some q1 =>
              rw [hr] at h
              obtain ⟨r1, σ1⟩ := q1
              obtain ⟨⟨a1, a2⟩, k1⟩ := ih d' z false 0 _ [] σ r1 σ1 (HP z hzc) hr
              obtain ⟨⟨b1, b2⟩, k2⟩ := ih (d' + 1) y lwf (pc + 3) ls _ σ1 r σ' hy h
              refine ⟨⟨Nat.le_trans a1 b1, Nat.le_trans a2 b2⟩, ?_⟩
              intro B p l e R s m args below meth c D A Q cx hfr hlo adr ws mls mst H locs cells slots hW hS hL hst hc hs kk
              refine ll_call k1 (HM z hzc) hok hJ cx hfr hlo hW hS (by obtain ⟨-, lv, q, -⟩ := hL; exact q.1) hst (by omega) (by omega) fun adr' ws' mst' H' locs' hz hW' hS' hst' => ?_
              obtain ⟨z1, rfl⟩ := hz
              refine k2 B p l e R s m args below meth c D A Q cx hfr hlo _ ws' mls mst' H' locs' _ _ hW' hS' (ll_L_app hL) hst' (by omega) (by omega) fun pc' adr2 ws2 mls2 H2 locs2 q1 q2 q3 q4 => ?_
              have e1 : cells + (σ1.1 - σ.1) + (σ'.1 - σ1.1) = cells + (σ'.1 - σ.1) := by omega
              have e2 : slots + (σ1.2.1 - σ.2.1) + (σ'.2.1 - σ1.2.1) = slots + (σ'.2.1 - σ.2.1) := by omega
              rw [e1, e2]
              obtain ⟨z2, rfl⟩ := q2
              exact kk pc' _ ws2 mls2 H2 locs2 q1 ⟨z1 ++ z2, by rw [List.append_assoc]⟩ q3 q4
          · cases h
      · simp only at h
        obtain ⟨rfl, hc⟩ := ll_ret_spec h
        refine ⟨⟨Nat.le_refl _, Nat.le_refl _⟩, ?_⟩
        intro B p l e R s m args below meth c D A Q cx hfr hlo adr ws mls mst H locs cells slots hW hS hL hst _ _ kk
        rcases hc with ⟨rfl, rfl, rfl⟩ | ⟨x, rfl, rfl, ht⟩
        · cases mst with
          | cons w b => exact hst.elim
          | nil =>
            have := kk pc adr ws mls H locs (hO.1 rfl) ⟨[], by simp⟩ hW hS
            rw [Nat.sub_self, Nat.sub_self] at this
            exact this
        · obtain ⟨m1, rfl, h1⟩ := ll_st_int hst
          cases m1 with
          | cons w b => exact h1.elim
          | nil =>
            have hrt : ll_rt mC mR y pc (some x) := by
              rcases ht with rfl | ⟨rfl, hx⟩
              · exact ⟨(hO.2.1 rfl).1, Or.inl (hO.2.1 rfl).2⟩
              · exact ⟨(hO.2.2 rfl).1, Or.inr ⟨(hO.2.2 rfl).2, hx⟩⟩
            have := kk pc adr ws mls H locs hrt ⟨[], by simp⟩ hW hS
            rw [Nat.sub_self, Nat.sub_self] at this
            exact this
end LB
end
section
/-! THE WORDS OF THE TABLES that the instructions need, by their places (written by wip/whole/gen.py) -/
theorem ll_pl0 {w : Cond} (i : Nat) (hi : (k2_sels lw_privs)[i]? = some w) (h : goodWord w = true) : ll_tb w := ⟨List.mem_append_left _ (List.mem_of_getElem? hi), h⟩
theorem ll_pl1 {w : Cond} (i : Nat) (hi : tables_1_1[i]? = some w) (h : goodWord w = true) : ll_tb w := ⟨List.mem_append_right _ (List.mem_append_left _ (List.mem_of_getElem? hi)), h⟩
theorem ll_pl2 {w : Cond} (i : Nat) (hi : tables_1_2[i]? = some w) (h : goodWord w = true) : ll_tb w := ⟨List.mem_append_right _ (List.mem_append_right _ (List.mem_append_left _ (List.mem_of_getElem? hi))), h⟩
theorem ll_pl3 {w : Cond} (i : Nat) (hi : tables_1_3[i]? = some w) (h : goodWord w = true) : ll_tb w := ⟨List.mem_append_right _ (List.mem_append_right _ (List.mem_append_right _ (List.mem_append_left _ (List.mem_of_getElem? hi)))), h⟩
theorem ll_pl4 {w : Cond} (i : Nat) (hi : tables_1_4[i]? = some w) (h : goodWord w = true) : ll_tb w := ⟨List.mem_append_right _ (List.mem_append_right _ (List.mem_append_right _ (List.mem_append_right _ (List.mem_append_left _ (List.mem_of_getElem? hi))))), h⟩
theorem ll_pl5 {w : Cond} (i : Nat) (hi : tables_1_5[i]? = some w) (h : goodWord w = true) : ll_tb w := ⟨List.mem_append_right _ (List.mem_append_right _ (List.mem_append_right _ (List.mem_append_right _ (List.mem_append_right _ (List.mem_append_left _ (List.mem_of_getElem? hi)))))), h⟩
theorem ll_pl6 {w : Cond} (i : Nat) (hi : tables_1_6[i]? = some w) (h : goodWord w = true) : ll_tb w := ⟨List.mem_append_right _ (List.mem_append_right _ (List.mem_append_right _ (List.mem_append_right _ (List.mem_append_right _ (List.mem_append_right _ (List.mem_append_left _ (List.mem_of_getElem? hi))))))), h⟩
theorem ll_pl7 {w : Cond} (i : Nat) (hi : tables_1_7[i]? = some w) (h : goodWord w = true) : ll_tb w := ⟨List.mem_append_right _ (List.mem_append_right _ (List.mem_append_right _ (List.mem_append_right _ (List.mem_append_right _ (List.mem_append_right _ (List.mem_append_right _ ((List.mem_of_getElem? hi)))))))), h⟩
theorem tb_0 : ll_tb (.methodLink RX0 3 Lib.objectInit) := ll_pl2 59 (by rfl) rfl
theorem tb_1 : ll_tb (.instanceMethod Lib.objectInit) := ll_pl1 22 (by rfl) rfl
theorem tb_2 : ll_tb (.code Lib.objectInit ⟨#[0xb1]⟩ 1 none) := ll_pl1 23 (by rfl) rfl
theorem tb_3 : ll_tb (.fieldLink RX0 9 (TX0 3).1 (TX0 3).2.1 (TX0 3).2.2.1) := ll_pl2 63 (by rfl) rfl
theorem tb_4 : ll_tb (.fieldLink RX0 15 (TX0 5).1 (TX0 5).2.1 (TX0 5).2.2.1) := ll_pl2 67 (by rfl) rfl
theorem tb_5 : ll_tb (.fieldLink RX0 18 (TX0 6).1 (TX0 6).2.1 (TX0 6).2.2.1) := ll_pl2 69 (by rfl) rfl
theorem tb_6 : ll_tb (.fieldLink RX0 21 (TX0 0).1 (TX0 0).2.1 (TX0 0).2.2.1) := ll_pl2 60 (by rfl) rfl
theorem tb_7 : ll_tb (.fieldLink RX0 25 (TX0 1).1 (TX0 1).2.1 (TX0 1).2.2.1) := ll_pl2 61 (by rfl) rfl
theorem tb_8 : ll_tb (.fieldLink RX0 28 (TX0 2).1 (TX0 2).2.1 (TX0 2).2.2.1) := ll_pl2 62 (by rfl) rfl
theorem tb_9 : ll_tb (.fieldLink RX0 32 (TX0 4).1 (TX0 4).2.1 (TX0 4).2.2.1) := ll_pl2 65 (by rfl) rfl
theorem tb_10 : ll_tb (.fieldLink RX0 35 (TX1 8).1 (TX1 8).2.1 (TX1 8).2.2.1) := ll_pl1 221 (by rfl) rfl
theorem tb_11 : ll_tb (.methodLink RX0 40 yX0_reasonOf) := ll_pl4 226 (by rfl) rfl
theorem tb_12 : ll_tb (.instanceMethod yX0_reasonOf) := ll_pl4 228 (by rfl) rfl
theorem tb_13 : ll_tb (.selects RX0 yX0_reasonOf yX0_reasonOf) := ll_pl0 38 (by rfl) rfl
theorem tb_14 : ll_tb (.methodLink RX0 44 yX0_startsWell) := ll_pl5 18 (by rfl) rfl
theorem tb_15 : ll_tb (.instanceMethod yX0_startsWell) := ll_pl5 20 (by rfl) rfl
theorem tb_16 : ll_tb (.selects RX0 yX0_startsWell yX0_startsWell) := ll_pl0 43 (by rfl) rfl
theorem tb_17 : ll_tb (.fieldLink RX0 48 (TX1 0).1 (TX1 0).2.1 (TX1 0).2.2.1) := ll_pl1 199 (by rfl) rfl
theorem tb_18 : ll_tb (.fieldLink RX0 52 (TX1 1).1 (TX1 1).2.1 (TX1 1).2.2.1) := ll_pl1 203 (by rfl) rfl
theorem tb_19 : ll_tb (.fieldLink RX0 55 (TX1 2).1 (TX1 2).2.1 (TX1 2).2.2.1) := ll_pl1 207 (by rfl) rfl
theorem tb_20 : ll_tb (.methodLink RX0 58 yX5_isTerm) := ll_pl4 230 (by rfl) rfl
theorem tb_21 : ll_tb (.instanceMethod yX5_isTerm) := ll_pl3 238 (by rfl) rfl
theorem tb_22 : ll_tb (.selects RX5 yX5_isTerm yX5_isTerm) := ll_pl3 239 (by rfl) rfl
theorem tb_23 : ll_tb (.methodLink RX0 64 yX5_isSet) := ll_pl4 231 (by rfl) rfl
theorem tb_24 : ll_tb (.instanceMethod yX5_isSet) := ll_pl4 232 (by rfl) rfl
theorem tb_25 : ll_tb (.selects RX5 yX5_isSet yX5_isSet) := ll_pl4 233 (by rfl) rfl
theorem tb_26 : ll_tb (.methodLink RX0 67 yX0_isMember) := ll_pl4 235 (by rfl) rfl
theorem tb_27 : ll_tb (.instanceMethod yX0_isMember) := ll_pl4 237 (by rfl) rfl
theorem tb_28 : ll_tb (.selects RX0 yX0_isMember yX0_isMember) := ll_pl0 39 (by rfl) rfl
theorem tb_29 : ll_tb (.methodLink RX0 71 yX5_anyFull) := ll_pl5 0 (by rfl) rfl
theorem tb_30 : ll_tb (.instanceMethod yX5_anyFull) := ll_pl3 220 (by rfl) rfl
theorem tb_31 : ll_tb (.selects RX5 yX5_anyFull yX5_anyFull) := ll_pl3 221 (by rfl) rfl
theorem tb_32 : ll_tb (.methodLink RX0 74 yX0_premisesAreLines) := ll_pl5 1 (by rfl) rfl
theorem tb_33 : ll_tb (.instanceMethod yX0_premisesAreLines) := ll_pl5 3 (by rfl) rfl
theorem tb_34 : ll_tb (.selects RX0 yX0_premisesAreLines yX0_premisesAreLines) := ll_pl0 40 (by rfl) rfl
theorem tb_35 : ll_tb (.methodLink RX0 77 yX0_partsAreProved) := ll_pl5 7 (by rfl) rfl
theorem tb_36 : ll_tb (.instanceMethod yX0_partsAreProved) := ll_pl5 9 (by rfl) rfl
theorem tb_37 : ll_tb (.selects RX0 yX0_partsAreProved yX0_partsAreProved) := ll_pl0 41 (by rfl) rfl
theorem tb_38 : ll_tb (.methodLink RX0 81 yX5_alikeTerm) := ll_pl4 239 (by rfl) rfl
theorem tb_39 : ll_tb (.instanceMethod yX5_alikeTerm) := ll_pl4 28 (by rfl) rfl
theorem tb_40 : ll_tb (.selects RX5 yX5_alikeTerm yX5_alikeTerm) := ll_pl4 29 (by rfl) rfl
theorem tb_41 : ll_tb (.fieldLink RX0 85 (TX1 4).1 (TX1 4).2.1 (TX1 4).2.2.1) := ll_pl1 212 (by rfl) rfl
theorem tb_42 : ll_tb (.methodLink RX0 88 yX1_premiseOf) := ll_pl5 5 (by rfl) rfl
theorem tb_43 : ll_tb (.instanceMethod yX1_premiseOf) := ll_pl4 199 (by rfl) rfl
theorem tb_44 : ll_tb (.selects RX1 yX1_premiseOf yX1_premiseOf) := ll_pl4 200 (by rfl) rfl
theorem tb_45 : ll_tb (.methodLink RX0 92 yX1_isLine) := ll_pl5 6 (by rfl) rfl
theorem tb_46 : ll_tb (.instanceMethod yX1_isLine) := ll_pl4 186 (by rfl) rfl
theorem tb_47 : ll_tb (.selects RX1 yX1_isLine yX1_isLine) := ll_pl4 187 (by rfl) rfl
theorem tb_48 : ll_tb (.methodLink RX0 95 yX5_partsOfSet) := ll_pl5 11 (by rfl) rfl
theorem tb_49 : ll_tb (.instanceMethod yX5_partsOfSet) := ll_pl4 44 (by rfl) rfl
theorem tb_50 : ll_tb (.selects RX5 yX5_partsOfSet yX5_partsOfSet) := ll_pl4 45 (by rfl) rfl
theorem tb_51 : ll_tb (.methodLink RX0 98 yX5_partsOf) := ll_pl5 12 (by rfl) rfl
theorem tb_52 : ll_tb (.instanceMethod yX5_partsOf) := ll_pl4 148 (by rfl) rfl
theorem tb_53 : ll_tb (.selects RX5 yX5_partsOf yX5_partsOf) := ll_pl4 149 (by rfl) rfl
theorem tb_54 : ll_tb (.methodLink RX0 101 yX5_partOf) := ll_pl5 13 (by rfl) rfl
theorem tb_55 : ll_tb (.instanceMethod yX5_partOf) := ll_pl4 152 (by rfl) rfl
theorem tb_56 : ll_tb (.selects RX5 yX5_partOf yX5_partOf) := ll_pl4 153 (by rfl) rfl
theorem tb_57 : ll_tb (.methodLink RX0 105 yX0_hasPremiseFor) := ll_pl5 14 (by rfl) rfl
theorem tb_58 : ll_tb (.instanceMethod yX0_hasPremiseFor) := ll_pl5 16 (by rfl) rfl
theorem tb_59 : ll_tb (.selects RX0 yX0_hasPremiseFor yX0_hasPremiseFor) := ll_pl0 42 (by rfl) rfl
theorem tb_60 : ll_tb (.methodLink RX1 3 Lib.objectInit) := ll_pl1 194 (by rfl) rfl
theorem tb_61 : ll_tb (.arrayClass .int) := ll_pl1 61 (by rfl) rfl
theorem tb_62 : ll_tb (.fieldLink RX1 9 (TX1 0).1 (TX1 0).2.1 (TX1 0).2.2.1) := ll_pl1 197 (by rfl) rfl
theorem tb_63 : ll_tb (.fieldLink RX1 15 (TX1 1).1 (TX1 1).2.1 (TX1 1).2.2.1) := ll_pl1 201 (by rfl) rfl
theorem tb_64 : ll_tb (.fieldLink RX1 18 (TX1 2).1 (TX1 2).2.1 (TX1 2).2.2.1) := ll_pl1 205 (by rfl) rfl
theorem tb_65 : ll_tb (.fieldLink RX1 21 (TX1 3).1 (TX1 3).2.1 (TX1 3).2.2.1) := ll_pl1 209 (by rfl) rfl
theorem tb_66 : ll_tb (.fieldLink RX1 24 (TX1 4).1 (TX1 4).2.1 (TX1 4).2.2.1) := ll_pl1 211 (by rfl) rfl
theorem tb_67 : ll_tb (.fieldLink RX1 27 (TX1 5).1 (TX1 5).2.1 (TX1 5).2.2.1) := ll_pl1 214 (by rfl) rfl
theorem tb_68 : ll_tb (.classLink RX1 30 RX7) := ll_pl1 195 (by rfl) rfl
theorem tb_69 : ll_tb (.instantiable RX7 2) := ll_pl1 63 (by rfl) rfl
theorem tb_70 : ll_tb (.initialized RX7) := ll_pl1 3 (by rfl) rfl
theorem tb_71 : ll_tb (.methodLink RX1 32 yX7_init) := ll_pl1 196 (by rfl) rfl
theorem tb_72 : ll_tb (.instanceMethod yX7_init) := ll_pl1 65 (by rfl) rfl
theorem tb_73 : ll_tb (.fieldLink RX1 35 (TX1 6).1 (TX1 6).2.1 (TX1 6).2.2.1) := ll_pl1 216 (by rfl) rfl
theorem tb_74 : ll_tb (.fieldLink RX1 39 (TX1 7).1 (TX1 7).2.1 (TX1 7).2.2.1) := ll_pl1 219 (by rfl) rfl
theorem tb_75 : ll_tb (.fieldLink RX1 42 (TX1 8).1 (TX1 8).2.1 (TX1 8).2.2.1) := ll_pl1 220 (by rfl) rfl
theorem tb_76 : ll_tb (.fieldLink RX1 46 (TX1 9).1 (TX1 9).2.1 (TX1 9).2.2.1) := ll_pl1 224 (by rfl) rfl
theorem tb_77 : ll_tb (.fieldLink RX1 49 (TX1 10).1 (TX1 10).2.1 (TX1 10).2.2.1) := ll_pl1 226 (by rfl) rfl
theorem tb_78 : ll_tb (.fieldLink RX1 52 (TX1 11).1 (TX1 11).2.1 (TX1 11).2.2.1) := ll_pl1 229 (by rfl) rfl
theorem tb_79 : ll_tb (.methodLink RX1 56 yX7_clear) := ll_pl3 180 (by rfl) rfl
theorem tb_80 : ll_tb (.instanceMethod yX7_clear) := ll_pl2 158 (by rfl) rfl
theorem tb_81 : ll_tb (.selects RX7 yX7_clear yX7_clear) := ll_pl2 159 (by rfl) rfl
theorem tb_82 : ll_tb (.methodLink RX1 59 yX1_isLine) := ll_pl4 185 (by rfl) rfl
theorem tb_83 : ll_tb (.methodLink RX1 63 yX1_dropPremises) := ll_pl4 217 (by rfl) rfl
theorem tb_84 : ll_tb (.instanceMethod yX1_dropPremises) := ll_pl4 165 (by rfl) rfl
theorem tb_85 : ll_tb (.selects RX1 yX1_dropPremises yX1_dropPremises) := ll_pl4 166 (by rfl) rfl
theorem tb_86 : ll_tb (.methodLink RX1 66 yJ7_fill_53178) := ll_pl4 184 (by rfl) rfl
theorem tb_87 : ll_tb (.static yJ7_fill_53178) := ll_pl4 63 (by rfl) rfl
theorem tb_88 : ll_tb (.methodLink RX1 72 yX7_become) := ll_pl5 51 (by rfl) rfl
theorem tb_89 : ll_tb (.instanceMethod yX7_become) := ll_pl3 14 (by rfl) rfl
theorem tb_90 : ll_tb (.selects RX7 yX7_become yX7_become) := ll_pl3 15 (by rfl) rfl
theorem tb_91 : ll_tb (.methodLink RX1 76 arraycopyName) := ll_pl5 52 (by rfl) rfl
theorem tb_92 : ll_tb (.native arraycopyName) := ll_pl3 27 (by rfl) rfl
theorem tb_93 : ll_tb (.static arraycopyName) := ll_pl3 26 (by rfl) rfl
theorem tb_94 : ll_tb (.initialized "java/lang/System") := ll_pl1 13 (by rfl) rfl
theorem tb_95 : ll_tb (.methodLink RX2 3 Lib.objectInit) := ll_pl1 86 (by rfl) rfl
theorem tb_96 : ll_tb (.fieldLink RX2 9 (TX2 4).1 (TX2 4).2.1 (TX2 4).2.2.1) := ll_pl1 91 (by rfl) rfl
theorem tb_97 : ll_tb (.fieldLink RX2 15 (TX2 0).1 (TX2 0).2.1 (TX2 0).2.2.1) := ll_pl1 87 (by rfl) rfl
theorem tb_98 : ll_tb (.fieldLink RX2 19 (TX2 1).1 (TX2 1).2.1 (TX2 1).2.2.1) := ll_pl1 88 (by rfl) rfl
theorem tb_99 : ll_tb (.fieldLink RX2 23 (TX2 2).1 (TX2 2).2.1 (TX2 2).2.2.1) := ll_pl1 89 (by rfl) rfl
theorem tb_100 : ll_tb (.fieldLink RX2 26 (TX2 3).1 (TX2 3).2.1 (TX2 3).2.2.1) := ll_pl1 90 (by rfl) rfl
theorem tb_101 : ll_tb (.methodLink RX2 29 yX8_clear) := ll_pl3 86 (by rfl) rfl
theorem tb_102 : ll_tb (.instanceMethod yX8_clear) := ll_pl3 87 (by rfl) rfl
theorem tb_103 : ll_tb (.selects RX8 yX8_clear yX8_clear) := ll_pl3 88 (by rfl) rfl
theorem tb_104 : ll_tb (.methodLink RX2 34 yX2_readSum) := ll_pl3 90 (by rfl) rfl
theorem tb_105 : ll_tb (.instanceMethod yX2_readSum) := ll_pl3 92 (by rfl) rfl
theorem tb_106 : ll_tb (.selects RX2 yX2_readSum yX2_readSum) := ll_pl0 10 (by rfl) rfl
theorem tb_107 : ll_tb (.methodLink RX2 38 yX2_next) := ll_pl3 110 (by rfl) rfl
theorem tb_108 : ll_tb (.instanceMethod yX2_next) := ll_pl3 112 (by rfl) rfl
theorem tb_109 : ll_tb (.selects RX2 yX2_next yX2_next) := ll_pl0 14 (by rfl) rfl
theorem tb_110 : ll_tb (.methodLink RX2 42 yX8_mark) := ll_pl3 94 (by rfl) rfl
theorem tb_111 : ll_tb (.instanceMethod yX8_mark) := ll_pl3 95 (by rfl) rfl
theorem tb_112 : ll_tb (.selects RX8 yX8_mark yX8_mark) := ll_pl3 96 (by rfl) rfl
theorem tb_113 : ll_tb (.methodLink RX2 45 yX2_readProduct) := ll_pl3 98 (by rfl) rfl
theorem tb_114 : ll_tb (.instanceMethod yX2_readProduct) := ll_pl3 100 (by rfl) rfl
theorem tb_115 : ll_tb (.selects RX2 yX2_readProduct yX2_readProduct) := ll_pl0 11 (by rfl) rfl
theorem tb_116 : ll_tb (.methodLink RX2 48 yX8_addSummand) := ll_pl3 155 (by rfl) rfl
theorem tb_117 : ll_tb (.instanceMethod yX8_addSummand) := ll_pl3 156 (by rfl) rfl
theorem tb_118 : ll_tb (.selects RX8 yX8_addSummand yX8_addSummand) := ll_pl3 157 (by rfl) rfl
theorem tb_119 : ll_tb (.methodLink RX2 52 yX8_closeSum) := ll_pl3 163 (by rfl) rfl
theorem tb_120 : ll_tb (.instanceMethod yX8_closeSum) := ll_pl3 164 (by rfl) rfl
theorem tb_121 : ll_tb (.selects RX8 yX8_closeSum yX8_closeSum) := ll_pl3 165 (by rfl) rfl
theorem tb_122 : ll_tb (.methodLink RX2 55 yX2_readFactor) := ll_pl3 102 (by rfl) rfl
theorem tb_123 : ll_tb (.instanceMethod yX2_readFactor) := ll_pl3 104 (by rfl) rfl
theorem tb_124 : ll_tb (.selects RX2 yX2_readFactor yX2_readFactor) := ll_pl0 12 (by rfl) rfl
theorem tb_125 : ll_tb (.methodLink RX2 58 yX8_addFactor) := ll_pl3 143 (by rfl) rfl
theorem tb_126 : ll_tb (.instanceMethod yX8_addFactor) := ll_pl3 144 (by rfl) rfl
theorem tb_127 : ll_tb (.selects RX8 yX8_addFactor yX8_addFactor) := ll_pl3 145 (by rfl) rfl
theorem tb_128 : ll_tb (.methodLink RX2 62 yX2_beginsAtom) := ll_pl3 118 (by rfl) rfl
theorem tb_129 : ll_tb (.static yX2_beginsAtom) := ll_pl3 119 (by rfl) rfl
theorem tb_130 : ll_tb (.methodLink RX2 66 yX8_closeProduct) := ll_pl3 147 (by rfl) rfl
theorem tb_131 : ll_tb (.instanceMethod yX8_closeProduct) := ll_pl3 148 (by rfl) rfl
theorem tb_132 : ll_tb (.selects RX8 yX8_closeProduct yX8_closeProduct) := ll_pl3 149 (by rfl) rfl
theorem tb_133 : ll_tb (.methodLink RX2 69 yX2_readAtom) := ll_pl3 106 (by rfl) rfl
theorem tb_134 : ll_tb (.instanceMethod yX2_readAtom) := ll_pl3 108 (by rfl) rfl
theorem tb_135 : ll_tb (.selects RX2 yX2_readAtom yX2_readAtom) := ll_pl0 13 (by rfl) rfl
theorem tb_136 : ll_tb (.methodLink RX2 72 yX8_starOf) := ll_pl3 121 (by rfl) rfl
theorem tb_137 : ll_tb (.instanceMethod yX8_starOf) := ll_pl3 122 (by rfl) rfl
theorem tb_138 : ll_tb (.selects RX8 yX8_starOf yX8_starOf) := ll_pl3 123 (by rfl) rfl
theorem tb_139 : ll_tb (.methodLink RX2 75 yX7_at) := ll_pl3 114 (by rfl) rfl
theorem tb_140 : ll_tb (.instanceMethod yX7_at) := ll_pl3 115 (by rfl) rfl
theorem tb_141 : ll_tb (.selects RX7 yX7_at yX7_at) := ll_pl3 116 (by rfl) rfl
theorem tb_142 : ll_tb (.methodLink RX3 3 Lib.objectInit) := ll_pl2 119 (by rfl) rfl
theorem tb_143 : ll_tb (.classLink RX3 9 RX7) := ll_pl2 120 (by rfl) rfl
theorem tb_144 : ll_tb (.methodLink RX3 11 yX7_init) := ll_pl2 121 (by rfl) rfl
theorem tb_145 : ll_tb (.fieldLink RX3 14 (TX3 0).1 (TX3 0).2.1 (TX3 0).2.2.1) := ll_pl2 127 (by rfl) rfl
theorem tb_146 : ll_tb (.classLink RX3 20 (ll_cn 5)) := ll_pl2 122 (by rfl) rfl
theorem tb_147 : ll_tb (.classLink RX3 20 RX5) := ll_pl2 122 (by rfl) rfl
theorem tb_148 : ll_tb (.instantiable RX5 11) := ll_pl1 139 (by rfl) rfl
theorem tb_149 : ll_tb (.initialized RX5) := ll_pl1 7 (by rfl) rfl
theorem tb_150 : ll_tb (.instanceMethod yX5_init) := ll_pl1 141 (by rfl) rfl
theorem tb_151 : ll_tb (.fieldLink RX3 23 (TX3 1).1 (TX3 1).2.1 (TX3 1).2.2.1) := ll_pl2 129 (by rfl) rfl
theorem tb_152 : ll_tb (.classLink RX3 9 (ll_cn 7)) := ll_pl2 120 (by rfl) rfl
theorem tb_153 : ll_tb (.fieldLink RX3 27 (TX3 2).1 (TX3 2).2.1 (TX3 2).2.2.1) := ll_pl2 131 (by rfl) rfl
theorem tb_154 : ll_tb (.classLink RX3 31 RX1) := ll_pl2 125 (by rfl) rfl
theorem tb_155 : ll_tb (.instantiable RX1 12) := ll_pl1 190 (by rfl) rfl
theorem tb_156 : ll_tb (.initialized RX1) := ll_pl1 8 (by rfl) rfl
theorem tb_157 : ll_tb (.instanceMethod yX1_init) := ll_pl1 192 (by rfl) rfl
theorem tb_158 : ll_tb (.fieldLink RX3 34 (TX3 3).1 (TX3 3).2.1 (TX3 3).2.2.1) := ll_pl2 133 (by rfl) rfl
theorem tb_159 : ll_tb (.fieldLink RX3 38 (TX3 4).1 (TX3 4).2.1 (TX3 4).2.2.1) := ll_pl2 135 (by rfl) rfl
theorem tb_160 : ll_tb (.methodLink RX3 42 yX7_become) := ll_pl5 46 (by rfl) rfl
theorem tb_161 : ll_tb (.methodLink RX3 46 yX1_become) := ll_pl5 47 (by rfl) rfl
theorem tb_162 : ll_tb (.instanceMethod yX1_become) := ll_pl5 48 (by rfl) rfl
theorem tb_163 : ll_tb (.selects RX1 yX1_become yX1_become) := ll_pl5 49 (by rfl) rfl
theorem tb_164 : ll_tb (.methodLink RX3 49 yX5_become) := ll_pl5 53 (by rfl) rfl
theorem tb_165 : ll_tb (.instanceMethod yX5_become) := ll_pl5 54 (by rfl) rfl
theorem tb_166 : ll_tb (.selects RX5 yX5_become yX5_become) := ll_pl5 55 (by rfl) rfl
theorem tb_167 : ll_tb (.methodLink RX4 3 Lib.objectInit) := ll_pl2 22 (by rfl) rfl
theorem tb_168 : ll_tb (.fieldLink RX4 9 (TX4 0).1 (TX4 0).2.1 (TX4 0).2.2.1) := ll_pl2 23 (by rfl) rfl
theorem tb_169 : ll_tb (.fieldLink RX4 15 (TX4 1).1 (TX4 1).2.1 (TX4 1).2.2.1) := ll_pl2 24 (by rfl) rfl
theorem tb_170 : ll_tb (.fieldLink RX4 18 (TX4 2).1 (TX4 2).2.1 (TX4 2).2.2.1) := ll_pl2 25 (by rfl) rfl
theorem tb_171 : ll_tb (.fieldLink RX4 21 (TX4 3).1 (TX4 3).2.1 (TX4 3).2.2.1) := ll_pl2 26 (by rfl) rfl
theorem tb_172 : ll_tb (.fieldLink RX4 24 (TX4 4).1 (TX4 4).2.1 (TX4 4).2.2.1) := ll_pl2 27 (by rfl) rfl
theorem tb_173 : ll_tb (.fieldLink RX4 27 (TX4 5).1 (TX4 5).2.1 (TX4 5).2.2.1) := ll_pl2 28 (by rfl) rfl
theorem tb_174 : ll_tb (.fieldLink RX4 30 (TX4 6).1 (TX4 6).2.1 (TX4 6).2.2.1) := ll_pl2 29 (by rfl) rfl
theorem tb_175 : ll_tb (.fieldLink RX4 33 (TX4 7).1 (TX4 7).2.1 (TX4 7).2.2.1) := ll_pl2 30 (by rfl) rfl
theorem tb_176 : ll_tb (.fieldLink RX4 37 (TX4 8).1 (TX4 8).2.1 (TX4 8).2.2.1) := ll_pl2 31 (by rfl) rfl
theorem tb_177 : ll_tb (.fieldLink RX4 40 (TX4 9).1 (TX4 9).2.1 (TX4 9).2.2.1) := ll_pl2 32 (by rfl) rfl
theorem tb_178 : ll_tb (.methodLink RX4 44 yX1_clear) := ll_pl4 113 (by rfl) rfl
theorem tb_179 : ll_tb (.instanceMethod yX1_clear) := ll_pl3 177 (by rfl) rfl
theorem tb_180 : ll_tb (.selects RX1 yX1_clear yX1_clear) := ll_pl3 178 (by rfl) rfl
theorem tb_181 : ll_tb (.fieldLink RX4 49 (TX5 6).1 (TX5 6).2.1 (TX5 6).2.2.1) := ll_pl1 156 (by rfl) rfl
theorem tb_182 : ll_tb (.methodLink RX4 55 yX5_alikeTerm) := ll_pl4 114 (by rfl) rfl
theorem tb_183 : ll_tb (.methodLink RX4 59 yX4_comeTo) := ll_pl4 115 (by rfl) rfl
theorem tb_184 : ll_tb (.instanceMethod yX4_comeTo) := ll_pl4 117 (by rfl) rfl
theorem tb_185 : ll_tb (.selects RX4 yX4_comeTo yX4_comeTo) := ll_pl0 33 (by rfl) rfl
theorem tb_186 : ll_tb (.fieldLink RX4 63 (TX1 8).1 (TX1 8).2.1 (TX1 8).2.2.1) := ll_pl1 222 (by rfl) rfl
theorem tb_187 : ll_tb (.methodLink RX4 66 yX4_takeTurn) := ll_pl4 124 (by rfl) rfl
theorem tb_188 : ll_tb (.instanceMethod yX4_takeTurn) := ll_pl4 126 (by rfl) rfl
theorem tb_189 : ll_tb (.selects RX4 yX4_takeTurn yX4_takeTurn) := ll_pl0 34 (by rfl) rfl
theorem tb_190 : ll_tb (.fieldLink RX4 70 (TX1 0).1 (TX1 0).2.1 (TX1 0).2.2.1) := ll_pl1 198 (by rfl) rfl
theorem tb_191 : ll_tb (.fieldLink RX4 73 (TX1 1).1 (TX1 1).2.1 (TX1 1).2.2.1) := ll_pl1 202 (by rfl) rfl
theorem tb_192 : ll_tb (.fieldLink RX4 76 (TX1 2).1 (TX1 2).2.1 (TX1 2).2.2.1) := ll_pl1 206 (by rfl) rfl
theorem tb_193 : ll_tb (.methodLink RX4 79 yX5_anyFull) := ll_pl4 128 (by rfl) rfl
theorem tb_194 : ll_tb (.methodLink RX4 83 yX4_tellApart) := ll_pl4 129 (by rfl) rfl
theorem tb_195 : ll_tb (.instanceMethod yX4_tellApart) := ll_pl4 131 (by rfl) rfl
theorem tb_196 : ll_tb (.selects RX4 yX4_tellApart yX4_tellApart) := ll_pl0 35 (by rfl) rfl
theorem tb_197 : ll_tb (.methodLink RX4 87 yX4_step) := ll_pl4 138 (by rfl) rfl
theorem tb_198 : ll_tb (.instanceMethod yX4_step) := ll_pl4 140 (by rfl) rfl
theorem tb_199 : ll_tb (.selects RX4 yX4_step yX4_step) := ll_pl0 36 (by rfl) rfl
theorem tb_200 : ll_tb (.methodLink RX4 91 yX1_dropPremises) := ll_pl4 164 (by rfl) rfl
theorem tb_201 : ll_tb (.methodLink RX4 94 yX1_openPremises) := ll_pl4 142 (by rfl) rfl
theorem tb_202 : ll_tb (.instanceMethod yX1_openPremises) := ll_pl4 143 (by rfl) rfl
theorem tb_203 : ll_tb (.selects RX1 yX1_openPremises yX1_openPremises) := ll_pl4 144 (by rfl) rfl
theorem tb_204 : ll_tb (.methodLink RX4 97 yX5_partsOfSet) := ll_pl4 146 (by rfl) rfl
theorem tb_205 : ll_tb (.methodLink RX4 101 yX5_partsOf) := ll_pl4 147 (by rfl) rfl
theorem tb_206 : ll_tb (.methodLink RX4 104 yX5_partOf) := ll_pl4 151 (by rfl) rfl
theorem tb_207 : ll_tb (.methodLink RX4 108 yX4_lineFor) := ll_pl4 156 (by rfl) rfl
theorem tb_208 : ll_tb (.instanceMethod yX4_lineFor) := ll_pl4 158 (by rfl) rfl
theorem tb_209 : ll_tb (.selects RX4 yX4_lineFor yX4_lineFor) := ll_pl0 37 (by rfl) rfl
theorem tb_210 : ll_tb (.methodLink RX4 111 yX1_addPremise) := ll_pl4 160 (by rfl) rfl
theorem tb_211 : ll_tb (.instanceMethod yX1_addPremise) := ll_pl4 161 (by rfl) rfl
theorem tb_212 : ll_tb (.selects RX1 yX1_addPremise yX1_addPremise) := ll_pl4 162 (by rfl) rfl
theorem tb_213 : ll_tb (.methodLink RX4 115 yX1_addLine) := ll_pl4 119 (by rfl) rfl
theorem tb_214 : ll_tb (.instanceMethod yX1_addLine) := ll_pl4 120 (by rfl) rfl
theorem tb_215 : ll_tb (.selects RX1 yX1_addLine yX1_addLine) := ll_pl4 121 (by rfl) rfl
theorem tb_216 : ll_tb (.fieldLink RX4 118 (TX1 10).1 (TX1 10).2.1 (TX1 10).2.2.1) := ll_pl1 227 (by rfl) rfl
theorem tb_217 : ll_tb (.methodLink RX4 121 Lib.Math.max.name) := ll_pl4 123 (by rfl) rfl
theorem tb_218 : ll_tb (.static Lib.Math.max.name) := ll_pl1 69 (by rfl) rfl
theorem tb_219 : ll_tb (.initialized "java/lang/Math") := ll_pl1 4 (by rfl) rfl
theorem tb_220 : ll_tb (.code Lib.Math.max.name Lib.Math.max.code 2 (some .int)) := ll_pl1 70 (by rfl) rfl
theorem tb_221 : ll_tb (.fieldLink RX4 126 (TX1 6).1 (TX1 6).2.1 (TX1 6).2.2.1) := ll_pl1 217 (by rfl) rfl
theorem tb_222 : ll_tb (.fieldLink RX4 130 (TX1 11).1 (TX1 11).2.1 (TX1 11).2.2.1) := ll_pl1 230 (by rfl) rfl
theorem tb_223 : ll_tb (.methodLink RX4 134 yX7_add) := ll_pl4 133 (by rfl) rfl
theorem tb_224 : ll_tb (.instanceMethod yX7_add) := ll_pl2 174 (by rfl) rfl
theorem tb_225 : ll_tb (.selects RX7 yX7_add yX7_add) := ll_pl2 175 (by rfl) rfl
theorem tb_226 : ll_tb (.methodLink RX4 139 yX7_setAt) := ll_pl4 134 (by rfl) rfl
theorem tb_227 : ll_tb (.instanceMethod yX7_setAt) := ll_pl4 135 (by rfl) rfl
theorem tb_228 : ll_tb (.selects RX7 yX7_setAt yX7_setAt) := ll_pl4 136 (by rfl) rfl
theorem tb_229 : ll_tb (.methodLink RX5 3 Lib.objectInit) := ll_pl1 143 (by rfl) rfl
theorem tb_230 : ll_tb (.classLink RX5 9 RX7) := ll_pl1 144 (by rfl) rfl
theorem tb_231 : ll_tb (.methodLink RX5 11 yX7_init) := ll_pl1 145 (by rfl) rfl
theorem tb_232 : ll_tb (.fieldLink RX5 14 (TX5 0).1 (TX5 0).2.1 (TX5 0).2.2.1) := ll_pl1 146 (by rfl) rfl
theorem tb_233 : ll_tb (.fieldLink RX5 20 (TX5 1).1 (TX5 1).2.1 (TX5 1).2.2.1) := ll_pl1 149 (by rfl) rfl
theorem tb_234 : ll_tb (.fieldLink RX5 23 (TX5 2).1 (TX5 2).2.1 (TX5 2).2.2.1) := ll_pl1 151 (by rfl) rfl
theorem tb_235 : ll_tb (.fieldLink RX5 27 (TX5 3).1 (TX5 3).2.1 (TX5 3).2.2.1) := ll_pl1 152 (by rfl) rfl
theorem tb_236 : ll_tb (.fieldLink RX5 30 (TX5 4).1 (TX5 4).2.1 (TX5 4).2.2.1) := ll_pl1 153 (by rfl) rfl
theorem tb_237 : ll_tb (.fieldLink RX5 33 (TX5 5).1 (TX5 5).2.1 (TX5 5).2.2.1) := ll_pl1 154 (by rfl) rfl
theorem tb_238 : ll_tb (.methodLink RX5 36 yX7_clear) := ll_pl2 157 (by rfl) rfl
theorem tb_239 : ll_tb (.fieldLink RX5 39 (TX5 6).1 (TX5 6).2.1 (TX5 6).2.2.1) := ll_pl1 155 (by rfl) rfl
theorem tb_240 : ll_tb (.fieldLink RX5 43 (TX5 7).1 (TX5 7).2.1 (TX5 7).2.2.1) := ll_pl1 158 (by rfl) rfl
theorem tb_241 : ll_tb (.fieldLink RX5 46 (TX5 8).1 (TX5 8).2.1 (TX5 8).2.2.1) := ll_pl1 161 (by rfl) rfl
theorem tb_242 : ll_tb (.fieldLink RX5 49 (TX5 9).1 (TX5 9).2.1 (TX5 9).2.2.1) := ll_pl1 164 (by rfl) rfl
theorem tb_243 : ll_tb (.fieldLink RX5 52 (TX5 10).1 (TX5 10).2.1 (TX5 10).2.2.1) := ll_pl1 165 (by rfl) rfl
theorem tb_244 : ll_tb (.fieldLink RX5 55 (TX7 1).1 (TX7 1).2.1 (TX7 1).2.2.1) := ll_pl1 75 (by rfl) rfl
theorem tb_245 : ll_tb (.methodLink RX5 58 yX7_become) := ll_pl5 57 (by rfl) rfl
theorem tb_246 : ll_tb (.methodLink RX5 62 arraycopyName) := ll_pl5 58 (by rfl) rfl
theorem tb_247 : ll_tb (.methodLink RX5 68 yX7_countOf) := ll_pl3 227 (by rfl) rfl
theorem tb_248 : ll_tb (.instanceMethod yX7_countOf) := ll_pl3 228 (by rfl) rfl
theorem tb_249 : ll_tb (.selects RX7 yX7_countOf yX7_countOf) := ll_pl3 229 (by rfl) rfl
theorem tb_250 : ll_tb (.methodLink RX5 72 yX5_isTerm) := ll_pl4 5 (by rfl) rfl
theorem tb_251 : ll_tb (.methodLink RX5 76 yX5_signsStart) := ll_pl4 6 (by rfl) rfl
theorem tb_252 : ll_tb (.instanceMethod yX5_signsStart) := ll_pl4 8 (by rfl) rfl
theorem tb_253 : ll_tb (.selects RX5 yX5_signsStart yX5_signsStart) := ll_pl0 24 (by rfl) rfl
theorem tb_254 : ll_tb (.methodLink RX5 79 yX5_termBytes) := ll_pl4 21 (by rfl) rfl
theorem tb_255 : ll_tb (.instanceMethod yX5_termBytes) := ll_pl4 2 (by rfl) rfl
theorem tb_256 : ll_tb (.selects RX5 yX5_termBytes yX5_termBytes) := ll_pl4 3 (by rfl) rfl
theorem tb_257 : ll_tb (.methodLink RX5 82 yX7_at) := ll_pl4 22 (by rfl) rfl
theorem tb_258 : ll_tb (.methodLink RX5 85 yX5_isLetter) := ll_pl4 14 (by rfl) rfl
theorem tb_259 : ll_tb (.static yX5_isLetter) := ll_pl4 15 (by rfl) rfl
theorem tb_260 : ll_tb (.methodLink RX5 88 yX5_partsOf) := ll_pl4 155 (by rfl) rfl
theorem tb_261 : ll_tb (.methodLink RX5 92 yX5_isAlike) := ll_pl4 31 (by rfl) rfl
theorem tb_262 : ll_tb (.instanceMethod yX5_isAlike) := ll_pl4 33 (by rfl) rfl
theorem tb_263 : ll_tb (.selects RX5 yX5_isAlike yX5_isAlike) := ll_pl0 25 (by rfl) rfl
theorem tb_264 : ll_tb (.methodLink RX6 3 Lib.objectInit) := ll_pl1 109 (by rfl) rfl
theorem tb_265 : ll_tb (.fieldLink RX6 11 (TX6 1).1 (TX6 1).2.1 (TX6 1).2.2.1) := ll_pl1 113 (by rfl) rfl
theorem tb_266 : ll_tb (.fieldLink RX6 15 (TX6 2).1 (TX6 2).2.1 (TX6 2).2.2.1) := ll_pl1 114 (by rfl) rfl
theorem tb_267 : ll_tb (.fieldLink RX6 18 (TX6 3).1 (TX6 3).2.1 (TX6 3).2.2.1) := ll_pl1 115 (by rfl) rfl
theorem tb_268 : ll_tb (.classLink RX6 21 RX7) := ll_pl1 110 (by rfl) rfl
theorem tb_269 : ll_tb (.methodLink RX6 23 yX7_init) := ll_pl1 111 (by rfl) rfl
theorem tb_270 : ll_tb (.fieldLink RX6 26 (TX6 4).1 (TX6 4).2.1 (TX6 4).2.2.1) := ll_pl1 116 (by rfl) rfl
theorem tb_271 : ll_tb (.fieldLink RX6 30 (TX6 0).1 (TX6 0).2.1 (TX6 0).2.2.1) := ll_pl1 112 (by rfl) rfl
theorem tb_272 : ll_tb (.methodLink RX6 34 yX7_clear) := ll_pl3 214 (by rfl) rfl
theorem tb_273 : ll_tb (.methodLink RX6 39 yX8_spell) := ll_pl2 161 (by rfl) rfl
theorem tb_274 : ll_tb (.instanceMethod yX8_spell) := ll_pl2 162 (by rfl) rfl
theorem tb_275 : ll_tb (.selects RX8 yX8_spell yX8_spell) := ll_pl2 163 (by rfl) rfl
theorem tb_276 : ll_tb (.fieldLink RX6 43 (TX7 1).1 (TX7 1).2.1 (TX7 1).2.2.1) := ll_pl1 74 (by rfl) rfl
theorem tb_277 : ll_tb (.methodLink RX6 47 yX5_clear) := ll_pl2 153 (by rfl) rfl
theorem tb_278 : ll_tb (.instanceMethod yX5_clear) := ll_pl2 154 (by rfl) rfl
theorem tb_279 : ll_tb (.selects RX5 yX5_clear yX5_clear) := ll_pl2 155 (by rfl) rfl
theorem tb_280 : ll_tb (.fieldLink RX6 50 (TX5 0).1 (TX5 0).2.1 (TX5 0).2.2.1) := ll_pl1 148 (by rfl) rfl
theorem tb_281 : ll_tb (.methodLink RX6 53 yX8_shortestOf) := ll_pl2 189 (by rfl) rfl
theorem tb_282 : ll_tb (.instanceMethod yX8_shortestOf) := ll_pl2 190 (by rfl) rfl
theorem tb_283 : ll_tb (.selects RX8 yX8_shortestOf yX8_shortestOf) := ll_pl2 191 (by rfl) rfl
theorem tb_284 : ll_tb (.fieldLink RX6 57 (TX5 7).1 (TX5 7).2.1 (TX5 7).2.2.1) := ll_pl1 159 (by rfl) rfl
theorem tb_285 : ll_tb (.methodLink RX6 60 yX8_nestOf) := ll_pl2 193 (by rfl) rfl
theorem tb_286 : ll_tb (.instanceMethod yX8_nestOf) := ll_pl2 194 (by rfl) rfl
theorem tb_287 : ll_tb (.selects RX8 yX8_nestOf yX8_nestOf) := ll_pl2 195 (by rfl) rfl
theorem tb_288 : ll_tb (.fieldLink RX6 63 (TX5 8).1 (TX5 8).2.1 (TX5 8).2.2.1) := ll_pl1 162 (by rfl) rfl
theorem tb_289 : ll_tb (.fieldLink RX6 66 (TX6 6).1 (TX6 6).2.1 (TX6 6).2.2.1) := ll_pl1 118 (by rfl) rfl
theorem tb_290 : ll_tb (.fieldLink RX6 69 (TX6 5).1 (TX6 5).2.1 (TX6 5).2.2.1) := ll_pl1 117 (by rfl) rfl
theorem tb_291 : ll_tb (.methodLink RX6 72 yX6_pushFactors) := ll_pl2 197 (by rfl) rfl
theorem tb_292 : ll_tb (.instanceMethod yX6_pushFactors) := ll_pl2 199 (by rfl) rfl
theorem tb_293 : ll_tb (.selects RX6 yX6_pushFactors yX6_pushFactors) := ll_pl0 2 (by rfl) rfl
theorem tb_294 : ll_tb (.methodLink RX6 75 yX6_numberOfTerm) := ll_pl2 208 (by rfl) rfl
theorem tb_295 : ll_tb (.instanceMethod yX6_numberOfTerm) := ll_pl2 210 (by rfl) rfl
theorem tb_296 : ll_tb (.selects RX6 yX6_numberOfTerm yX6_numberOfTerm) := ll_pl0 4 (by rfl) rfl
theorem tb_297 : ll_tb (.methodLink RX6 79 yX6_tellTerm) := ll_pl2 216 (by rfl) rfl
theorem tb_298 : ll_tb (.instanceMethod yX6_tellTerm) := ll_pl2 218 (by rfl) rfl
theorem tb_299 : ll_tb (.selects RX6 yX6_tellTerm yX6_tellTerm) := ll_pl0 6 (by rfl) rfl
theorem tb_300 : ll_tb (.methodLink RX6 83 yX6_findParts) := ll_pl2 229 (by rfl) rfl
theorem tb_301 : ll_tb (.instanceMethod yX6_findParts) := ll_pl2 231 (by rfl) rfl
theorem tb_302 : ll_tb (.selects RX6 yX6_findParts yX6_findParts) := ll_pl0 7 (by rfl) rfl
theorem tb_303 : ll_tb (.methodLink RX6 87 yX5_closeTerm) := ll_pl3 9 (by rfl) rfl
theorem tb_304 : ll_tb (.instanceMethod yX5_closeTerm) := ll_pl3 10 (by rfl) rfl
theorem tb_305 : ll_tb (.selects RX5 yX5_closeTerm yX5_closeTerm) := ll_pl3 11 (by rfl) rfl
theorem tb_306 : ll_tb (.fieldLink RX6 90 (TX5 1).1 (TX5 1).2.1 (TX5 1).2.2.1) := ll_pl1 150 (by rfl) rfl
theorem tb_307 : ll_tb (.methodLink RX6 93 yX8_isFull) := ll_pl2 220 (by rfl) rfl
theorem tb_308 : ll_tb (.instanceMethod yX8_isFull) := ll_pl2 221 (by rfl) rfl
theorem tb_309 : ll_tb (.selects RX8 yX8_isFull yX8_isFull) := ll_pl2 222 (by rfl) rfl
theorem tb_310 : ll_tb (.methodLink RX6 97 yX5_openTerm) := ll_pl2 225 (by rfl) rfl
theorem tb_311 : ll_tb (.instanceMethod yX5_openTerm) := ll_pl2 226 (by rfl) rfl
theorem tb_312 : ll_tb (.selects RX5 yX5_openTerm yX5_openTerm) := ll_pl2 227 (by rfl) rfl
theorem tb_313 : ll_tb (.fieldLink RX6 101 (TX6 7).1 (TX6 7).2.1 (TX6 7).2.2.1) := ll_pl1 119 (by rfl) rfl
theorem tb_314 : ll_tb (.methodLink RX6 104 yX5_openParts) := ll_pl2 233 (by rfl) rfl
theorem tb_315 : ll_tb (.instanceMethod yX5_openParts) := ll_pl2 234 (by rfl) rfl
theorem tb_316 : ll_tb (.selects RX5 yX5_openParts yX5_openParts) := ll_pl2 235 (by rfl) rfl
theorem tb_317 : ll_tb (.methodLink RX6 107 yX6_push) := ll_pl2 204 (by rfl) rfl
theorem tb_318 : ll_tb (.instanceMethod yX6_push) := ll_pl2 206 (by rfl) rfl
theorem tb_319 : ll_tb (.selects RX6 yX6_push yX6_push) := ll_pl0 3 (by rfl) rfl
theorem tb_320 : ll_tb (.methodLink RX6 110 yX6_gatherFactors) := ll_pl2 237 (by rfl) rfl
theorem tb_321 : ll_tb (.instanceMethod yX6_gatherFactors) := ll_pl2 239 (by rfl) rfl
theorem tb_322 : ll_tb (.selects RX6 yX6_gatherFactors yX6_gatherFactors) := ll_pl0 8 (by rfl) rfl
theorem tb_323 : ll_tb (.methodLink RX6 114 yX6_gatherNode) := ll_pl3 1 (by rfl) rfl
theorem tb_324 : ll_tb (.instanceMethod yX6_gatherNode) := ll_pl3 3 (by rfl) rfl
theorem tb_325 : ll_tb (.selects RX6 yX6_gatherNode yX6_gatherNode) := ll_pl0 9 (by rfl) rfl
theorem tb_326 : ll_tb (.methodLink RX6 117 yX8_kindOf) := ll_pl2 201 (by rfl) rfl
theorem tb_327 : ll_tb (.instanceMethod yX8_kindOf) := ll_pl2 170 (by rfl) rfl
theorem tb_328 : ll_tb (.selects RX8 yX8_kindOf yX8_kindOf) := ll_pl2 171 (by rfl) rfl
theorem tb_329 : ll_tb (.methodLink RX6 120 yX8_childrenOf) := ll_pl2 202 (by rfl) rfl
theorem tb_330 : ll_tb (.instanceMethod yX8_childrenOf) := ll_pl2 186 (by rfl) rfl
theorem tb_331 : ll_tb (.selects RX8 yX8_childrenOf yX8_childrenOf) := ll_pl2 187 (by rfl) rfl
theorem tb_332 : ll_tb (.methodLink RX6 123 yX8_childOf) := ll_pl2 203 (by rfl) rfl
theorem tb_333 : ll_tb (.instanceMethod yX8_childOf) := ll_pl2 178 (by rfl) rfl
theorem tb_334 : ll_tb (.selects RX8 yX8_childOf yX8_childOf) := ll_pl2 179 (by rfl) rfl
theorem tb_335 : ll_tb (.methodLink RX6 127 yX5_addPart) := ll_pl3 5 (by rfl) rfl
theorem tb_336 : ll_tb (.instanceMethod yX5_addPart) := ll_pl3 6 (by rfl) rfl
theorem tb_337 : ll_tb (.selects RX5 yX5_addPart yX5_addPart) := ll_pl3 7 (by rfl) rfl
theorem tb_338 : ll_tb (.methodLink RX6 130 yX6_isBehind) := ll_pl2 212 (by rfl) rfl
theorem tb_339 : ll_tb (.instanceMethod yX6_isBehind) := ll_pl2 214 (by rfl) rfl
theorem tb_340 : ll_tb (.selects RX6 yX6_isBehind yX6_isBehind) := ll_pl0 5 (by rfl) rfl
theorem tb_341 : ll_tb (.methodLink RX7 3 Lib.objectInit) := ll_pl1 67 (by rfl) rfl
theorem tb_342 : ll_tb (.methodLink RX7 9 Lib.Math.max.name) := ll_pl1 68 (by rfl) rfl
theorem tb_343 : ll_tb (.fieldLink RX7 15 (TX7 0).1 (TX7 0).2.1 (TX7 0).2.2.1) := ll_pl1 71 (by rfl) rfl
theorem tb_344 : ll_tb (.fieldLink RX7 21 (TX7 1).1 (TX7 1).2.1 (TX7 1).2.2.1) := ll_pl1 72 (by rfl) rfl
theorem tb_345 : ll_tb (.methodLink RX7 25 Lib.Math.min.name) := ll_pl3 22 (by rfl) rfl
theorem tb_346 : ll_tb (.static Lib.Math.min.name) := ll_pl3 23 (by rfl) rfl
theorem tb_347 : ll_tb (.code Lib.Math.min.name Lib.Math.min.code 2 (some .int)) := ll_pl3 24 (by rfl) rfl
theorem tb_348 : ll_tb (.methodLink RX7 28 arraycopyName) := ll_pl3 25 (by rfl) rfl
theorem tb_349 : ll_tb (.methodLink RX7 34 yX7_add) := ll_pl3 209 (by rfl) rfl
theorem tb_350 : ll_tb (.methodLink RX7 38 yX7_addAll) := ll_pl3 18 (by rfl) rfl
theorem tb_351 : ll_tb (.instanceMethod yX7_addAll) := ll_pl3 19 (by rfl) rfl
theorem tb_352 : ll_tb (.selects RX7 yX7_addAll yX7_addAll) := ll_pl3 20 (by rfl) rfl
theorem tb_353 : ll_tb (.methodLink RX7 42 yX7_clear) := ll_pl3 17 (by rfl) rfl
theorem tb_354 : ll_tb (.methodLink RX8 5 Lib.objectInit) := ll_pl1 29 (by rfl) rfl
theorem tb_355 : ll_tb (.fieldLink RX8 11 (TX8 0).1 (TX8 0).2.1 (TX8 0).2.2.1) := ll_pl1 30 (by rfl) rfl
theorem tb_356 : ll_tb (.fieldLink RX8 15 (TX8 1).1 (TX8 1).2.1 (TX8 1).2.2.1) := ll_pl1 31 (by rfl) rfl
theorem tb_357 : ll_tb (.fieldLink RX8 18 (TX8 2).1 (TX8 2).2.1 (TX8 2).2.2.1) := ll_pl1 32 (by rfl) rfl
theorem tb_358 : ll_tb (.fieldLink RX8 21 (TX8 3).1 (TX8 3).2.1 (TX8 3).2.2.1) := ll_pl1 33 (by rfl) rfl
theorem tb_359 : ll_tb (.fieldLink RX8 24 (TX8 4).1 (TX8 4).2.1 (TX8 4).2.2.1) := ll_pl1 34 (by rfl) rfl
theorem tb_360 : ll_tb (.fieldLink RX8 27 (TX8 5).1 (TX8 5).2.1 (TX8 5).2.2.1) := ll_pl1 35 (by rfl) rfl
theorem tb_361 : ll_tb (.fieldLink RX8 30 (TX8 6).1 (TX8 6).2.1 (TX8 6).2.2.1) := ll_pl1 36 (by rfl) rfl
theorem tb_362 : ll_tb (.fieldLink RX8 33 (TX8 7).1 (TX8 7).2.1 (TX8 7).2.2.1) := ll_pl1 37 (by rfl) rfl
theorem tb_363 : ll_tb (.fieldLink RX8 37 (TX8 8).1 (TX8 8).2.1 (TX8 8).2.2.1) := ll_pl1 38 (by rfl) rfl
theorem tb_364 : ll_tb (.fieldLink RX8 40 (TX8 9).1 (TX8 9).2.1 (TX8 9).2.2.1) := ll_pl1 39 (by rfl) rfl
theorem tb_365 : ll_tb (.methodLink RX8 43 yX8_shortestOf) := ll_pl2 224 (by rfl) rfl
theorem tb_366 : ll_tb (.methodLink RX8 47 yX8_kindOf) := ll_pl2 169 (by rfl) rfl
theorem tb_367 : ll_tb (.methodLink RX8 50 yX8_childrenOf) := ll_pl2 185 (by rfl) rfl
theorem tb_368 : ll_tb (.methodLink RX8 53 yX8_childOf) := ll_pl2 177 (by rfl) rfl
theorem tb_369 : ll_tb (.methodLink RX8 57 yX8_addOnce) := ll_pl3 159 (by rfl) rfl
theorem tb_370 : ll_tb (.instanceMethod yX8_addOnce) := ll_pl3 161 (by rfl) rfl
theorem tb_371 : ll_tb (.selects RX8 yX8_addOnce yX8_addOnce) := ll_pl0 20 (by rfl) rfl
theorem tb_372 : ll_tb (.methodLink RX8 61 yX8_push) := ll_pl3 125 (by rfl) rfl
theorem tb_373 : ll_tb (.instanceMethod yX8_push) := ll_pl3 127 (by rfl) rfl
theorem tb_374 : ll_tb (.selects RX8 yX8_push yX8_push) := ll_pl0 15 (by rfl) rfl
theorem tb_375 : ll_tb (.methodLink RX8 65 yX8_close) := ll_pl3 151 (by rfl) rfl
theorem tb_376 : ll_tb (.instanceMethod yX8_close) := ll_pl3 153 (by rfl) rfl
theorem tb_377 : ll_tb (.selects RX8 yX8_close yX8_close) := ll_pl0 19 (by rfl) rfl
theorem tb_378 : ll_tb (.methodLink RX8 69 yX8_nodeOf) := ll_pl3 129 (by rfl) rfl
theorem tb_379 : ll_tb (.instanceMethod yX8_nodeOf) := ll_pl3 131 (by rfl) rfl
theorem tb_380 : ll_tb (.selects RX8 yX8_nodeOf yX8_nodeOf) := ll_pl0 16 (by rfl) rfl
theorem tb_381 : ll_tb (.methodLink RX8 72 yX8_spellNode) := ll_pl2 165 (by rfl) rfl
theorem tb_382 : ll_tb (.instanceMethod yX8_spellNode) := ll_pl2 167 (by rfl) rfl
theorem tb_383 : ll_tb (.selects RX8 yX8_spellNode yX8_spellNode) := ll_pl0 0 (by rfl) rfl
theorem tb_384 : ll_tb (.methodLink RX8 76 yX7_add) := ll_pl2 173 (by rfl) rfl
theorem tb_385 : ll_tb (.methodLink RX8 81 yX8_spellChildren) := ll_pl2 181 (by rfl) rfl
theorem tb_386 : ll_tb (.instanceMethod yX8_spellChildren) := ll_pl2 183 (by rfl) rfl
theorem tb_387 : ll_tb (.selects RX8 yX8_spellChildren yX8_spellChildren) := ll_pl0 1 (by rfl) rfl
theorem tb_388 : ll_tb (.methodLink RX8 84 yX8_hasChildren) := ll_pl3 133 (by rfl) rfl
theorem tb_389 : ll_tb (.instanceMethod yX8_hasChildren) := ll_pl3 135 (by rfl) rfl
theorem tb_390 : ll_tb (.selects RX8 yX8_hasChildren yX8_hasChildren) := ll_pl0 17 (by rfl) rfl
theorem tb_391 : ll_tb (.methodLink RX8 88 yX8_newNode) := ll_pl3 137 (by rfl) rfl
theorem tb_392 : ll_tb (.instanceMethod yX8_newNode) := ll_pl3 139 (by rfl) rfl
theorem tb_393 : ll_tb (.selects RX8 yX8_newNode yX8_newNode) := ll_pl0 18 (by rfl) rfl
theorem tb_394 : ll_tb (.methodLink RX8 91 Lib.Math.min.name) := ll_pl3 141 (by rfl) rfl
theorem tb_395 : ll_tb (.methodLink RX8 96 Lib.Math.max.name) := ll_pl3 142 (by rfl) rfl
theorem tb_396 : ll_tb (.methodLink RX9 3 Lib.objectInit) := ll_pl2 91 (by rfl) rfl
theorem tb_397 : ll_tb (.fieldLink RX9 11 (TX9 0).1 (TX9 0).2.1 (TX9 0).2.2.1) := ll_pl2 92 (by rfl) rfl
theorem tb_398 : ll_tb (.fieldLink RX9 15 (TX9 1).1 (TX9 1).2.1 (TX9 1).2.2.1) := ll_pl2 93 (by rfl) rfl
theorem tb_399 : ll_tb (.fieldLink RX9 18 (TX9 2).1 (TX9 2).2.1 (TX9 2).2.2.1) := ll_pl2 94 (by rfl) rfl
theorem tb_400 : ll_tb (.fieldLink RX9 21 (TX9 3).1 (TX9 3).2.1 (TX9 3).2.2.1) := ll_pl2 95 (by rfl) rfl
theorem tb_401 : ll_tb (.fieldLink RX9 24 (TX9 4).1 (TX9 4).2.1 (TX9 4).2.2.1) := ll_pl2 96 (by rfl) rfl
theorem tb_402 : ll_tb (.fieldLink RX9 28 (TX9 5).1 (TX9 5).2.1 (TX9 5).2.2.1) := ll_pl2 97 (by rfl) rfl
theorem tb_403 : ll_tb (.methodLink RX9 31 yX9_begin) := ll_pl4 58 (by rfl) rfl
theorem tb_404 : ll_tb (.instanceMethod yX9_begin) := ll_pl4 60 (by rfl) rfl
theorem tb_405 : ll_tb (.selects RX9 yX9_begin yX9_begin) := ll_pl0 27 (by rfl) rfl
theorem tb_406 : ll_tb (.methodLink RX9 35 yX9_startLeft) := ll_pl4 65 (by rfl) rfl
theorem tb_407 : ll_tb (.instanceMethod yX9_startLeft) := ll_pl4 67 (by rfl) rfl
theorem tb_408 : ll_tb (.selects RX9 yX9_startLeft yX9_startLeft) := ll_pl0 28 (by rfl) rfl
theorem tb_409 : ll_tb (.methodLink RX9 39 yX9_startRight) := ll_pl4 69 (by rfl) rfl
theorem tb_410 : ll_tb (.instanceMethod yX9_startRight) := ll_pl4 71 (by rfl) rfl
theorem tb_411 : ll_tb (.selects RX9 yX9_startRight yX9_startRight) := ll_pl0 29 (by rfl) rfl
theorem tb_412 : ll_tb (.methodLink RX9 42 yX9_countFrom) := ll_pl4 73 (by rfl) rfl
theorem tb_413 : ll_tb (.instanceMethod yX9_countFrom) := ll_pl4 75 (by rfl) rfl
theorem tb_414 : ll_tb (.selects RX9 yX9_countFrom yX9_countFrom) := ll_pl0 30 (by rfl) rfl
theorem tb_415 : ll_tb (.methodLink RX9 46 yX9_howMany) := ll_pl4 104 (by rfl) rfl
theorem tb_416 : ll_tb (.instanceMethod yX9_howMany) := ll_pl4 55 (by rfl) rfl
theorem tb_417 : ll_tb (.selects RX9 yX9_howMany yX9_howMany) := ll_pl4 56 (by rfl) rfl
theorem tb_418 : ll_tb (.methodLink RX9 50 yX9_countBehind) := ll_pl4 91 (by rfl) rfl
theorem tb_419 : ll_tb (.instanceMethod yX9_countBehind) := ll_pl4 93 (by rfl) rfl
theorem tb_420 : ll_tb (.selects RX9 yX9_countBehind yX9_countBehind) := ll_pl0 32 (by rfl) rfl
theorem tb_421 : ll_tb (.methodLink RX9 54 yX5_partsOfSet) := ll_pl4 95 (by rfl) rfl
theorem tb_422 : ll_tb (.fieldLink RX9 60 (TX9 6).1 (TX9 6).2.1 (TX9 6).2.2.1) := ll_pl2 98 (by rfl) rfl
theorem tb_423 : ll_tb (.methodLink RX9 64 yJ7_fill_53178) := ll_pl4 62 (by rfl) rfl
theorem tb_424 : ll_tb (.methodLink RX9 70 yX5_anyFull) := ll_pl4 77 (by rfl) rfl
theorem tb_425 : ll_tb (.methodLink RX9 74 yX9_fits) := ll_pl4 78 (by rfl) rfl
theorem tb_426 : ll_tb (.instanceMethod yX9_fits) := ll_pl4 80 (by rfl) rfl
theorem tb_427 : ll_tb (.selects RX9 yX9_fits yX9_fits) := ll_pl0 31 (by rfl) rfl
theorem tb_428 : ll_tb (.methodLink RX9 78 yX9_allWords) := ll_pl4 82 (by rfl) rfl
theorem tb_429 : ll_tb (.static yX9_allWords) := ll_pl4 83 (by rfl) rfl
theorem tb_430 : ll_tb (.methodLink RX9 82 yX9_cellOf) := ll_pl4 85 (by rfl) rfl
theorem tb_431 : ll_tb (.static yX9_cellOf) := ll_pl4 86 (by rfl) rfl
theorem tb_432 : ll_tb (.constant RX9 85 (-1640531535)) := ll_pl4 88 (by rfl) rfl
theorem tb_433 : ll_tb (.constant RX9 86 (-2048144789)) := ll_pl4 89 (by rfl) rfl
theorem tb_434 : ll_tb (.constant RX9 87 668265263) := ll_pl4 90 (by rfl) rfl
theorem tb_435 : ll_tb (.methodLink RX10 3 Lib.objectInit) := ll_pl1 21 (by rfl) rfl
theorem tb_436 : ll_tb (.classLink RX10 9 RX8) := ll_pl1 24 (by rfl) rfl
theorem tb_437 : ll_tb (.instantiable RX8 10) := ll_pl1 25 (by rfl) rfl
theorem tb_438 : ll_tb (.initialized RX8) := ll_pl1 2 (by rfl) rfl
theorem tb_439 : ll_tb (.methodLink RX10 11 yX8_init) := ll_pl1 26 (by rfl) rfl
theorem tb_440 : ll_tb (.instanceMethod yX8_init) := ll_pl1 27 (by rfl) rfl
theorem tb_441 : ll_tb (.classLink RX10 12 RX7) := ll_pl1 62 (by rfl) rfl
theorem tb_442 : ll_tb (.methodLink RX10 14 yX7_init) := ll_pl1 64 (by rfl) rfl
theorem tb_443 : ll_tb (.fieldLink RX10 17 (TX10 5).1 (TX10 5).2.1 (TX10 5).2.2.1) := ll_pl3 33 (by rfl) rfl
theorem tb_444 : ll_tb (.classLink RX10 21 RX2) := ll_pl1 81 (by rfl) rfl
theorem tb_445 : ll_tb (.instantiable RX2 5) := ll_pl1 82 (by rfl) rfl
theorem tb_446 : ll_tb (.initialized RX2) := ll_pl1 5 (by rfl) rfl
theorem tb_447 : ll_tb (.methodLink RX10 23 yX2_init) := ll_pl1 83 (by rfl) rfl
theorem tb_448 : ll_tb (.instanceMethod yX2_init) := ll_pl1 84 (by rfl) rfl
theorem tb_449 : ll_tb (.fieldLink RX10 26 (TX10 0).1 (TX10 0).2.1 (TX10 0).2.2.1) := ll_pl3 28 (by rfl) rfl
theorem tb_450 : ll_tb (.classLink RX10 30 RX6) := ll_pl1 104 (by rfl) rfl
theorem tb_451 : ll_tb (.instantiable RX6 8) := ll_pl1 105 (by rfl) rfl
theorem tb_452 : ll_tb (.initialized RX6) := ll_pl1 6 (by rfl) rfl
theorem tb_453 : ll_tb (.methodLink RX10 32 yX6_init) := ll_pl1 106 (by rfl) rfl
theorem tb_454 : ll_tb (.instanceMethod yX6_init) := ll_pl1 107 (by rfl) rfl
theorem tb_455 : ll_tb (.fieldLink RX10 35 (TX10 1).1 (TX10 1).2.1 (TX10 1).2.2.1) := ll_pl3 29 (by rfl) rfl
theorem tb_456 : ll_tb (.classLink RX10 39 (ll_cn 5)) := ll_pl1 137 (by rfl) rfl
theorem tb_457 : ll_tb (.classLink RX10 39 RX5) := ll_pl1 137 (by rfl) rfl
theorem tb_458 : ll_tb (.fieldLink RX10 42 (TX10 6).1 (TX10 6).2.1 (TX10 6).2.2.1) := ll_pl3 34 (by rfl) rfl
theorem tb_459 : ll_tb (.classLink RX10 46 RX1) := ll_pl1 189 (by rfl) rfl
theorem tb_460 : ll_tb (.fieldLink RX10 49 (TX10 7).1 (TX10 7).2.1 (TX10 7).2.2.1) := ll_pl3 35 (by rfl) rfl
theorem tb_461 : ll_tb (.classLink RX10 53 RX4) := ll_pl2 17 (by rfl) rfl
theorem tb_462 : ll_tb (.instantiable RX4 10) := ll_pl2 18 (by rfl) rfl
theorem tb_463 : ll_tb (.initialized RX4) := ll_pl1 9 (by rfl) rfl
theorem tb_464 : ll_tb (.methodLink RX10 55 yX4_init) := ll_pl2 19 (by rfl) rfl
theorem tb_465 : ll_tb (.instanceMethod yX4_init) := ll_pl2 20 (by rfl) rfl
theorem tb_466 : ll_tb (.fieldLink RX10 58 (TX10 2).1 (TX10 2).2.1 (TX10 2).2.2.1) := ll_pl3 30 (by rfl) rfl
theorem tb_467 : ll_tb (.classLink RX10 62 RX0) := ll_pl2 54 (by rfl) rfl
theorem tb_468 : ll_tb (.instantiable RX0 7) := ll_pl2 55 (by rfl) rfl
theorem tb_469 : ll_tb (.initialized RX0) := ll_pl1 10 (by rfl) rfl
theorem tb_470 : ll_tb (.methodLink RX10 64 yX0_init) := ll_pl2 56 (by rfl) rfl
theorem tb_471 : ll_tb (.instanceMethod yX0_init) := ll_pl2 57 (by rfl) rfl
theorem tb_472 : ll_tb (.fieldLink RX10 65 (TX10 3).1 (TX10 3).2.1 (TX10 3).2.2.1) := ll_pl3 31 (by rfl) rfl
theorem tb_473 : ll_tb (.classLink RX10 69 RX9) := ll_pl2 86 (by rfl) rfl
theorem tb_474 : ll_tb (.instantiable RX9 7) := ll_pl2 87 (by rfl) rfl
theorem tb_475 : ll_tb (.initialized RX9) := ll_pl1 11 (by rfl) rfl
theorem tb_476 : ll_tb (.methodLink RX10 71 yX9_init) := ll_pl2 88 (by rfl) rfl
theorem tb_477 : ll_tb (.instanceMethod yX9_init) := ll_pl2 89 (by rfl) rfl
theorem tb_478 : ll_tb (.fieldLink RX10 74 (TX10 4).1 (TX10 4).2.1 (TX10 4).2.2.1) := ll_pl3 32 (by rfl) rfl
theorem tb_479 : ll_tb (.classLink RX10 78 RX3) := ll_pl2 114 (by rfl) rfl
theorem tb_480 : ll_tb (.instantiable RX3 5) := ll_pl2 115 (by rfl) rfl
theorem tb_481 : ll_tb (.initialized RX3) := ll_pl1 12 (by rfl) rfl
theorem tb_482 : ll_tb (.methodLink RX10 80 yX3_init) := ll_pl2 116 (by rfl) rfl
theorem tb_483 : ll_tb (.instanceMethod yX3_init) := ll_pl2 117 (by rfl) rfl
theorem tb_484 : ll_tb (.fieldLink RX10 81 (TX10 8).1 (TX10 8).2.1 (TX10 8).2.2.1) := ll_pl3 36 (by rfl) rfl
theorem tb_485 : ll_tb (.classLink RX10 78 (ll_cn 3)) := ll_pl2 114 (by rfl) rfl
theorem tb_486 : ll_tb (.fieldLink RX10 85 (TX10 9).1 (TX10 9).2.1 (TX10 9).2.2.1) := ll_pl3 37 (by rfl) rfl
theorem tb_487 : ll_tb (.arrayClass .boolean) := ll_pl3 62 (by rfl) rfl
theorem tb_488 : ll_tb (.fieldLink RX10 89 (TX10 10).1 (TX10 10).2.1 (TX10 10).2.2.1) := ll_pl3 38 (by rfl) rfl
theorem tb_489 : ll_tb (.fieldLink RX10 93 (TX3 1).1 (TX3 1).2.1 (TX3 1).2.2.1) := ll_pl2 130 (by rfl) rfl
theorem tb_490 : ll_tb (.methodLink RX10 96 yX6_findTerms) := ll_pl2 149 (by rfl) rfl
theorem tb_491 : ll_tb (.instanceMethod yX6_findTerms) := ll_pl2 150 (by rfl) rfl
theorem tb_492 : ll_tb (.selects RX6 yX6_findTerms yX6_findTerms) := ll_pl2 151 (by rfl) rfl
theorem tb_493 : ll_tb (.fieldLink RX10 100 (TX3 2).1 (TX3 2).2.1 (TX3 2).2.2.1) := ll_pl2 132 (by rfl) rfl
theorem tb_494 : ll_tb (.fieldLink RX10 104 (TX5 0).1 (TX5 0).2.1 (TX5 0).2.2.1) := ll_pl1 147 (by rfl) rfl
theorem tb_495 : ll_tb (.methodLink RX10 107 yX7_become) := ll_pl3 13 (by rfl) rfl
theorem tb_496 : ll_tb (.methodLink RX10 111 yX10_bytesOf) := ll_pl3 67 (by rfl) rfl
theorem tb_497 : ll_tb (.static yX10_bytesOf) := ll_pl3 68 (by rfl) rfl
theorem tb_498 : ll_tb (.fieldLink RX10 115 (TX3 0).1 (TX3 0).2.1 (TX3 0).2.2.1) := ll_pl2 128 (by rfl) rfl
theorem tb_499 : ll_tb (.fieldLink RX10 118 (TX7 1).1 (TX7 1).2.1 (TX7 1).2.2.1) := ll_pl1 73 (by rfl) rfl
theorem tb_500 : ll_tb (.methodLink RX10 122 yX10_byteOf) := ll_pl3 70 (by rfl) rfl
theorem tb_501 : ll_tb (.static yX10_byteOf) := ll_pl3 71 (by rfl) rfl
theorem tb_502 : ll_tb (.methodLink RX10 126 yX7_add) := ll_pl3 73 (by rfl) rfl
theorem tb_503 : ll_tb (.fieldLink RX10 129 (TX3 4).1 (TX3 4).2.1 (TX3 4).2.2.1) := ll_pl2 136 (by rfl) rfl
theorem tb_504 : ll_tb (.methodLink RX10 132 yX10_isSide) := ll_pl3 78 (by rfl) rfl
theorem tb_505 : ll_tb (.static yX10_isSide) := ll_pl3 79 (by rfl) rfl
theorem tb_506 : ll_tb (.methodLink RX10 136 Lib.Math.min.name) := ll_pl3 81 (by rfl) rfl
theorem tb_507 : ll_tb (.methodLink RX10 142 yX2_read) := ll_pl3 82 (by rfl) rfl
theorem tb_508 : ll_tb (.instanceMethod yX2_read) := ll_pl3 83 (by rfl) rfl
theorem tb_509 : ll_tb (.selects RX2 yX2_read yX2_read) := ll_pl3 84 (by rfl) rfl
theorem tb_510 : ll_tb (.methodLink RX10 146 yX10_faultOf) := ll_pl3 167 (by rfl) rfl
theorem tb_511 : ll_tb (.instanceMethod yX10_faultOf) := ll_pl3 169 (by rfl) rfl
theorem tb_512 : ll_tb (.selects RX10 yX10_faultOf yX10_faultOf) := ll_pl0 21 (by rfl) rfl
theorem tb_513 : ll_tb (.methodLink RX10 149 yX7_clear) := ll_pl3 171 (by rfl) rfl
theorem tb_514 : ll_tb (.methodLink RX10 152 yX10_put) := ll_pl3 172 (by rfl) rfl
theorem tb_515 : ll_tb (.instanceMethod yX10_put) := ll_pl3 174 (by rfl) rfl
theorem tb_516 : ll_tb (.selects RX10 yX10_put yX10_put) := ll_pl0 22 (by rfl) rfl
theorem tb_517 : ll_tb (.fieldLink RX10 155 (TX3 3).1 (TX3 3).2.1 (TX3 3).2.2.1) := ll_pl2 134 (by rfl) rfl
theorem tb_518 : ll_tb (.methodLink RX10 158 yX1_clear) := ll_pl3 176 (by rfl) rfl
theorem tb_519 : ll_tb (.methodLink RX10 159 yX10_isSlot) := ll_pl3 193 (by rfl) rfl
theorem tb_520 : ll_tb (.static yX10_isSlot) := ll_pl3 194 (by rfl) rfl
theorem tb_521 : ll_tb (.methodLink RX10 162 yX10_draftOf) := ll_pl3 200 (by rfl) rfl
theorem tb_522 : ll_tb (.instanceMethod yX10_draftOf) := ll_pl3 202 (by rfl) rfl
theorem tb_523 : ll_tb (.selects RX10 yX10_draftOf yX10_draftOf) := ll_pl0 23 (by rfl) rfl
theorem tb_524 : ll_tb (.methodLink RX10 166 yX6_speltBytes) := ll_pl3 210 (by rfl) rfl
theorem tb_525 : ll_tb (.instanceMethod yX6_speltBytes) := ll_pl3 211 (by rfl) rfl
theorem tb_526 : ll_tb (.selects RX6 yX6_speltBytes yX6_speltBytes) := ll_pl3 212 (by rfl) rfl
theorem tb_527 : ll_tb (.fieldLink RX10 170 (TX5 6).1 (TX5 6).2.1 (TX5 6).2.2.1) := ll_pl1 157 (by rfl) rfl
theorem tb_528 : ll_tb (.methodLink RX10 173 yX5_anyFull) := ll_pl3 219 (by rfl) rfl
theorem tb_529 : ll_tb (.methodLink RX10 176 yX5_lettersSpelt) := ll_pl3 223 (by rfl) rfl
theorem tb_530 : ll_tb (.instanceMethod yX5_lettersSpelt) := ll_pl3 224 (by rfl) rfl
theorem tb_531 : ll_tb (.selects RX5 yX5_lettersSpelt yX5_lettersSpelt) := ll_pl3 225 (by rfl) rfl
theorem tb_532 : ll_tb (.methodLink RX10 180 yX7_countOf) := ll_pl3 231 (by rfl) rfl
theorem tb_533 : ll_tb (.fieldLink RX10 183 (TX5 7).1 (TX5 7).2.1 (TX5 7).2.2.1) := ll_pl1 160 (by rfl) rfl
theorem tb_534 : ll_tb (.fieldLink RX10 186 (TX5 8).1 (TX5 8).2.1 (TX5 8).2.2.1) := ll_pl1 163 (by rfl) rfl
theorem tb_535 : ll_tb (.methodLink RX10 189 yX7_at) := ll_pl3 232 (by rfl) rfl
theorem tb_536 : ll_tb (.methodLink RX10 192 yX5_isTerm) := ll_pl3 237 (by rfl) rfl
theorem tb_537 : ll_tb (.methodLink RX10 195 yX5_termBytes) := ll_pl4 1 (by rfl) rfl
theorem tb_538 : ll_tb (.methodLink RX10 198 yX5_partSet) := ll_pl4 10 (by rfl) rfl
theorem tb_539 : ll_tb (.instanceMethod yX5_partSet) := ll_pl4 11 (by rfl) rfl
theorem tb_540 : ll_tb (.selects RX5 yX5_partSet yX5_partSet) := ll_pl4 12 (by rfl) rfl
theorem tb_541 : ll_tb (.methodLink RX10 201 yX5_termByte) := ll_pl4 17 (by rfl) rfl
theorem tb_542 : ll_tb (.instanceMethod yX5_termByte) := ll_pl4 18 (by rfl) rfl
theorem tb_543 : ll_tb (.selects RX5 yX5_termByte yX5_termByte) := ll_pl4 19 (by rfl) rfl
theorem tb_544 : ll_tb (.methodLink RX10 204 yX5_alikeTerm) := ll_pl4 27 (by rfl) rfl
theorem tb_545 : ll_tb (.methodLink RX10 208 yX10_tapeIsWordOf) := ll_pl4 39 (by rfl) rfl
theorem tb_546 : ll_tb (.instanceMethod yX10_tapeIsWordOf) := ll_pl4 41 (by rfl) rfl
theorem tb_547 : ll_tb (.selects RX10 yX10_tapeIsWordOf yX10_tapeIsWordOf) := ll_pl0 26 (by rfl) rfl
theorem tb_548 : ll_tb (.methodLink RX10 212 yX10_canCount) := ll_pl4 51 (by rfl) rfl
theorem tb_549 : ll_tb (.static yX10_canCount) := ll_pl4 52 (by rfl) rfl
theorem tb_550 : ll_tb (.methodLink RX10 216 yX9_howMany) := ll_pl4 54 (by rfl) rfl
theorem tb_551 : ll_tb (.methodLink RX10 220 yX9_nth) := ll_pl4 100 (by rfl) rfl
theorem tb_552 : ll_tb (.instanceMethod yX9_nth) := ll_pl4 101 (by rfl) rfl
theorem tb_553 : ll_tb (.selects RX9 yX9_nth yX9_nth) := ll_pl4 102 (by rfl) rfl
theorem tb_554 : ll_tb (.methodLink RX10 224 yX4_run) := ll_pl4 109 (by rfl) rfl
theorem tb_555 : ll_tb (.instanceMethod yX4_run) := ll_pl4 110 (by rfl) rfl
theorem tb_556 : ll_tb (.selects RX4 yX4_run yX4_run) := ll_pl4 111 (by rfl) rfl
theorem tb_557 : ll_tb (.fieldLink RX10 228 (TX1 11).1 (TX1 11).2.1 (TX1 11).2.2.1) := ll_pl1 231 (by rfl) rfl
theorem tb_558 : ll_tb (.fieldLink RX10 232 (TX1 6).1 (TX1 6).2.1 (TX1 6).2.2.1) := ll_pl1 218 (by rfl) rfl
theorem tb_559 : ll_tb (.fieldLink RX10 235 (TX1 8).1 (TX1 8).2.1 (TX1 8).2.2.1) := ll_pl1 223 (by rfl) rfl
theorem tb_560 : ll_tb (.methodLink RX10 236 yX1_ofRule) := ll_pl4 176 (by rfl) rfl
theorem tb_561 : ll_tb (.instanceMethod yX1_ofRule) := ll_pl4 177 (by rfl) rfl
theorem tb_562 : ll_tb (.selects RX1 yX1_ofRule yX1_ofRule) := ll_pl4 178 (by rfl) rfl
theorem tb_563 : ll_tb (.fieldLink RX10 239 (TX1 9).1 (TX1 9).2.1 (TX1 9).2.2.1) := ll_pl1 225 (by rfl) rfl
theorem tb_564 : ll_tb (.fieldLink RX10 242 (TX1 10).1 (TX1 10).2.1 (TX1 10).2.2.1) := ll_pl1 228 (by rfl) rfl
theorem tb_565 : ll_tb (.methodLink RX10 245 yX1_premisesOfNone) := ll_pl4 180 (by rfl) rfl
theorem tb_566 : ll_tb (.instanceMethod yX1_premisesOfNone) := ll_pl4 181 (by rfl) rfl
theorem tb_567 : ll_tb (.selects RX1 yX1_premisesOfNone yX1_premisesOfNone) := ll_pl4 182 (by rfl) rfl
theorem tb_568 : ll_tb (.methodLink RX10 248 yX1_isLine) := ll_pl4 193 (by rfl) rfl
theorem tb_569 : ll_tb (.fieldLink RX10 251 (TX1 0).1 (TX1 0).2.1 (TX1 0).2.2.1) := ll_pl1 200 (by rfl) rfl
theorem tb_570 : ll_tb (.fieldLink RX10 255 (TX1 1).1 (TX1 1).2.1 (TX1 1).2.2.1) := ll_pl1 204 (by rfl) rfl
theorem tb_571 : ll_tb (.fieldLink RX10 258 (TX1 2).1 (TX1 2).2.1 (TX1 2).2.2.1) := ll_pl1 208 (by rfl) rfl
theorem tb_572 : ll_tb (.fieldLink RX10 261 (TX1 4).1 (TX1 4).2.1 (TX1 4).2.2.1) := ll_pl1 213 (by rfl) rfl
theorem tb_573 : ll_tb (.methodLink RX10 264 yX1_isPremise) := ll_pl4 194 (by rfl) rfl
theorem tb_574 : ll_tb (.instanceMethod yX1_isPremise) := ll_pl4 195 (by rfl) rfl
theorem tb_575 : ll_tb (.selects RX1 yX1_isPremise yX1_isPremise) := ll_pl4 196 (by rfl) rfl
theorem tb_576 : ll_tb (.methodLink RX10 267 yX1_premiseOf) := ll_pl4 198 (by rfl) rfl
theorem tb_577 : ll_tb (.methodLink RX10 270 yX10_replace) := ll_pl4 206 (by rfl) rfl
theorem tb_578 : ll_tb (.static yX10_replace) := ll_pl4 207 (by rfl) rfl
theorem tb_579 : ll_tb (.fieldLink RX10 274 (TX1 5).1 (TX1 5).2.1 (TX1 5).2.2.1) := ll_pl1 215 (by rfl) rfl
theorem tb_580 : ll_tb (.fieldLink RX10 277 (TX1 3).1 (TX1 3).2.1 (TX1 3).2.2.1) := ll_pl1 210 (by rfl) rfl
theorem tb_581 : ll_tb (.methodLink RX10 280 yX1_dropLast) := ll_pl4 213 (by rfl) rfl
theorem tb_582 : ll_tb (.instanceMethod yX1_dropLast) := ll_pl4 214 (by rfl) rfl
theorem tb_583 : ll_tb (.selects RX1 yX1_dropLast yX1_dropLast) := ll_pl4 215 (by rfl) rfl
theorem tb_584 : ll_tb (.methodLink RX10 283 yX0_look) := ll_pl4 222 (by rfl) rfl
theorem tb_585 : ll_tb (.instanceMethod yX0_look) := ll_pl4 223 (by rfl) rfl
theorem tb_586 : ll_tb (.selects RX0 yX0_look yX0_look) := ll_pl4 224 (by rfl) rfl
theorem tb_587 : ll_tb (.fieldLink RX10 286 (TX0 3).1 (TX0 3).2.1 (TX0 3).2.2.1) := ll_pl2 64 (by rfl) rfl
theorem tb_588 : ll_tb (.fieldLink RX10 289 (TX0 4).1 (TX0 4).2.1 (TX0 4).2.2.1) := ll_pl2 66 (by rfl) rfl
theorem tb_589 : ll_tb (.fieldLink RX10 292 (TX0 5).1 (TX0 5).2.1 (TX0 5).2.2.1) := ll_pl2 68 (by rfl) rfl
theorem tb_590 : ll_tb (.fieldLink RX10 295 (TX0 6).1 (TX0 6).2.1 (TX0 6).2.2.1) := ll_pl2 70 (by rfl) rfl
theorem tb_591 : ll_tb (.methodLink RX10 298 yX10_readSlot) := ll_pl5 34 (by rfl) rfl
theorem tb_592 : ll_tb (.instanceMethod yX10_readSlot) := ll_pl5 36 (by rfl) rfl
theorem tb_593 : ll_tb (.selects RX10 yX10_readSlot yX10_readSlot) := ll_pl0 44 (by rfl) rfl
theorem tb_594 : ll_tb (.methodLink RX10 301 yX3_become) := ll_pl5 42 (by rfl) rfl
theorem tb_595 : ll_tb (.instanceMethod yX3_become) := ll_pl5 43 (by rfl) rfl
theorem tb_596 : ll_tb (.selects RX3 yX3_become yX3_become) := ll_pl5 44 (by rfl) rfl
theorem tb_597 : ll_tb (.fieldLink RX10 304 (TX2 4).1 (TX2 4).2.1 (TX2 4).2.2.1) := ll_pl1 92 (by rfl) rfl
theorem tb_598 : ll_tb (.methodLink RX10 305 yX7_addAll) := ll_pl3 204 (by rfl) rfl
theorem tb_599 : ll_tb (.methodLink RX10 308 yX7_addBracketed) := ll_pl3 205 (by rfl) rfl
theorem tb_600 : ll_tb (.instanceMethod yX7_addBracketed) := ll_pl3 206 (by rfl) rfl
theorem tb_601 : ll_tb (.selects RX7 yX7_addBracketed yX7_addBracketed) := ll_pl3 207 (by rfl) rfl
theorem tb_602 : ll_tb (.methodLink RX10 311 yX5_partsOfSet) := ll_pl4 43 (by rfl) rfl
theorem tb_603 : ll_tb (.methodLink RX11 1 Lib.objectInit) := ll_pl5 68 (by rfl) rfl
theorem tb_604 : ll_tb (.constant RX11 7 42882) := ll_pl5 69 (by rfl) rfl
theorem tb_605 : ll_tb (.fieldLink RX11 8 (TX11 0).1 (TX11 0).2.1 (TX11 0).2.2.1) := ll_pl5 75 (by rfl) rfl
theorem tb_606 : ll_tb (.fieldLink RX11 14 (TX11 1).1 (TX11 1).2.1 (TX11 1).2.2.1) := ll_pl5 76 (by rfl) rfl
theorem tb_607 : ll_tb (.fieldLink RX11 17 (TX11 2).1 (TX11 2).2.1 (TX11 2).2.2.1) := ll_pl5 77 (by rfl) rfl
theorem tb_608 : ll_tb (.fieldLink RX11 21 (TX11 4).1 (TX11 4).2.1 (TX11 4).2.2.1) := ll_pl5 79 (by rfl) rfl
theorem tb_609 : ll_tb (.fieldLink RX11 25 (TX11 5).1 (TX11 5).2.1 (TX11 5).2.2.1) := ll_pl5 80 (by rfl) rfl
theorem tb_610 : ll_tb (.fieldLink RX11 28 (TX11 6).1 (TX11 6).2.1 (TX11 6).2.2.1) := ll_pl5 81 (by rfl) rfl
theorem tb_611 : ll_tb (.fieldLink RX11 31 (TX11 7).1 (TX11 7).2.1 (TX11 7).2.2.1) := ll_pl5 82 (by rfl) rfl
theorem tb_612 : ll_tb (.fieldLink RX11 34 (TX11 8).1 (TX11 8).2.1 (TX11 8).2.2.1) := ll_pl5 83 (by rfl) rfl
theorem tb_613 : ll_tb (.fieldLink RX11 37 (TX11 9).1 (TX11 9).2.1 (TX11 9).2.2.1) := ll_pl5 84 (by rfl) rfl
theorem tb_614 : ll_tb (.fieldLink RX11 40 (TX11 10).1 (TX11 10).2.1 (TX11 10).2.2.1) := ll_pl5 85 (by rfl) rfl
theorem tb_615 : ll_tb (.fieldLink RX11 43 (TX11 11).1 (TX11 11).2.1 (TX11 11).2.2.1) := ll_pl5 86 (by rfl) rfl
theorem tb_616 : ll_tb (.fieldLink RX11 46 (TX11 14).1 (TX11 14).2.1 (TX11 14).2.2.1) := ll_pl5 89 (by rfl) rfl
theorem tb_617 : ll_tb (.fieldLink RX11 49 (TX11 15).1 (TX11 15).2.1 (TX11 15).2.2.1) := ll_pl5 90 (by rfl) rfl
theorem tb_618 : ll_tb (.constant RX11 52 48000) := ll_pl5 70 (by rfl) rfl
theorem tb_619 : ll_tb (.fieldLink RX11 53 (TX11 16).1 (TX11 16).2.1 (TX11 16).2.2.1) := ll_pl5 91 (by rfl) rfl
theorem tb_620 : ll_tb (.fieldLink RX11 56 (TX11 18).1 (TX11 18).2.1 (TX11 18).2.2.1) := ll_pl5 93 (by rfl) rfl
theorem tb_621 : ll_tb (.fieldLink RX11 59 (TX11 20).1 (TX11 20).2.1 (TX11 20).2.2.1) := ll_pl5 95 (by rfl) rfl
theorem tb_622 : ll_tb (.fieldLink RX11 62 (TX11 21).1 (TX11 21).2.1 (TX11 21).2.2.1) := ll_pl5 96 (by rfl) rfl
theorem tb_623 : ll_tb (.fieldLink RX11 65 (TX11 22).1 (TX11 22).2.1 (TX11 22).2.2.1) := ll_pl5 97 (by rfl) rfl
theorem tb_624 : ll_tb (.fieldLink RX11 68 (TX11 23).1 (TX11 23).2.1 (TX11 23).2.2.1) := ll_pl5 98 (by rfl) rfl
theorem tb_625 : ll_tb (.fieldLink RX11 71 (TX11 24).1 (TX11 24).2.1 (TX11 24).2.2.1) := ll_pl5 99 (by rfl) rfl
theorem tb_626 : ll_tb (.fieldLink RX11 74 (TX11 27).1 (TX11 27).2.1 (TX11 27).2.2.1) := ll_pl5 102 (by rfl) rfl
theorem tb_627 : ll_tb (.fieldLink RX11 77 (TX11 28).1 (TX11 28).2.1 (TX11 28).2.2.1) := ll_pl5 103 (by rfl) rfl
theorem tb_628 : ll_tb (.fieldLink RX11 80 (TX11 31).1 (TX11 31).2.1 (TX11 31).2.2.1) := ll_pl5 106 (by rfl) rfl
theorem tb_629 : ll_tb (.fieldLink RX11 83 (TX11 32).1 (TX11 32).2.1 (TX11 32).2.2.1) := ll_pl5 107 (by rfl) rfl
theorem tb_630 : ll_tb (.fieldLink RX11 86 (TX11 34).1 (TX11 34).2.1 (TX11 34).2.2.1) := ll_pl5 109 (by rfl) rfl
theorem tb_631 : ll_tb (.fieldLink RX11 89 (TX11 35).1 (TX11 35).2.1 (TX11 35).2.2.1) := ll_pl5 110 (by rfl) rfl
theorem tb_632 : ll_tb (.fieldLink RX11 92 (TX11 36).1 (TX11 36).2.1 (TX11 36).2.2.1) := ll_pl5 111 (by rfl) rfl
theorem tb_633 : ll_tb (.fieldLink RX11 95 (TX11 37).1 (TX11 37).2.1 (TX11 37).2.2.1) := ll_pl5 112 (by rfl) rfl
theorem tb_634 : ll_tb (.fieldLink RX11 98 (TX11 38).1 (TX11 38).2.1 (TX11 38).2.2.1) := ll_pl5 113 (by rfl) rfl
theorem tb_635 : ll_tb (.fieldLink RX11 101 (TX11 39).1 (TX11 39).2.1 (TX11 39).2.2.1) := ll_pl5 114 (by rfl) rfl
theorem tb_636 : ll_tb (.fieldLink RX11 104 (TX11 40).1 (TX11 40).2.1 (TX11 40).2.2.1) := ll_pl5 115 (by rfl) rfl
theorem tb_637 : ll_tb (.fieldLink RX11 107 (TX11 41).1 (TX11 41).2.1 (TX11 41).2.2.1) := ll_pl5 116 (by rfl) rfl
theorem tb_638 : ll_tb (.fieldLink RX11 110 (TX11 45).1 (TX11 45).2.1 (TX11 45).2.2.1) := ll_pl5 120 (by rfl) rfl
theorem tb_639 : ll_tb (.methodLink RX11 113 yX11_zeroes) := ll_pl5 71 (by rfl) rfl
theorem tb_640 : ll_tb (.instanceMethod yX11_zeroes) := ll_pl5 73 (by rfl) rfl
theorem tb_641 : ll_tb (.selects RX11 yX11_zeroes yX11_zeroes) := ll_pl0 45 (by rfl) rfl
theorem tb_642 : ll_tb (.fieldLink RX11 117 (TX11 12).1 (TX11 12).2.1 (TX11 12).2.2.1) := ll_pl5 87 (by rfl) rfl
theorem tb_643 : ll_tb (.fieldLink RX11 120 (TX11 13).1 (TX11 13).2.1 (TX11 13).2.2.1) := ll_pl5 88 (by rfl) rfl
theorem tb_644 : ll_tb (.fieldLink RX11 123 (TX11 17).1 (TX11 17).2.1 (TX11 17).2.2.1) := ll_pl5 92 (by rfl) rfl
theorem tb_645 : ll_tb (.methodLink RX11 126 yX11_addsNode) := ll_pl5 226 (by rfl) rfl
theorem tb_646 : ll_tb (.instanceMethod yX11_addsNode) := ll_pl5 228 (by rfl) rfl
theorem tb_647 : ll_tb (.selects RX11 yX11_addsNode yX11_addsNode) := ll_pl0 48 (by rfl) rfl
theorem tb_648 : ll_tb (.methodLink RX11 130 yX11_joins) := ll_pl5 230 (by rfl) rfl
theorem tb_649 : ll_tb (.instanceMethod yX11_joins) := ll_pl5 232 (by rfl) rfl
theorem tb_650 : ll_tb (.selects RX11 yX11_joins yX11_joins) := ll_pl0 49 (by rfl) rfl
theorem tb_651 : ll_tb (.fieldLink RX11 134 (TX11 19).1 (TX11 19).2.1 (TX11 19).2.2.1) := ll_pl5 94 (by rfl) rfl
theorem tb_652 : ll_tb (.methodLink RX11 137 yX11_notes) := ll_pl6 25 (by rfl) rfl
theorem tb_653 : ll_tb (.instanceMethod yX11_notes) := ll_pl6 27 (by rfl) rfl
theorem tb_654 : ll_tb (.selects RX11 yX11_notes yX11_notes) := ll_pl0 57 (by rfl) rfl
theorem tb_655 : ll_tb (.methodLink RX11 141 yX11_kept) := ll_pl6 13 (by rfl) rfl
theorem tb_656 : ll_tb (.instanceMethod yX11_kept) := ll_pl6 15 (by rfl) rfl
theorem tb_657 : ll_tb (.selects RX11 yX11_kept yX11_kept) := ll_pl0 54 (by rfl) rfl
theorem tb_658 : ll_tb (.methodLink RX11 144 yX11_product) := ll_pl6 21 (by rfl) rfl
theorem tb_659 : ll_tb (.instanceMethod yX11_product) := ll_pl6 23 (by rfl) rfl
theorem tb_660 : ll_tb (.selects RX11 yX11_product yX11_product) := ll_pl0 56 (by rfl) rfl
theorem tb_661 : ll_tb (.fieldLink RX11 148 (TX11 25).1 (TX11 25).2.1 (TX11 25).2.2.1) := ll_pl5 100 (by rfl) rfl
theorem tb_662 : ll_tb (.methodLink RX11 151 yX11_endsProduct) := ll_pl6 17 (by rfl) rfl
theorem tb_663 : ll_tb (.instanceMethod yX11_endsProduct) := ll_pl6 19 (by rfl) rfl
theorem tb_664 : ll_tb (.selects RX11 yX11_endsProduct yX11_endsProduct) := ll_pl0 55 (by rfl) rfl
theorem tb_665 : ll_tb (.methodLink RX11 154 yX11_sum) := ll_pl6 33 (by rfl) rfl
theorem tb_666 : ll_tb (.instanceMethod yX11_sum) := ll_pl6 35 (by rfl) rfl
theorem tb_667 : ll_tb (.selects RX11 yX11_sum yX11_sum) := ll_pl0 59 (by rfl) rfl
theorem tb_668 : ll_tb (.fieldLink RX11 157 (TX11 26).1 (TX11 26).2.1 (TX11 26).2.2.1) := ll_pl5 101 (by rfl) rfl
theorem tb_669 : ll_tb (.methodLink RX11 160 yX11_opens) := ll_pl5 238 (by rfl) rfl
theorem tb_670 : ll_tb (.instanceMethod yX11_opens) := ll_pl6 0 (by rfl) rfl
theorem tb_671 : ll_tb (.selects RX11 yX11_opens yX11_opens) := ll_pl0 51 (by rfl) rfl
theorem tb_672 : ll_tb (.methodLink RX11 163 yX11_isIn) := ll_pl6 2 (by rfl) rfl
theorem tb_673 : ll_tb (.static yX11_isIn) := ll_pl6 3 (by rfl) rfl
theorem tb_674 : ll_tb (.methodLink RX11 167 yX11_addsFactor) := ll_pl6 5 (by rfl) rfl
theorem tb_675 : ll_tb (.instanceMethod yX11_addsFactor) := ll_pl6 7 (by rfl) rfl
theorem tb_676 : ll_tb (.selects RX11 yX11_addsFactor yX11_addsFactor) := ll_pl0 52 (by rfl) rfl
theorem tb_677 : ll_tb (.methodLink RX11 170 yX11_star) := ll_pl6 9 (by rfl) rfl
theorem tb_678 : ll_tb (.instanceMethod yX11_star) := ll_pl6 11 (by rfl) rfl
theorem tb_679 : ll_tb (.selects RX11 yX11_star yX11_star) := ll_pl0 53 (by rfl) rfl
theorem tb_680 : ll_tb (.methodLink RX11 174 yX11_endsSum) := ll_pl6 29 (by rfl) rfl
theorem tb_681 : ll_tb (.instanceMethod yX11_endsSum) := ll_pl6 31 (by rfl) rfl
theorem tb_682 : ll_tb (.selects RX11 yX11_endsSum yX11_endsSum) := ll_pl0 58 (by rfl) rfl
theorem tb_683 : ll_tb (.fieldLink RX11 178 (TX11 29).1 (TX11 29).2.1 (TX11 29).2.2.1) := ll_pl5 104 (by rfl) rfl
theorem tb_684 : ll_tb (.fieldLink RX11 181 (TX11 30).1 (TX11 30).2.1 (TX11 30).2.2.1) := ll_pl5 105 (by rfl) rfl
theorem tb_685 : ll_tb (.methodLink RX11 184 yX11_pushes) := ll_pl6 195 (by rfl) rfl
theorem tb_686 : ll_tb (.instanceMethod yX11_pushes) := ll_pl6 197 (by rfl) rfl
theorem tb_687 : ll_tb (.selects RX11 yX11_pushes yX11_pushes) := ll_pl0 86 (by rfl) rfl
theorem tb_688 : ll_tb (.methodLink RX11 188 yX11_spellsOne) := ll_pl6 199 (by rfl) rfl
theorem tb_689 : ll_tb (.instanceMethod yX11_spellsOne) := ll_pl6 201 (by rfl) rfl
theorem tb_690 : ll_tb (.selects RX11 yX11_spellsOne yX11_spellsOne) := ll_pl0 87 (by rfl) rfl
theorem tb_691 : ll_tb (.methodLink RX11 191 yX11_pushesByte) := ll_pl6 203 (by rfl) rfl
theorem tb_692 : ll_tb (.instanceMethod yX11_pushesByte) := ll_pl6 205 (by rfl) rfl
theorem tb_693 : ll_tb (.selects RX11 yX11_pushesByte yX11_pushesByte) := ll_pl0 88 (by rfl) rfl
theorem tb_694 : ll_tb (.methodLink RX11 194 yX11_behind) := ll_pl6 53 (by rfl) rfl
theorem tb_695 : ll_tb (.instanceMethod yX11_behind) := ll_pl6 55 (by rfl) rfl
theorem tb_696 : ll_tb (.selects RX11 yX11_behind yX11_behind) := ll_pl0 64 (by rfl) rfl
theorem tb_697 : ll_tb (.fieldLink RX11 198 (TX11 33).1 (TX11 33).2.1 (TX11 33).2.2.1) := ll_pl5 108 (by rfl) rfl
theorem tb_698 : ll_tb (.methodLink RX11 201 yX11_lays) := ll_pl6 61 (by rfl) rfl
theorem tb_699 : ll_tb (.instanceMethod yX11_lays) := ll_pl6 63 (by rfl) rfl
theorem tb_700 : ll_tb (.selects RX11 yX11_lays yX11_lays) := ll_pl0 66 (by rfl) rfl
theorem tb_701 : ll_tb (.methodLink RX11 204 yX11_partOf) := ll_pl6 65 (by rfl) rfl
theorem tb_702 : ll_tb (.instanceMethod yX11_partOf) := ll_pl6 67 (by rfl) rfl
theorem tb_703 : ll_tb (.selects RX11 yX11_partOf yX11_partOf) := ll_pl0 67 (by rfl) rfl
theorem tb_704 : ll_tb (.methodLink RX11 207 yX11_withStar) := ll_pl6 69 (by rfl) rfl
theorem tb_705 : ll_tb (.instanceMethod yX11_withStar) := ll_pl6 71 (by rfl) rfl
theorem tb_706 : ll_tb (.selects RX11 yX11_withStar yX11_withStar) := ll_pl0 68 (by rfl) rfl
theorem tb_707 : ll_tb (.methodLink RX11 210 yX11_lacks) := ll_pl6 49 (by rfl) rfl
theorem tb_708 : ll_tb (.instanceMethod yX11_lacks) := ll_pl6 51 (by rfl) rfl
theorem tb_709 : ll_tb (.selects RX11 yX11_lacks yX11_lacks) := ll_pl0 63 (by rfl) rfl
theorem tb_710 : ll_tb (.methodLink RX11 213 yX11_laysParts) := ll_pl6 57 (by rfl) rfl
theorem tb_711 : ll_tb (.instanceMethod yX11_laysParts) := ll_pl6 59 (by rfl) rfl
theorem tb_712 : ll_tb (.selects RX11 yX11_laysParts yX11_laysParts) := ll_pl0 65 (by rfl) rfl
theorem tb_713 : ll_tb (.methodLink RX11 216 yX11_laysRow) := ll_pl6 41 (by rfl) rfl
theorem tb_714 : ll_tb (.instanceMethod yX11_laysRow) := ll_pl6 43 (by rfl) rfl
theorem tb_715 : ll_tb (.selects RX11 yX11_laysRow yX11_laysRow) := ll_pl0 61 (by rfl) rfl
theorem tb_716 : ll_tb (.methodLink RX11 219 yX11_needs) := ll_pl6 45 (by rfl) rfl
theorem tb_717 : ll_tb (.instanceMethod yX11_needs) := ll_pl6 47 (by rfl) rfl
theorem tb_718 : ll_tb (.selects RX11 yX11_needs yX11_needs) := ll_pl0 62 (by rfl) rfl
theorem tb_719 : ll_tb (.methodLink RX11 222 yX11_termBy) := ll_pl6 73 (by rfl) rfl
theorem tb_720 : ll_tb (.instanceMethod yX11_termBy) := ll_pl6 75 (by rfl) rfl
theorem tb_721 : ll_tb (.selects RX11 yX11_termBy yX11_termBy) := ll_pl0 69 (by rfl) rfl
theorem tb_722 : ll_tb (.methodLink RX11 225 yX11_clears) := ll_pl5 222 (by rfl) rfl
theorem tb_723 : ll_tb (.instanceMethod yX11_clears) := ll_pl5 224 (by rfl) rfl
theorem tb_724 : ll_tb (.selects RX11 yX11_clears yX11_clears) := ll_pl0 47 (by rfl) rfl
theorem tb_725 : ll_tb (.methodLink RX11 228 yX11_told) := ll_pl5 234 (by rfl) rfl
theorem tb_726 : ll_tb (.instanceMethod yX11_told) := ll_pl5 236 (by rfl) rfl
theorem tb_727 : ll_tb (.selects RX11 yX11_told yX11_told) := ll_pl0 50 (by rfl) rfl
theorem tb_728 : ll_tb (.methodLink RX11 231 yX11_laysTerms) := ll_pl6 37 (by rfl) rfl
theorem tb_729 : ll_tb (.instanceMethod yX11_laysTerms) := ll_pl6 39 (by rfl) rfl
theorem tb_730 : ll_tb (.selects RX11 yX11_laysTerms yX11_laysTerms) := ll_pl0 60 (by rfl) rfl
theorem tb_731 : ll_tb (.methodLink RX11 234 yX11_isFull) := ll_pl6 89 (by rfl) rfl
theorem tb_732 : ll_tb (.instanceMethod yX11_isFull) := ll_pl6 91 (by rfl) rfl
theorem tb_733 : ll_tb (.selects RX11 yX11_isFull yX11_isFull) := ll_pl0 73 (by rfl) rfl
theorem tb_734 : ll_tb (.methodLink RX11 238 yX11_partsOf) := ll_pl6 105 (by rfl) rfl
theorem tb_735 : ll_tb (.instanceMethod yX11_partsOf) := ll_pl6 107 (by rfl) rfl
theorem tb_736 : ll_tb (.selects RX11 yX11_partsOf yX11_partsOf) := ll_pl0 77 (by rfl) rfl
theorem tb_737 : ll_tb (.methodLink RX11 241 yX11_lineWith) := ll_pl6 109 (by rfl) rfl
theorem tb_738 : ll_tb (.instanceMethod yX11_lineWith) := ll_pl6 111 (by rfl) rfl
theorem tb_739 : ll_tb (.selects RX11 yX11_lineWith yX11_lineWith) := ll_pl0 78 (by rfl) rfl
theorem tb_740 : ll_tb (.methodLink RX11 244 yX11_newLine) := ll_pl6 81 (by rfl) rfl
theorem tb_741 : ll_tb (.instanceMethod yX11_newLine) := ll_pl6 83 (by rfl) rfl
theorem tb_742 : ll_tb (.selects RX11 yX11_newLine yX11_newLine) := ll_pl0 71 (by rfl) rfl
theorem tb_743 : ll_tb (.methodLink RX11 248 yX11_isMember) := ll_pl6 85 (by rfl) rfl
theorem tb_744 : ll_tb (.instanceMethod yX11_isMember) := ll_pl6 87 (by rfl) rfl
theorem tb_745 : ll_tb (.selects RX11 yX11_isMember yX11_isMember) := ll_pl0 72 (by rfl) rfl
theorem tb_746 : ll_tb (.methodLink RX11 251 yX11_isFullSet) := ll_pl6 93 (by rfl) rfl
theorem tb_747 : ll_tb (.instanceMethod yX11_isFullSet) := ll_pl6 95 (by rfl) rfl
theorem tb_748 : ll_tb (.selects RX11 yX11_isFullSet yX11_isFullSet) := ll_pl0 74 (by rfl) rfl
theorem tb_749 : ll_tb (.methodLink RX11 254 yX11_tellsWord) := ll_pl6 97 (by rfl) rfl
theorem tb_750 : ll_tb (.instanceMethod yX11_tellsWord) := ll_pl6 99 (by rfl) rfl
theorem tb_751 : ll_tb (.selects RX11 yX11_tellsWord yX11_tellsWord) := ll_pl0 75 (by rfl) rfl
theorem tb_752 : ll_tb (.methodLink RX11 257 yX11_steps) := ll_pl6 101 (by rfl) rfl
theorem tb_753 : ll_tb (.instanceMethod yX11_steps) := ll_pl6 103 (by rfl) rfl
theorem tb_754 : ll_tb (.selects RX11 yX11_steps yX11_steps) := ll_pl0 76 (by rfl) rfl
theorem tb_755 : ll_tb (.methodLink RX11 260 yX11_laysBoth) := ll_pl5 218 (by rfl) rfl
theorem tb_756 : ll_tb (.instanceMethod yX11_laysBoth) := ll_pl5 220 (by rfl) rfl
theorem tb_757 : ll_tb (.selects RX11 yX11_laysBoth yX11_laysBoth) := ll_pl0 46 (by rfl) rfl
theorem tb_758 : ll_tb (.methodLink RX11 263 yX11_searches) := ll_pl6 77 (by rfl) rfl
theorem tb_759 : ll_tb (.instanceMethod yX11_searches) := ll_pl6 79 (by rfl) rfl
theorem tb_760 : ll_tb (.selects RX11 yX11_searches yX11_searches) := ll_pl0 70 (by rfl) rfl
theorem tb_761 : ll_tb (.methodLink RX11 266 yX11_tried) := ll_pl6 117 (by rfl) rfl
theorem tb_762 : ll_tb (.instanceMethod yX11_tried) := ll_pl6 119 (by rfl) rfl
theorem tb_763 : ll_tb (.selects RX11 yX11_tried yX11_tried) := ll_pl0 79 (by rfl) rfl
theorem tb_764 : ll_tb (.methodLink RX11 269 yX11_isSlot) := ll_pl6 125 (by rfl) rfl
theorem tb_765 : ll_tb (.static yX11_isSlot) := ll_pl6 126 (by rfl) rfl
theorem tb_766 : ll_tb (.methodLink RX11 273 yX11_placeOf) := ll_pl6 140 (by rfl) rfl
theorem tb_767 : ll_tb (.static yX11_placeOf) := ll_pl6 141 (by rfl) rfl
theorem tb_768 : ll_tb (.methodLink RX11 276 yX11_isTold) := ll_pl6 151 (by rfl) rfl
theorem tb_769 : ll_tb (.instanceMethod yX11_isTold) := ll_pl6 153 (by rfl) rfl
theorem tb_770 : ll_tb (.selects RX11 yX11_isTold yX11_isTold) := ll_pl0 80 (by rfl) rfl
theorem tb_771 : ll_tb (.fieldLink RX11 279 (TX11 3).1 (TX11 3).2.1 (TX11 3).2.2.1) := ll_pl5 78 (by rfl) rfl
theorem tb_772 : ll_tb (.fieldLink RX11 282 (TX11 42).1 (TX11 42).2.1 (TX11 42).2.2.1) := ll_pl5 117 (by rfl) rfl
theorem tb_773 : ll_tb (.fieldLink RX11 285 (TX11 43).1 (TX11 43).2.1 (TX11 43).2.2.1) := ll_pl5 118 (by rfl) rfl
theorem tb_774 : ll_tb (.methodLink RX11 288 yX11_hasPremise) := ll_pl6 167 (by rfl) rfl
theorem tb_775 : ll_tb (.instanceMethod yX11_hasPremise) := ll_pl6 169 (by rfl) rfl
theorem tb_776 : ll_tb (.selects RX11 yX11_hasPremise yX11_hasPremise) := ll_pl0 83 (by rfl) rfl
theorem tb_777 : ll_tb (.methodLink RX11 291 yX11_reason) := ll_pl6 163 (by rfl) rfl
theorem tb_778 : ll_tb (.instanceMethod yX11_reason) := ll_pl6 165 (by rfl) rfl
theorem tb_779 : ll_tb (.selects RX11 yX11_reason yX11_reason) := ll_pl0 82 (by rfl) rfl
theorem tb_780 : ll_tb (.fieldLink RX11 294 (TX11 44).1 (TX11 44).2.1 (TX11 44).2.2.1) := ll_pl5 119 (by rfl) rfl
theorem tb_781 : ll_tb (.methodLink RX11 297 yX11_bad) := ll_pl6 159 (by rfl) rfl
theorem tb_782 : ll_tb (.instanceMethod yX11_bad) := ll_pl6 161 (by rfl) rfl
theorem tb_783 : ll_tb (.selects RX11 yX11_bad yX11_bad) := ll_pl0 81 (by rfl) rfl
theorem tb_784 : ll_tb (.constantLong RX11 300 255) := ll_pl6 179 (by rfl) rfl
theorem tb_785 : ll_tb (.methodLink RX11 302 yX11_spells) := ll_pl6 191 (by rfl) rfl
theorem tb_786 : ll_tb (.instanceMethod yX11_spells) := ll_pl6 193 (by rfl) rfl
theorem tb_787 : ll_tb (.selects RX11 yX11_spells yX11_spells) := ll_pl0 85 (by rfl) rfl
theorem tb_788 : ll_tb (.methodLink RX11 305 yX11_forgets) := ll_pl6 207 (by rfl) rfl
theorem tb_789 : ll_tb (.instanceMethod yX11_forgets) := ll_pl6 209 (by rfl) rfl
theorem tb_790 : ll_tb (.selects RX11 yX11_forgets yX11_forgets) := ll_pl0 89 (by rfl) rfl
theorem tb_791 : ll_tb (.methodLink RX11 308 yX11_isSide) := ll_pl6 184 (by rfl) rfl
theorem tb_792 : ll_tb (.static yX11_isSide) := ll_pl6 185 (by rfl) rfl
theorem tb_793 : ll_tb (.methodLink RX11 311 yX11_becomes) := ll_pl6 187 (by rfl) rfl
theorem tb_794 : ll_tb (.instanceMethod yX11_becomes) := ll_pl6 189 (by rfl) rfl
theorem tb_795 : ll_tb (.selects RX11 yX11_becomes yX11_becomes) := ll_pl0 84 (by rfl) rfl
theorem tb_796 : ll_tb (.methodLink RX11 314 yX11_copies) := ll_pl6 219 (by rfl) rfl
theorem tb_797 : ll_tb (.instanceMethod yX11_copies) := ll_pl6 221 (by rfl) rfl
theorem tb_798 : ll_tb (.selects RX11 yX11_copies yX11_copies) := ll_pl0 90 (by rfl) rfl
theorem tb_799 : ll_tb (.methodLink RX11 317 yX11_spelled) := ll_pl6 235 (by rfl) rfl
theorem tb_800 : ll_tb (.instanceMethod yX11_spelled) := ll_pl6 237 (by rfl) rfl
theorem tb_801 : ll_tb (.selects RX11 yX11_spelled yX11_spelled) := ll_pl0 91 (by rfl) rfl
theorem tb_802 : ll_tb (.methodLink RX11 320 yX11_byteAt) := ll_pl6 239 (by rfl) rfl
theorem tb_803 : ll_tb (.instanceMethod yX11_byteAt) := ll_pl7 1 (by rfl) rfl
theorem tb_804 : ll_tb (.selects RX11 yX11_byteAt yX11_byteAt) := ll_pl0 92 (by rfl) rfl
theorem tb_805 : ll_tb (.methodLink RX11 323 yX11_isWord) := ll_pl7 27 (by rfl) rfl
theorem tb_806 : ll_tb (.instanceMethod yX11_isWord) := ll_pl7 29 (by rfl) rfl
theorem tb_807 : ll_tb (.selects RX11 yX11_isWord yX11_isWord) := ll_pl0 95 (by rfl) rfl
theorem tb_808 : ll_tb (.methodLink RX11 326 yX11_isOne) := ll_pl7 23 (by rfl) rfl
theorem tb_809 : ll_tb (.instanceMethod yX11_isOne) := ll_pl7 25 (by rfl) rfl
theorem tb_810 : ll_tb (.selects RX11 yX11_isOne yX11_isOne) := ll_pl0 94 (by rfl) rfl
theorem tb_811 : ll_tb (.methodLink RX11 329 yX11_number) := ll_pl7 31 (by rfl) rfl
theorem tb_812 : ll_tb (.instanceMethod yX11_number) := ll_pl7 33 (by rfl) rfl
theorem tb_813 : ll_tb (.selects RX11 yX11_number yX11_number) := ll_pl0 96 (by rfl) rfl
theorem tb_814 : ll_tb (.methodLink RX11 332 yX11_goesOn) := ll_pl7 35 (by rfl) rfl
theorem tb_815 : ll_tb (.instanceMethod yX11_goesOn) := ll_pl7 37 (by rfl) rfl
theorem tb_816 : ll_tb (.selects RX11 yX11_goesOn yX11_goesOn) := ll_pl0 97 (by rfl) rfl
theorem tb_817 : ll_tb (.methodLink RX11 335 yX11_listed) := ll_pl7 19 (by rfl) rfl
theorem tb_818 : ll_tb (.instanceMethod yX11_listed) := ll_pl7 21 (by rfl) rfl
theorem tb_819 : ll_tb (.selects RX11 yX11_listed yX11_listed) := ll_pl0 93 (by rfl) rfl
theorem tb_820 : ll_tb (.classLink RL 7 RX10) := ll_pl1 16 (by rfl) rfl
theorem tb_821 : ll_tb (.instantiable RX10 11) := ll_pl1 17 (by rfl) rfl
theorem tb_822 : ll_tb (.initialized RX10) := ll_pl1 1 (by rfl) rfl
theorem tb_823 : ll_tb (.methodLink RL 9 yX10_init) := ll_pl1 18 (by rfl) rfl
theorem tb_824 : ll_tb (.instanceMethod yX10_init) := ll_pl1 19 (by rfl) rfl
theorem tb_825 : ll_tb (.classLink RL 10 RX11) := ll_pl5 63 (by rfl) rfl
theorem tb_826 : ll_tb (.instantiable RX11 46) := ll_pl5 64 (by rfl) rfl
theorem tb_827 : ll_tb (.initialized RX11) := ll_pl1 14 (by rfl) rfl
theorem tb_828 : ll_tb (.methodLink RL 12 yX11_init) := ll_pl5 65 (by rfl) rfl
theorem tb_829 : ll_tb (.instanceMethod yX11_init) := ll_pl5 66 (by rfl) rfl
theorem tb_830 : ll_tb (.constantLong RL 13 4294967295) := ll_pl7 51 (by rfl) rfl
theorem tb_831 : ll_tb (.methodLink RL 15 yX10_write) := ll_pl3 63 (by rfl) rfl
theorem tb_832 : ll_tb (.instanceMethod yX10_write) := ll_pl3 64 (by rfl) rfl
theorem tb_833 : ll_tb (.selects RX10 yX10_write yX10_write) := ll_pl3 65 (by rfl) rfl
theorem tb_834 : ll_tb (.methodLink RL 19 yX11_write) := ll_pl6 175 (by rfl) rfl
theorem tb_835 : ll_tb (.instanceMethod yX11_write) := ll_pl6 176 (by rfl) rfl
theorem tb_836 : ll_tb (.selects RX11 yX11_write yX11_write) := ll_pl6 177 (by rfl) rfl
theorem tb_837 : ll_tb (.methodLink RL 20 yX10_side) := ll_pl3 74 (by rfl) rfl
theorem tb_838 : ll_tb (.instanceMethod yX10_side) := ll_pl3 75 (by rfl) rfl
theorem tb_839 : ll_tb (.selects RX10 yX10_side yX10_side) := ll_pl3 76 (by rfl) rfl
theorem tb_840 : ll_tb (.methodLink RL 24 yX11_side) := ll_pl6 180 (by rfl) rfl
theorem tb_841 : ll_tb (.instanceMethod yX11_side) := ll_pl6 181 (by rfl) rfl
theorem tb_842 : ll_tb (.selects RX11 yX11_side yX11_side) := ll_pl6 182 (by rfl) rfl
theorem tb_843 : ll_tb (.methodLink RL 25 yX10_fault) := ll_pl3 181 (by rfl) rfl
theorem tb_844 : ll_tb (.instanceMethod yX10_fault) := ll_pl3 182 (by rfl) rfl
theorem tb_845 : ll_tb (.selects RX10 yX10_fault yX10_fault) := ll_pl3 183 (by rfl) rfl
theorem tb_846 : ll_tb (.methodLink RL 29 yX11_fault) := ll_pl6 211 (by rfl) rfl
theorem tb_847 : ll_tb (.instanceMethod yX11_fault) := ll_pl6 212 (by rfl) rfl
theorem tb_848 : ll_tb (.selects RX11 yX11_fault yX11_fault) := ll_pl6 213 (by rfl) rfl
theorem tb_849 : ll_tb (.methodLink RL 30 yX10_swap) := ll_pl3 185 (by rfl) rfl
theorem tb_850 : ll_tb (.instanceMethod yX10_swap) := ll_pl3 186 (by rfl) rfl
theorem tb_851 : ll_tb (.selects RX10 yX10_swap yX10_swap) := ll_pl3 187 (by rfl) rfl
theorem tb_852 : ll_tb (.methodLink RL 33 yX11_swap) := ll_pl6 215 (by rfl) rfl
theorem tb_853 : ll_tb (.instanceMethod yX11_swap) := ll_pl6 216 (by rfl) rfl
theorem tb_854 : ll_tb (.selects RX11 yX11_swap yX11_swap) := ll_pl6 217 (by rfl) rfl
theorem tb_855 : ll_tb (.methodLink RL 34 yX10_keep) := ll_pl3 189 (by rfl) rfl
theorem tb_856 : ll_tb (.instanceMethod yX10_keep) := ll_pl3 190 (by rfl) rfl
theorem tb_857 : ll_tb (.selects RX10 yX10_keep yX10_keep) := ll_pl3 191 (by rfl) rfl
theorem tb_858 : ll_tb (.methodLink RL 38 yX11_keep) := ll_pl6 223 (by rfl) rfl
theorem tb_859 : ll_tb (.instanceMethod yX11_keep) := ll_pl6 224 (by rfl) rfl
theorem tb_860 : ll_tb (.selects RX11 yX11_keep yX11_keep) := ll_pl6 225 (by rfl) rfl
theorem tb_861 : ll_tb (.methodLink RL 39 yX10_make) := ll_pl3 196 (by rfl) rfl
theorem tb_862 : ll_tb (.instanceMethod yX10_make) := ll_pl3 197 (by rfl) rfl
theorem tb_863 : ll_tb (.selects RX10 yX10_make yX10_make) := ll_pl3 198 (by rfl) rfl
theorem tb_864 : ll_tb (.methodLink RL 43 yX11_make) := ll_pl6 227 (by rfl) rfl
theorem tb_865 : ll_tb (.instanceMethod yX11_make) := ll_pl6 228 (by rfl) rfl
theorem tb_866 : ll_tb (.selects RX11 yX11_make yX11_make) := ll_pl6 229 (by rfl) rfl
theorem tb_867 : ll_tb (.methodLink RL 44 yX10_shape) := ll_pl3 215 (by rfl) rfl
theorem tb_868 : ll_tb (.instanceMethod yX10_shape) := ll_pl3 216 (by rfl) rfl
theorem tb_869 : ll_tb (.selects RX10 yX10_shape yX10_shape) := ll_pl3 217 (by rfl) rfl
theorem tb_870 : ll_tb (.methodLink RL 48 yX11_shape) := ll_pl6 231 (by rfl) rfl
theorem tb_871 : ll_tb (.instanceMethod yX11_shape) := ll_pl6 232 (by rfl) rfl
theorem tb_872 : ll_tb (.selects RX11 yX11_shape yX11_shape) := ll_pl6 233 (by rfl) rfl
theorem tb_873 : ll_tb (.methodLink RL 49 yX10_term) := ll_pl3 233 (by rfl) rfl
theorem tb_874 : ll_tb (.instanceMethod yX10_term) := ll_pl3 234 (by rfl) rfl
theorem tb_875 : ll_tb (.selects RX10 yX10_term yX10_term) := ll_pl3 235 (by rfl) rfl
theorem tb_876 : ll_tb (.methodLink RL 53 yX11_term) := ll_pl7 3 (by rfl) rfl
theorem tb_877 : ll_tb (.instanceMethod yX11_term) := ll_pl7 4 (by rfl) rfl
theorem tb_878 : ll_tb (.selects RX11 yX11_term yX11_term) := ll_pl7 5 (by rfl) rfl
theorem tb_879 : ll_tb (.methodLink RL 54 yX10_like) := ll_pl4 23 (by rfl) rfl
theorem tb_880 : ll_tb (.instanceMethod yX10_like) := ll_pl4 24 (by rfl) rfl
theorem tb_881 : ll_tb (.selects RX10 yX10_like yX10_like) := ll_pl4 25 (by rfl) rfl
theorem tb_882 : ll_tb (.methodLink RL 57 yX11_like) := ll_pl7 7 (by rfl) rfl
theorem tb_883 : ll_tb (.instanceMethod yX11_like) := ll_pl7 8 (by rfl) rfl
theorem tb_884 : ll_tb (.selects RX11 yX11_like yX11_like) := ll_pl7 9 (by rfl) rfl
theorem tb_885 : ll_tb (.methodLink RL 58 yX10_has) := ll_pl4 35 (by rfl) rfl
theorem tb_886 : ll_tb (.instanceMethod yX10_has) := ll_pl4 36 (by rfl) rfl
theorem tb_887 : ll_tb (.selects RX10 yX10_has yX10_has) := ll_pl4 37 (by rfl) rfl
theorem tb_888 : ll_tb (.methodLink RL 62 yX11_has) := ll_pl7 11 (by rfl) rfl
theorem tb_889 : ll_tb (.instanceMethod yX11_has) := ll_pl7 12 (by rfl) rfl
theorem tb_890 : ll_tb (.selects RX11 yX11_has yX11_has) := ll_pl7 13 (by rfl) rfl
theorem tb_891 : ll_tb (.methodLink RL 63 yX10_words) := ll_pl4 47 (by rfl) rfl
theorem tb_892 : ll_tb (.instanceMethod yX10_words) := ll_pl4 48 (by rfl) rfl
theorem tb_893 : ll_tb (.selects RX10 yX10_words yX10_words) := ll_pl4 49 (by rfl) rfl
theorem tb_894 : ll_tb (.methodLink RL 66 yX11_words) := ll_pl7 15 (by rfl) rfl
theorem tb_895 : ll_tb (.instanceMethod yX11_words) := ll_pl7 16 (by rfl) rfl
theorem tb_896 : ll_tb (.selects RX11 yX11_words yX11_words) := ll_pl7 17 (by rfl) rfl
theorem tb_897 : ll_tb (.methodLink RL 67 yX10_word) := ll_pl4 96 (by rfl) rfl
theorem tb_898 : ll_tb (.instanceMethod yX10_word) := ll_pl4 97 (by rfl) rfl
theorem tb_899 : ll_tb (.selects RX10 yX10_word yX10_word) := ll_pl4 98 (by rfl) rfl
theorem tb_900 : ll_tb (.methodLink RL 70 yX11_word) := ll_pl7 39 (by rfl) rfl
theorem tb_901 : ll_tb (.instanceMethod yX11_word) := ll_pl7 40 (by rfl) rfl
theorem tb_902 : ll_tb (.selects RX11 yX11_word yX11_word) := ll_pl7 41 (by rfl) rfl
theorem tb_903 : ll_tb (.methodLink RL 71 yX10_prove) := ll_pl4 105 (by rfl) rfl
theorem tb_904 : ll_tb (.instanceMethod yX10_prove) := ll_pl4 106 (by rfl) rfl
theorem tb_905 : ll_tb (.selects RX10 yX10_prove yX10_prove) := ll_pl4 107 (by rfl) rfl
theorem tb_906 : ll_tb (.methodLink RL 74 yX11_prove) := ll_pl5 214 (by rfl) rfl
theorem tb_907 : ll_tb (.instanceMethod yX11_prove) := ll_pl5 215 (by rfl) rfl
theorem tb_908 : ll_tb (.selects RX11 yX11_prove yX11_prove) := ll_pl5 216 (by rfl) rfl
theorem tb_909 : ll_tb (.methodLink RL 75 yX10_apart) := ll_pl4 168 (by rfl) rfl
theorem tb_910 : ll_tb (.instanceMethod yX10_apart) := ll_pl4 169 (by rfl) rfl
theorem tb_911 : ll_tb (.selects RX10 yX10_apart yX10_apart) := ll_pl4 170 (by rfl) rfl
theorem tb_912 : ll_tb (.methodLink RL 78 yX11_apart) := ll_pl6 128 (by rfl) rfl
theorem tb_913 : ll_tb (.instanceMethod yX11_apart) := ll_pl6 129 (by rfl) rfl
theorem tb_914 : ll_tb (.selects RX11 yX11_apart yX11_apart) := ll_pl6 130 (by rfl) rfl
theorem tb_915 : ll_tb (.methodLink RL 79 yX10_count) := ll_pl4 172 (by rfl) rfl
theorem tb_916 : ll_tb (.instanceMethod yX10_count) := ll_pl4 173 (by rfl) rfl
theorem tb_917 : ll_tb (.selects RX10 yX10_count yX10_count) := ll_pl4 174 (by rfl) rfl
theorem tb_918 : ll_tb (.methodLink RL 82 yX11_count) := ll_pl6 147 (by rfl) rfl
theorem tb_919 : ll_tb (.instanceMethod yX11_count) := ll_pl6 148 (by rfl) rfl
theorem tb_920 : ll_tb (.selects RX11 yX11_count yX11_count) := ll_pl6 149 (by rfl) rfl
theorem tb_921 : ll_tb (.methodLink RL 83 yX10_line) := ll_pl4 189 (by rfl) rfl
theorem tb_922 : ll_tb (.instanceMethod yX10_line) := ll_pl4 190 (by rfl) rfl
theorem tb_923 : ll_tb (.selects RX10 yX10_line yX10_line) := ll_pl4 191 (by rfl) rfl
theorem tb_924 : ll_tb (.methodLink RL 86 yX11_line) := ll_pl6 132 (by rfl) rfl
theorem tb_925 : ll_tb (.instanceMethod yX11_line) := ll_pl6 133 (by rfl) rfl
theorem tb_926 : ll_tb (.selects RX11 yX11_line yX11_line) := ll_pl6 134 (by rfl) rfl
theorem tb_927 : ll_tb (.methodLink RL 87 yX10_alter) := ll_pl4 202 (by rfl) rfl
theorem tb_928 : ll_tb (.instanceMethod yX10_alter) := ll_pl4 203 (by rfl) rfl
theorem tb_929 : ll_tb (.selects RX10 yX10_alter yX10_alter) := ll_pl4 204 (by rfl) rfl
theorem tb_930 : ll_tb (.methodLink RL 90 yX11_alter) := ll_pl6 136 (by rfl) rfl
theorem tb_931 : ll_tb (.instanceMethod yX11_alter) := ll_pl6 137 (by rfl) rfl
theorem tb_932 : ll_tb (.selects RX11 yX11_alter yX11_alter) := ll_pl6 138 (by rfl) rfl
theorem tb_933 : ll_tb (.methodLink RL 91 yX10_cut) := ll_pl4 209 (by rfl) rfl
theorem tb_934 : ll_tb (.instanceMethod yX10_cut) := ll_pl4 210 (by rfl) rfl
theorem tb_935 : ll_tb (.selects RX10 yX10_cut yX10_cut) := ll_pl4 211 (by rfl) rfl
theorem tb_936 : ll_tb (.methodLink RL 94 yX11_cut) := ll_pl6 143 (by rfl) rfl
theorem tb_937 : ll_tb (.instanceMethod yX11_cut) := ll_pl6 144 (by rfl) rfl
theorem tb_938 : ll_tb (.selects RX11 yX11_cut yX11_cut) := ll_pl6 145 (by rfl) rfl
theorem tb_939 : ll_tb (.methodLink RL 95 yX10_check) := ll_pl4 218 (by rfl) rfl
theorem tb_940 : ll_tb (.instanceMethod yX10_check) := ll_pl4 219 (by rfl) rfl
theorem tb_941 : ll_tb (.selects RX10 yX10_check yX10_check) := ll_pl4 220 (by rfl) rfl
theorem tb_942 : ll_tb (.methodLink RL 98 yX11_check) := ll_pl6 155 (by rfl) rfl
theorem tb_943 : ll_tb (.instanceMethod yX11_check) := ll_pl6 156 (by rfl) rfl
theorem tb_944 : ll_tb (.selects RX11 yX11_check yX11_check) := ll_pl6 157 (by rfl) rfl
theorem tb_945 : ll_tb (.methodLink RL 99 yX10_why) := ll_pl5 22 (by rfl) rfl
theorem tb_946 : ll_tb (.instanceMethod yX10_why) := ll_pl5 23 (by rfl) rfl
theorem tb_947 : ll_tb (.selects RX10 yX10_why yX10_why) := ll_pl5 24 (by rfl) rfl
theorem tb_948 : ll_tb (.methodLink RL 102 yX11_why) := ll_pl6 171 (by rfl) rfl
theorem tb_949 : ll_tb (.instanceMethod yX11_why) := ll_pl6 172 (by rfl) rfl
theorem tb_950 : ll_tb (.selects RX11 yX11_why yX11_why) := ll_pl6 173 (by rfl) rfl
theorem tb_951 : ll_tb (.methodLink RL 103 yX10_same) := ll_pl5 26 (by rfl) rfl
theorem tb_952 : ll_tb (.instanceMethod yX10_same) := ll_pl5 27 (by rfl) rfl
theorem tb_953 : ll_tb (.selects RX10 yX10_same yX10_same) := ll_pl5 28 (by rfl) rfl
theorem tb_954 : ll_tb (.methodLink RL 106 yX11_same) := ll_pl6 113 (by rfl) rfl
theorem tb_955 : ll_tb (.instanceMethod yX11_same) := ll_pl6 114 (by rfl) rfl
theorem tb_956 : ll_tb (.selects RX11 yX11_same yX11_same) := ll_pl6 115 (by rfl) rfl
theorem tb_957 : ll_tb (.methodLink RL 107 yX10_between) := ll_pl5 30 (by rfl) rfl
theorem tb_958 : ll_tb (.instanceMethod yX10_between) := ll_pl5 31 (by rfl) rfl
theorem tb_959 : ll_tb (.selects RX10 yX10_between yX10_between) := ll_pl5 32 (by rfl) rfl
theorem tb_960 : ll_tb (.methodLink RL 110 yX11_between) := ll_pl6 121 (by rfl) rfl
theorem tb_961 : ll_tb (.instanceMethod yX11_between) := ll_pl6 122 (by rfl) rfl
theorem tb_962 : ll_tb (.selects RX11 yX11_between yX11_between) := ll_pl6 123 (by rfl) rfl
theorem tb_963 : ll_tb (.methodLink RL 111 yX10_image) := ll_pl5 38 (by rfl) rfl
theorem tb_964 : ll_tb (.instanceMethod yX10_image) := ll_pl5 39 (by rfl) rfl
theorem tb_965 : ll_tb (.selects RX10 yX10_image yX10_image) := ll_pl5 40 (by rfl) rfl
theorem tb_966 : ll_tb (.methodLink RL 114 yX11_image) := ll_pl7 43 (by rfl) rfl
theorem tb_967 : ll_tb (.instanceMethod yX11_image) := ll_pl7 44 (by rfl) rfl
theorem tb_968 : ll_tb (.selects RX11 yX11_image yX11_image) := ll_pl7 45 (by rfl) rfl
theorem tb_969 : ll_tb (.methodLink RL 115 yX10_again) := ll_pl5 59 (by rfl) rfl
theorem tb_970 : ll_tb (.instanceMethod yX10_again) := ll_pl5 60 (by rfl) rfl
theorem tb_971 : ll_tb (.selects RX10 yX10_again yX10_again) := ll_pl5 61 (by rfl) rfl
theorem tb_972 : ll_tb (.methodLink RL 118 yX11_again) := ll_pl7 47 (by rfl) rfl
theorem tb_973 : ll_tb (.instanceMethod yX11_again) := ll_pl7 48 (by rfl) rfl
theorem tb_974 : ll_tb (.selects RX11 yX11_again yX11_again) := ll_pl7 49 (by rfl) rfl
theorem tb_975 : ll_tb (.code yX0_init cX0_init 4 none) := ll_pl2 58 (by rfl) rfl
theorem tb_976 : ll_tb (.code yX0_look cX0_look 5 none) := ll_pl4 225 (by rfl) rfl
theorem tb_977 : ll_tb (.code yX0_startsWell cX0_startsWell 1 (some .boolean)) := ll_pl5 21 (by rfl) rfl
theorem tb_978 : ll_tb (.code yX0_reasonOf cX0_reasonOf 5 (some .int)) := ll_pl4 229 (by rfl) rfl
theorem tb_979 : ll_tb (.code yX0_isMember cX0_isMember 4 (some .boolean)) := ll_pl4 238 (by rfl) rfl
theorem tb_980 : ll_tb (.code yX0_premisesAreLines cX0_premisesAreLines 3 (some .boolean)) := ll_pl5 4 (by rfl) rfl
theorem tb_981 : ll_tb (.code yX0_partsAreProved cX0_partsAreProved 8 (some .boolean)) := ll_pl5 10 (by rfl) rfl
theorem tb_982 : ll_tb (.code yX0_hasPremiseFor cX0_hasPremiseFor 6 (some .boolean)) := ll_pl5 17 (by rfl) rfl
theorem tb_983 : ll_tb (.code yX1_init cX1_init 1 none) := ll_pl1 193 (by rfl) rfl
theorem tb_984 : ll_tb (.code yX1_clear cX1_clear 1 none) := ll_pl3 179 (by rfl) rfl
theorem tb_985 : ll_tb (.code yX1_isLine cX1_isLine 2 (some .boolean)) := ll_pl4 188 (by rfl) rfl
theorem tb_986 : ll_tb (.code yX1_isPremise cX1_isPremise 3 (some .boolean)) := ll_pl4 197 (by rfl) rfl
theorem tb_987 : ll_tb (.code yX1_premiseOf cX1_premiseOf 3 (some .int)) := ll_pl4 201 (by rfl) rfl
theorem tb_988 : ll_tb (.code yX1_addLine cX1_addLine 4 (some .int)) := ll_pl4 122 (by rfl) rfl
theorem tb_989 : ll_tb (.code yX1_openPremises cX1_openPremises 2 none) := ll_pl4 145 (by rfl) rfl
theorem tb_990 : ll_tb (.code yX1_addPremise cX1_addPremise 3 none) := ll_pl4 163 (by rfl) rfl
theorem tb_991 : ll_tb (.code yX1_dropPremises cX1_dropPremises 2 none) := ll_pl4 167 (by rfl) rfl
theorem tb_992 : ll_tb (.code yX1_dropLast cX1_dropLast 1 (some .int)) := ll_pl4 216 (by rfl) rfl
theorem tb_993 : ll_tb (.code yX1_ofRule cX1_ofRule 4 (some .int)) := ll_pl4 179 (by rfl) rfl
theorem tb_994 : ll_tb (.code yX1_premisesOfNone cX1_premisesOfNone 3 (some .int)) := ll_pl4 183 (by rfl) rfl
theorem tb_995 : ll_tb (.code yX1_become cX1_become 2 none) := ll_pl5 50 (by rfl) rfl
theorem tb_996 : ll_tb (.code yX2_init cX2_init 3 none) := ll_pl1 85 (by rfl) rfl
theorem tb_997 : ll_tb (.code yX2_read cX2_read 4 (some .int)) := ll_pl3 85 (by rfl) rfl
theorem tb_998 : ll_tb (.code yX2_readSum cX2_readSum 5 (some .int)) := ll_pl3 93 (by rfl) rfl
theorem tb_999 : ll_tb (.code yX2_readProduct cX2_readProduct 5 (some .int)) := ll_pl3 101 (by rfl) rfl
theorem tb_1000 : ll_tb (.code yX2_readFactor cX2_readFactor 4 (some .int)) := ll_pl3 105 (by rfl) rfl
theorem tb_1001 : ll_tb (.code yX2_readAtom cX2_readAtom 4 (some .int)) := ll_pl3 109 (by rfl) rfl
theorem tb_1002 : ll_tb (.code yX2_next cX2_next 1 (some .int)) := ll_pl3 113 (by rfl) rfl
theorem tb_1003 : ll_tb (.code yX2_beginsAtom cX2_beginsAtom 1 (some .boolean)) := ll_pl3 120 (by rfl) rfl
theorem tb_1004 : ll_tb (.code yX3_init cX3_init 2 none) := ll_pl2 118 (by rfl) rfl
theorem tb_1005 : ll_tb (.code yX3_become cX3_become 3 none) := ll_pl5 45 (by rfl) rfl
theorem tb_1006 : ll_tb (.code yX4_init cX4_init 4 none) := ll_pl2 21 (by rfl) rfl
theorem tb_1007 : ll_tb (.code yX4_run cX4_run 6 (some .int)) := ll_pl4 112 (by rfl) rfl
theorem tb_1008 : ll_tb (.code yX4_takeTurn cX4_takeTurn 4 (some .int)) := ll_pl4 127 (by rfl) rfl
theorem tb_1009 : ll_tb (.code yX4_step cX4_step 9 (some .boolean)) := ll_pl4 141 (by rfl) rfl
theorem tb_1010 : ll_tb (.code yX4_lineFor cX4_lineFor 7 (some .int)) := ll_pl4 159 (by rfl) rfl
theorem tb_1011 : ll_tb (.code yX4_comeTo cX4_comeTo 6 (some .int)) := ll_pl4 118 (by rfl) rfl
theorem tb_1012 : ll_tb (.code yX4_tellApart cX4_tellApart 5 none) := ll_pl4 132 (by rfl) rfl
theorem tb_1013 : ll_tb (.code yX5_init cX5_init 1 none) := ll_pl1 142 (by rfl) rfl
theorem tb_1014 : ll_tb (.code yX5_clear cX5_clear 1 none) := ll_pl2 156 (by rfl) rfl
theorem tb_1015 : ll_tb (.code yX5_openTerm cX5_openTerm 2 none) := ll_pl2 228 (by rfl) rfl
theorem tb_1016 : ll_tb (.code yX5_openParts cX5_openParts 2 none) := ll_pl2 236 (by rfl) rfl
theorem tb_1017 : ll_tb (.code yX5_addPart cX5_addPart 3 none) := ll_pl3 8 (by rfl) rfl
theorem tb_1018 : ll_tb (.code yX5_closeTerm cX5_closeTerm 1 none) := ll_pl3 12 (by rfl) rfl
theorem tb_1019 : ll_tb (.code yX5_become cX5_become 3 none) := ll_pl5 56 (by rfl) rfl
theorem tb_1020 : ll_tb (.code yX5_isTerm cX5_isTerm 2 (some .boolean)) := ll_pl4 0 (by rfl) rfl
theorem tb_1021 : ll_tb (.code yX5_isSet cX5_isSet 2 (some .boolean)) := ll_pl4 234 (by rfl) rfl
theorem tb_1022 : ll_tb (.code yX5_anyFull cX5_anyFull 2 (some .boolean)) := ll_pl3 222 (by rfl) rfl
theorem tb_1023 : ll_tb (.code yX5_lettersSpelt cX5_lettersSpelt 3 (some .int)) := ll_pl3 226 (by rfl) rfl
theorem tb_1024 : ll_tb (.code yX5_termBytes cX5_termBytes 2 (some .int)) := ll_pl4 4 (by rfl) rfl
theorem tb_1025 : ll_tb (.code yX5_termByte cX5_termByte 3 (some .int)) := ll_pl4 20 (by rfl) rfl
theorem tb_1026 : ll_tb (.code yX5_partSet cX5_partSet 3 (some .int)) := ll_pl4 13 (by rfl) rfl
theorem tb_1027 : ll_tb (.code yX5_partsOf cX5_partsOf 4 (some .int)) := ll_pl4 150 (by rfl) rfl
theorem tb_1028 : ll_tb (.code yX5_partOf cX5_partOf 4 (some .int)) := ll_pl4 154 (by rfl) rfl
theorem tb_1029 : ll_tb (.code yX5_partsOfSet cX5_partsOfSet 5 (some .int)) := ll_pl4 46 (by rfl) rfl
theorem tb_1030 : ll_tb (.code yX5_alikeTerm cX5_alikeTerm 4 (some .int)) := ll_pl4 30 (by rfl) rfl
theorem tb_1031 : ll_tb (.code yX5_isLetter cX5_isLetter 1 (some .boolean)) := ll_pl4 16 (by rfl) rfl
theorem tb_1032 : ll_tb (.code yX5_signsStart cX5_signsStart 2 (some .int)) := ll_pl4 9 (by rfl) rfl
theorem tb_1033 : ll_tb (.code yX5_isAlike cX5_isAlike 8 (some .boolean)) := ll_pl4 34 (by rfl) rfl
theorem tb_1034 : ll_tb (.code yX6_init cX6_init 2 none) := ll_pl1 108 (by rfl) rfl
theorem tb_1035 : ll_tb (.code yX6_speltBytes cX6_speltBytes 2 (some .int)) := ll_pl3 213 (by rfl) rfl
theorem tb_1036 : ll_tb (.code yX6_findTerms cX6_findTerms 5 none) := ll_pl2 152 (by rfl) rfl
theorem tb_1037 : ll_tb (.code yX6_tellTerm cX6_tellTerm 7 none) := ll_pl2 219 (by rfl) rfl
theorem tb_1038 : ll_tb (.code yX6_findParts cX6_findParts 5 none) := ll_pl2 232 (by rfl) rfl
theorem tb_1039 : ll_tb (.code yX6_gatherFactors cX6_gatherFactors 7 none) := ll_pl3 0 (by rfl) rfl
theorem tb_1040 : ll_tb (.code yX6_gatherNode cX6_gatherNode 6 none) := ll_pl3 4 (by rfl) rfl
theorem tb_1041 : ll_tb (.code yX6_pushFactors cX6_pushFactors 3 none) := ll_pl2 200 (by rfl) rfl
theorem tb_1042 : ll_tb (.code yX6_push cX6_push 2 none) := ll_pl2 207 (by rfl) rfl
theorem tb_1043 : ll_tb (.code yX6_numberOfTerm cX6_numberOfTerm 3 (some .int)) := ll_pl2 211 (by rfl) rfl
theorem tb_1044 : ll_tb (.code yX6_isBehind cX6_isBehind 3 (some .boolean)) := ll_pl2 215 (by rfl) rfl
theorem tb_1045 : ll_tb (.code yX7_init cX7_init 2 none) := ll_pl1 66 (by rfl) rfl
theorem tb_1046 : ll_tb (.code yX7_clear cX7_clear 1 none) := ll_pl2 160 (by rfl) rfl
theorem tb_1047 : ll_tb (.code yX7_add cX7_add 2 none) := ll_pl2 176 (by rfl) rfl
theorem tb_1048 : ll_tb (.code yX7_addAll cX7_addAll 3 none) := ll_pl3 21 (by rfl) rfl
theorem tb_1049 : ll_tb (.code yX7_addBracketed cX7_addBracketed 2 none) := ll_pl3 208 (by rfl) rfl
theorem tb_1050 : ll_tb (.code yX7_become cX7_become 2 none) := ll_pl3 16 (by rfl) rfl
theorem tb_1051 : ll_tb (.code yX7_setAt cX7_setAt 3 none) := ll_pl4 137 (by rfl) rfl
theorem tb_1052 : ll_tb (.code yX7_at cX7_at 2 (some .int)) := ll_pl3 117 (by rfl) rfl
theorem tb_1053 : ll_tb (.code yX7_countOf cX7_countOf 4 (some .int)) := ll_pl3 230 (by rfl) rfl
theorem tb_1054 : ll_tb (.code yX8_init cX8_init 2 none) := ll_pl1 28 (by rfl) rfl
theorem tb_1055 : ll_tb (.code yX8_clear cX8_clear 1 none) := ll_pl3 89 (by rfl) rfl
theorem tb_1056 : ll_tb (.code yX8_kindOf cX8_kindOf 2 (some .int)) := ll_pl2 172 (by rfl) rfl
theorem tb_1057 : ll_tb (.code yX8_childrenOf cX8_childrenOf 2 (some .int)) := ll_pl2 188 (by rfl) rfl
theorem tb_1058 : ll_tb (.code yX8_childOf cX8_childOf 4 (some .int)) := ll_pl2 180 (by rfl) rfl
theorem tb_1059 : ll_tb (.code yX8_shortestOf cX8_shortestOf 2 (some .int)) := ll_pl2 192 (by rfl) rfl
theorem tb_1060 : ll_tb (.code yX8_nestOf cX8_nestOf 2 (some .int)) := ll_pl2 196 (by rfl) rfl
theorem tb_1061 : ll_tb (.code yX8_isFull cX8_isFull 2 (some .boolean)) := ll_pl2 223 (by rfl) rfl
theorem tb_1062 : ll_tb (.code yX8_mark cX8_mark 1 (some .int)) := ll_pl3 97 (by rfl) rfl
theorem tb_1063 : ll_tb (.code yX8_addSummand cX8_addSummand 4 none) := ll_pl3 158 (by rfl) rfl
theorem tb_1064 : ll_tb (.code yX8_addFactor cX8_addFactor 3 none) := ll_pl3 146 (by rfl) rfl
theorem tb_1065 : ll_tb (.code yX8_closeSum cX8_closeSum 2 (some .int)) := ll_pl3 166 (by rfl) rfl
theorem tb_1066 : ll_tb (.code yX8_closeProduct cX8_closeProduct 3 (some .int)) := ll_pl3 150 (by rfl) rfl
theorem tb_1067 : ll_tb (.code yX8_starOf cX8_starOf 4 (some .int)) := ll_pl3 124 (by rfl) rfl
theorem tb_1068 : ll_tb (.code yX8_spell cX8_spell 4 none) := ll_pl2 164 (by rfl) rfl
theorem tb_1069 : ll_tb (.code yX8_spellNode cX8_spellNode 7 none) := ll_pl2 168 (by rfl) rfl
theorem tb_1070 : ll_tb (.code yX8_spellChildren cX8_spellChildren 6 none) := ll_pl2 184 (by rfl) rfl
theorem tb_1071 : ll_tb (.code yX8_push cX8_push 2 none) := ll_pl3 128 (by rfl) rfl
theorem tb_1072 : ll_tb (.code yX8_addOnce cX8_addOnce 4 none) := ll_pl3 162 (by rfl) rfl
theorem tb_1073 : ll_tb (.code yX8_close cX8_close 6 (some .int)) := ll_pl3 154 (by rfl) rfl
theorem tb_1074 : ll_tb (.code yX8_nodeOf cX8_nodeOf 4 (some .int)) := ll_pl3 132 (by rfl) rfl
theorem tb_1075 : ll_tb (.code yX8_hasChildren cX8_hasChildren 4 (some .boolean)) := ll_pl3 136 (by rfl) rfl
theorem tb_1076 : ll_tb (.code yX8_newNode cX8_newNode 9 (some .int)) := ll_pl3 140 (by rfl) rfl
theorem tb_1077 : ll_tb (.code yX9_init cX9_init 3 none) := ll_pl2 90 (by rfl) rfl
theorem tb_1078 : ll_tb (.code yX9_howMany cX9_howMany 5 (some .int)) := ll_pl4 57 (by rfl) rfl
theorem tb_1079 : ll_tb (.code yX9_nth cX9_nth 13 (some .int)) := ll_pl4 103 (by rfl) rfl
theorem tb_1080 : ll_tb (.code yX9_begin cX9_begin 4 none) := ll_pl4 61 (by rfl) rfl
theorem tb_1081 : ll_tb (.code yX9_startLeft cX9_startLeft 1 (some .int)) := ll_pl4 68 (by rfl) rfl
theorem tb_1082 : ll_tb (.code yX9_startRight cX9_startRight 1 (some .int)) := ll_pl4 72 (by rfl) rfl
theorem tb_1083 : ll_tb (.code yX9_countBehind cX9_countBehind 5 (some .int)) := ll_pl4 94 (by rfl) rfl
theorem tb_1084 : ll_tb (.code yX9_countFrom cX9_countFrom 7 (some .int)) := ll_pl4 76 (by rfl) rfl
theorem tb_1085 : ll_tb (.code yX9_fits cX9_fits 3 (some .boolean)) := ll_pl4 81 (by rfl) rfl
theorem tb_1086 : ll_tb (.code yX9_allWords cX9_allWords 3 (some .int)) := ll_pl4 84 (by rfl) rfl
theorem tb_1087 : ll_tb (.code yX9_cellOf cX9_cellOf 4 (some .int)) := ll_pl4 87 (by rfl) rfl
theorem tb_1088 : ll_tb (.code yX10_init cX10_init 3 none) := ll_pl1 20 (by rfl) rfl
theorem tb_1089 : ll_tb (.code yX10_write cX10_write 6 (some .int)) := ll_pl3 66 (by rfl) rfl
theorem tb_1090 : ll_tb (.code yX10_side cX10_side 5 (some .int)) := ll_pl3 77 (by rfl) rfl
theorem tb_1091 : ll_tb (.code yX10_fault cX10_fault 1 (some .int)) := ll_pl3 184 (by rfl) rfl
theorem tb_1092 : ll_tb (.code yX10_swap cX10_swap 2 none) := ll_pl3 188 (by rfl) rfl
theorem tb_1093 : ll_tb (.code yX10_keep cX10_keep 3 (some .boolean)) := ll_pl3 192 (by rfl) rfl
theorem tb_1094 : ll_tb (.code yX10_make cX10_make 7 (some .int)) := ll_pl3 199 (by rfl) rfl
theorem tb_1095 : ll_tb (.code yX10_shape cX10_shape 4 (some .int)) := ll_pl3 218 (by rfl) rfl
theorem tb_1096 : ll_tb (.code yX10_term cX10_term 5 (some .int)) := ll_pl3 236 (by rfl) rfl
theorem tb_1097 : ll_tb (.code yX10_like cX10_like 3 (some .int)) := ll_pl4 26 (by rfl) rfl
theorem tb_1098 : ll_tb (.code yX10_has cX10_has 3 (some .boolean)) := ll_pl4 38 (by rfl) rfl
theorem tb_1099 : ll_tb (.code yX10_words cX10_words 3 (some .int)) := ll_pl4 50 (by rfl) rfl
theorem tb_1100 : ll_tb (.code yX10_word cX10_word 4 (some .int)) := ll_pl4 99 (by rfl) rfl
theorem tb_1101 : ll_tb (.code yX10_prove cX10_prove 1 (some .int)) := ll_pl4 108 (by rfl) rfl
theorem tb_1102 : ll_tb (.code yX10_apart cX10_apart 3 (some .int)) := ll_pl4 171 (by rfl) rfl
theorem tb_1103 : ll_tb (.code yX10_count cX10_count 3 (some .int)) := ll_pl4 175 (by rfl) rfl
theorem tb_1104 : ll_tb (.code yX10_line cX10_line 4 (some .int)) := ll_pl4 192 (by rfl) rfl
theorem tb_1105 : ll_tb (.code yX10_alter cX10_alter 5 (some .int)) := ll_pl4 205 (by rfl) rfl
theorem tb_1106 : ll_tb (.code yX10_cut cX10_cut 1 (some .int)) := ll_pl4 212 (by rfl) rfl
theorem tb_1107 : ll_tb (.code yX10_check cX10_check 1 (some .int)) := ll_pl4 221 (by rfl) rfl
theorem tb_1108 : ll_tb (.code yX10_why cX10_why 2 (some .int)) := ll_pl5 25 (by rfl) rfl
theorem tb_1109 : ll_tb (.code yX10_same cX10_same 3 (some .int)) := ll_pl5 29 (by rfl) rfl
theorem tb_1110 : ll_tb (.code yX10_between cX10_between 3 (some .int)) := ll_pl5 33 (by rfl) rfl
theorem tb_1111 : ll_tb (.code yX10_image cX10_image 2 (some .boolean)) := ll_pl5 41 (by rfl) rfl
theorem tb_1112 : ll_tb (.code yX10_again cX10_again 2 (some .boolean)) := ll_pl5 62 (by rfl) rfl
theorem tb_1113 : ll_tb (.code yX10_isSide cX10_isSide 1 (some .boolean)) := ll_pl3 80 (by rfl) rfl
theorem tb_1114 : ll_tb (.code yX10_isSlot cX10_isSlot 1 (some .boolean)) := ll_pl3 195 (by rfl) rfl
theorem tb_1115 : ll_tb (.code yX10_canCount cX10_canCount 2 (some .boolean)) := ll_pl4 53 (by rfl) rfl
theorem tb_1116 : ll_tb (.code yX10_byteOf cX10_byteOf 3 (some .int)) := ll_pl3 72 (by rfl) rfl
theorem tb_1117 : ll_tb (.code yX10_bytesOf cX10_bytesOf 3 (some .int)) := ll_pl3 69 (by rfl) rfl
theorem tb_1118 : ll_tb (.code yX10_replace cX10_replace 4 (some .int)) := ll_pl4 208 (by rfl) rfl
theorem tb_1119 : ll_tb (.code yX10_faultOf cX10_faultOf 3 (some .int)) := ll_pl3 170 (by rfl) rfl
theorem tb_1120 : ll_tb (.code yX10_put cX10_put 3 (some .int)) := ll_pl3 175 (by rfl) rfl
theorem tb_1121 : ll_tb (.code yX10_readSlot cX10_readSlot 4 (some .int)) := ll_pl5 37 (by rfl) rfl
theorem tb_1122 : ll_tb (.code yX10_draftOf cX10_draftOf 4 none) := ll_pl3 203 (by rfl) rfl
theorem tb_1123 : ll_tb (.code yX10_tapeIsWordOf cX10_tapeIsWordOf 6 (some .boolean)) := ll_pl4 42 (by rfl) rfl
theorem tb_1124 : ll_tb (.code yX11_init cX11_init 2 none) := ll_pl5 67 (by rfl) rfl
theorem tb_1125 : ll_tb (.code yX11_zeroes cX11_zeroes 2 none) := ll_pl5 74 (by rfl) rfl
theorem tb_1126 : ll_tb (.code yX11_isIn cX11_isIn 3 (some .boolean)) := ll_pl6 4 (by rfl) rfl
theorem tb_1127 : ll_tb (.code yX11_copies cX11_copies 5 none) := ll_pl6 222 (by rfl) rfl
theorem tb_1128 : ll_tb (.code yX11_clears cX11_clears 2 none) := ll_pl5 225 (by rfl) rfl
theorem tb_1129 : ll_tb (.code yX11_addsNode cX11_addsNode 5 (some .int)) := ll_pl5 229 (by rfl) rfl
theorem tb_1130 : ll_tb (.code yX11_joins cX11_joins 4 none) := ll_pl5 233 (by rfl) rfl
theorem tb_1131 : ll_tb (.code yX11_kept cX11_kept 6 (some .int)) := ll_pl6 16 (by rfl) rfl
theorem tb_1132 : ll_tb (.code yX11_notes cX11_notes 4 none) := ll_pl6 28 (by rfl) rfl
theorem tb_1133 : ll_tb (.code yX11_sum cX11_sum 7 (some .int)) := ll_pl6 36 (by rfl) rfl
theorem tb_1134 : ll_tb (.code yX11_product cX11_product 7 (some .int)) := ll_pl6 24 (by rfl) rfl
theorem tb_1135 : ll_tb (.code yX11_star cX11_star 2 (some .int)) := ll_pl6 12 (by rfl) rfl
theorem tb_1136 : ll_tb (.code yX11_behind cX11_behind 6 (some .int)) := ll_pl6 56 (by rfl) rfl
theorem tb_1137 : ll_tb (.code yX11_opens cX11_opens 1 none) := ll_pl6 1 (by rfl) rfl
theorem tb_1138 : ll_tb (.code yX11_addsFactor cX11_addsFactor 2 none) := ll_pl6 8 (by rfl) rfl
theorem tb_1139 : ll_tb (.code yX11_endsProduct cX11_endsProduct 1 none) := ll_pl6 20 (by rfl) rfl
theorem tb_1140 : ll_tb (.code yX11_endsSum cX11_endsSum 1 (some .int)) := ll_pl6 32 (by rfl) rfl
theorem tb_1141 : ll_tb (.code yX11_told cX11_told 9 (some .int)) := ll_pl5 237 (by rfl) rfl
theorem tb_1142 : ll_tb (.code yX11_pushes cX11_pushes 3 none) := ll_pl6 198 (by rfl) rfl
theorem tb_1143 : ll_tb (.code yX11_pushesByte cX11_pushesByte 2 none) := ll_pl6 206 (by rfl) rfl
theorem tb_1144 : ll_tb (.code yX11_spells cX11_spells 3 none) := ll_pl6 194 (by rfl) rfl
theorem tb_1145 : ll_tb (.code yX11_spellsOne cX11_spellsOne 6 none) := ll_pl6 202 (by rfl) rfl
theorem tb_1146 : ll_tb (.code yX11_lacks cX11_lacks 5 (some .int)) := ll_pl6 52 (by rfl) rfl
theorem tb_1147 : ll_tb (.code yX11_lays cX11_lays 3 none) := ll_pl6 64 (by rfl) rfl
theorem tb_1148 : ll_tb (.code yX11_partOf cX11_partOf 4 (some .int)) := ll_pl6 68 (by rfl) rfl
theorem tb_1149 : ll_tb (.code yX11_laysParts cX11_laysParts 6 none) := ll_pl6 60 (by rfl) rfl
theorem tb_1150 : ll_tb (.code yX11_withStar cX11_withStar 3 (some .int)) := ll_pl6 72 (by rfl) rfl
theorem tb_1151 : ll_tb (.code yX11_needs cX11_needs 5 none) := ll_pl6 48 (by rfl) rfl
theorem tb_1152 : ll_tb (.code yX11_termBy cX11_termBy 4 (some .int)) := ll_pl6 76 (by rfl) rfl
theorem tb_1153 : ll_tb (.code yX11_laysTerms cX11_laysTerms 5 none) := ll_pl6 40 (by rfl) rfl
theorem tb_1154 : ll_tb (.code yX11_laysRow cX11_laysRow 9 none) := ll_pl6 44 (by rfl) rfl
theorem tb_1155 : ll_tb (.code yX11_laysBoth cX11_laysBoth 5 none) := ll_pl5 221 (by rfl) rfl
theorem tb_1156 : ll_tb (.code yX11_isFull cX11_isFull 3 (some .boolean)) := ll_pl6 92 (by rfl) rfl
theorem tb_1157 : ll_tb (.code yX11_isFullSet cX11_isFullSet 4 (some .boolean)) := ll_pl6 96 (by rfl) rfl
theorem tb_1158 : ll_tb (.code yX11_partsOf cX11_partsOf 6 (some .int)) := ll_pl6 108 (by rfl) rfl
theorem tb_1159 : ll_tb (.code yX11_isMember cX11_isMember 4 (some .boolean)) := ll_pl6 88 (by rfl) rfl
theorem tb_1160 : ll_tb (.code yX11_lineWith cX11_lineWith 5 (some .int)) := ll_pl6 112 (by rfl) rfl
theorem tb_1161 : ll_tb (.code yX11_newLine cX11_newLine 7 none) := ll_pl6 84 (by rfl) rfl
theorem tb_1162 : ll_tb (.code yX11_steps cX11_steps 11 (some .boolean)) := ll_pl6 104 (by rfl) rfl
theorem tb_1163 : ll_tb (.code yX11_tellsWord cX11_tellsWord 6 none) := ll_pl6 100 (by rfl) rfl
theorem tb_1164 : ll_tb (.code yX11_searches cX11_searches 5 (some .int)) := ll_pl6 80 (by rfl) rfl
theorem tb_1165 : ll_tb (.code yX11_forgets cX11_forgets 2 none) := ll_pl6 210 (by rfl) rfl
theorem tb_1166 : ll_tb (.code yX11_prove cX11_prove 1 (some .int)) := ll_pl5 217 (by rfl) rfl
theorem tb_1167 : ll_tb (.code yX11_tried cX11_tried 3 (some .int)) := ll_pl6 120 (by rfl) rfl
theorem tb_1168 : ll_tb (.code yX11_same cX11_same 3 (some .int)) := ll_pl6 116 (by rfl) rfl
theorem tb_1169 : ll_tb (.code yX11_isSlot cX11_isSlot 1 (some .boolean)) := ll_pl6 127 (by rfl) rfl
theorem tb_1170 : ll_tb (.code yX11_between cX11_between 3 (some .int)) := ll_pl6 124 (by rfl) rfl
theorem tb_1171 : ll_tb (.code yX11_apart cX11_apart 2 (some .int)) := ll_pl6 131 (by rfl) rfl
theorem tb_1172 : ll_tb (.code yX11_line cX11_line 3 (some .int)) := ll_pl6 135 (by rfl) rfl
theorem tb_1173 : ll_tb (.code yX11_placeOf cX11_placeOf 2 (some .int)) := ll_pl6 142 (by rfl) rfl
theorem tb_1174 : ll_tb (.code yX11_alter cX11_alter 6 (some .int)) := ll_pl6 139 (by rfl) rfl
theorem tb_1175 : ll_tb (.code yX11_cut cX11_cut 1 (some .int)) := ll_pl6 146 (by rfl) rfl
theorem tb_1176 : ll_tb (.code yX11_isTold cX11_isTold 4 (some .boolean)) := ll_pl6 154 (by rfl) rfl
theorem tb_1177 : ll_tb (.code yX11_count cX11_count 4 (some .int)) := ll_pl6 150 (by rfl) rfl
theorem tb_1178 : ll_tb (.code yX11_hasPremise cX11_hasPremise 6 (some .boolean)) := ll_pl6 170 (by rfl) rfl
theorem tb_1179 : ll_tb (.code yX11_reason cX11_reason 9 (some .int)) := ll_pl6 166 (by rfl) rfl
theorem tb_1180 : ll_tb (.code yX11_bad cX11_bad 2 (some .int)) := ll_pl6 162 (by rfl) rfl
theorem tb_1181 : ll_tb (.code yX11_check cX11_check 1 (some .int)) := ll_pl6 158 (by rfl) rfl
theorem tb_1182 : ll_tb (.code yX11_why cX11_why 3 (some .int)) := ll_pl6 174 (by rfl) rfl
theorem tb_1183 : ll_tb (.code yX11_write cX11_write 5 (some .int)) := ll_pl6 178 (by rfl) rfl
theorem tb_1184 : ll_tb (.code yX11_isSide cX11_isSide 1 (some .boolean)) := ll_pl6 186 (by rfl) rfl
theorem tb_1185 : ll_tb (.code yX11_becomes cX11_becomes 4 (some .int)) := ll_pl6 190 (by rfl) rfl
theorem tb_1186 : ll_tb (.code yX11_side cX11_side 4 (some .int)) := ll_pl6 183 (by rfl) rfl
theorem tb_1187 : ll_tb (.code yX11_fault cX11_fault 1 (some .int)) := ll_pl6 214 (by rfl) rfl
theorem tb_1188 : ll_tb (.code yX11_swap cX11_swap 1 none) := ll_pl6 218 (by rfl) rfl
theorem tb_1189 : ll_tb (.code yX11_keep cX11_keep 3 (some .boolean)) := ll_pl6 226 (by rfl) rfl
theorem tb_1190 : ll_tb (.code yX11_make cX11_make 8 (some .int)) := ll_pl6 230 (by rfl) rfl
theorem tb_1191 : ll_tb (.code yX11_spelled cX11_spelled 4 (some .int)) := ll_pl6 238 (by rfl) rfl
theorem tb_1192 : ll_tb (.code yX11_byteAt cX11_byteAt 2 (some .int)) := ll_pl7 2 (by rfl) rfl
theorem tb_1193 : ll_tb (.code yX11_shape cX11_shape 4 (some .int)) := ll_pl6 234 (by rfl) rfl
theorem tb_1194 : ll_tb (.code yX11_term cX11_term 4 (some .int)) := ll_pl7 6 (by rfl) rfl
theorem tb_1195 : ll_tb (.code yX11_like cX11_like 3 (some .int)) := ll_pl7 10 (by rfl) rfl
theorem tb_1196 : ll_tb (.code yX11_has cX11_has 5 (some .boolean)) := ll_pl7 14 (by rfl) rfl
theorem tb_1197 : ll_tb (.code yX11_isWord cX11_isWord 5 (some .boolean)) := ll_pl7 30 (by rfl) rfl
theorem tb_1198 : ll_tb (.code yX11_isOne cX11_isOne 5 (some .boolean)) := ll_pl7 26 (by rfl) rfl
theorem tb_1199 : ll_tb (.code yX11_goesOn cX11_goesOn 3 (some .boolean)) := ll_pl7 38 (by rfl) rfl
theorem tb_1200 : ll_tb (.code yX11_number cX11_number 4 (some .int)) := ll_pl7 34 (by rfl) rfl
theorem tb_1201 : ll_tb (.code yX11_listed cX11_listed 6 (some .int)) := ll_pl7 22 (by rfl) rfl
theorem tb_1202 : ll_tb (.code yX11_words cX11_words 3 (some .int)) := ll_pl7 18 (by rfl) rfl
theorem tb_1203 : ll_tb (.code yX11_word cX11_word 4 (some .int)) := ll_pl7 42 (by rfl) rfl
theorem tb_1204 : ll_tb (.code yX11_image cX11_image 4 (some .boolean)) := ll_pl7 46 (by rfl) rfl
theorem tb_1205 : ll_tb (.code yX11_again cX11_again 4 (some .boolean)) := ll_pl7 50 (by rfl) rfl
theorem tb_1206 : ll_tb (.code yJ7_fill_53178 cJ7_fill_53178 4 none) := ll_pl4 64 (by rfl) rfl
theorem tb_1207 : ll_tb (.initialized RJ7) := ll_pl1 15 (by rfl) rfl
theorem in_0 : ∀ w ∈ u_ws RX0 TX0 7, w ∈ ll_T := (List.forall_mem_cons.mpr ⟨ll_T_in (ll_pl2 71 (by rfl) rfl), List.forall_mem_cons.mpr ⟨ll_T_in (ll_pl2 73 (by rfl) rfl), List.forall_mem_cons.mpr ⟨ll_T_in (ll_pl2 75 (by rfl) rfl), List.forall_mem_cons.mpr ⟨ll_T_in (ll_pl2 77 (by rfl) rfl), List.forall_mem_cons.mpr ⟨ll_T_in (ll_pl2 79 (by rfl) rfl), List.forall_mem_cons.mpr ⟨ll_T_in (ll_pl2 81 (by rfl) rfl), List.forall_mem_cons.mpr ⟨ll_T_in (ll_pl2 83 (by rfl) rfl), fun _ h => absurd h List.not_mem_nil⟩⟩⟩⟩⟩⟩⟩ : ∀ w ∈ [u_lay RX0 TX0 0, u_lay RX0 TX0 1, u_lay RX0 TX0 2, u_lay RX0 TX0 3, u_lay RX0 TX0 4, u_lay RX0 TX0 5, u_lay RX0 TX0 6], w ∈ ll_T)
theorem in_1 : ∀ w ∈ u_ws RX1 TX1 12, w ∈ ll_T := (List.forall_mem_cons.mpr ⟨ll_T_in (ll_pl1 232 (by rfl) rfl), List.forall_mem_cons.mpr ⟨ll_T_in (ll_pl1 234 (by rfl) rfl), List.forall_mem_cons.mpr ⟨ll_T_in (ll_pl1 236 (by rfl) rfl), List.forall_mem_cons.mpr ⟨ll_T_in (ll_pl1 238 (by rfl) rfl), List.forall_mem_cons.mpr ⟨ll_T_in (ll_pl2 0 (by rfl) rfl), List.forall_mem_cons.mpr ⟨ll_T_in (ll_pl2 2 (by rfl) rfl), List.forall_mem_cons.mpr ⟨ll_T_in (ll_pl2 4 (by rfl) rfl), List.forall_mem_cons.mpr ⟨ll_T_in (ll_pl2 6 (by rfl) rfl), List.forall_mem_cons.mpr ⟨ll_T_in (ll_pl2 8 (by rfl) rfl), List.forall_mem_cons.mpr ⟨ll_T_in (ll_pl2 10 (by rfl) rfl), List.forall_mem_cons.mpr ⟨ll_T_in (ll_pl2 12 (by rfl) rfl), List.forall_mem_cons.mpr ⟨ll_T_in (ll_pl2 14 (by rfl) rfl), fun _ h => absurd h List.not_mem_nil⟩⟩⟩⟩⟩⟩⟩⟩⟩⟩⟩⟩ : ∀ w ∈ [u_lay RX1 TX1 0, u_lay RX1 TX1 1, u_lay RX1 TX1 2, u_lay RX1 TX1 3, u_lay RX1 TX1 4, u_lay RX1 TX1 5, u_lay RX1 TX1 6, u_lay RX1 TX1 7, u_lay RX1 TX1 8, u_lay RX1 TX1 9, u_lay RX1 TX1 10, u_lay RX1 TX1 11], w ∈ ll_T)
theorem in_2 : ∀ w ∈ u_ws RX2 TX2 5, w ∈ ll_T := (List.forall_mem_cons.mpr ⟨ll_T_in (ll_pl1 93 (by rfl) rfl), List.forall_mem_cons.mpr ⟨ll_T_in (ll_pl1 95 (by rfl) rfl), List.forall_mem_cons.mpr ⟨ll_T_in (ll_pl1 97 (by rfl) rfl), List.forall_mem_cons.mpr ⟨ll_T_in (ll_pl1 99 (by rfl) rfl), List.forall_mem_cons.mpr ⟨ll_T_in (ll_pl1 101 (by rfl) rfl), fun _ h => absurd h List.not_mem_nil⟩⟩⟩⟩⟩ : ∀ w ∈ [u_lay RX2 TX2 0, u_lay RX2 TX2 1, u_lay RX2 TX2 2, u_lay RX2 TX2 3, u_lay RX2 TX2 4], w ∈ ll_T)
theorem in_3 : ∀ w ∈ u_ws RX3 TX3 5, w ∈ ll_T := (List.forall_mem_cons.mpr ⟨ll_T_in (ll_pl2 137 (by rfl) rfl), List.forall_mem_cons.mpr ⟨ll_T_in (ll_pl2 139 (by rfl) rfl), List.forall_mem_cons.mpr ⟨ll_T_in (ll_pl2 141 (by rfl) rfl), List.forall_mem_cons.mpr ⟨ll_T_in (ll_pl2 143 (by rfl) rfl), List.forall_mem_cons.mpr ⟨ll_T_in (ll_pl2 145 (by rfl) rfl), fun _ h => absurd h List.not_mem_nil⟩⟩⟩⟩⟩ : ∀ w ∈ [u_lay RX3 TX3 0, u_lay RX3 TX3 1, u_lay RX3 TX3 2, u_lay RX3 TX3 3, u_lay RX3 TX3 4], w ∈ ll_T)
theorem in_4 : ∀ w ∈ u_ws RX4 TX4 10, w ∈ ll_T := (List.forall_mem_cons.mpr ⟨ll_T_in (ll_pl2 33 (by rfl) rfl), List.forall_mem_cons.mpr ⟨ll_T_in (ll_pl2 35 (by rfl) rfl), List.forall_mem_cons.mpr ⟨ll_T_in (ll_pl2 37 (by rfl) rfl), List.forall_mem_cons.mpr ⟨ll_T_in (ll_pl2 39 (by rfl) rfl), List.forall_mem_cons.mpr ⟨ll_T_in (ll_pl2 41 (by rfl) rfl), List.forall_mem_cons.mpr ⟨ll_T_in (ll_pl2 43 (by rfl) rfl), List.forall_mem_cons.mpr ⟨ll_T_in (ll_pl2 45 (by rfl) rfl), List.forall_mem_cons.mpr ⟨ll_T_in (ll_pl2 47 (by rfl) rfl), List.forall_mem_cons.mpr ⟨ll_T_in (ll_pl2 49 (by rfl) rfl), List.forall_mem_cons.mpr ⟨ll_T_in (ll_pl2 51 (by rfl) rfl), fun _ h => absurd h List.not_mem_nil⟩⟩⟩⟩⟩⟩⟩⟩⟩⟩ : ∀ w ∈ [u_lay RX4 TX4 0, u_lay RX4 TX4 1, u_lay RX4 TX4 2, u_lay RX4 TX4 3, u_lay RX4 TX4 4, u_lay RX4 TX4 5, u_lay RX4 TX4 6, u_lay RX4 TX4 7, u_lay RX4 TX4 8, u_lay RX4 TX4 9], w ∈ ll_T)
theorem in_5 : ∀ w ∈ u_ws RX5 TX5 11, w ∈ ll_T := (List.forall_mem_cons.mpr ⟨ll_T_in (ll_pl1 166 (by rfl) rfl), List.forall_mem_cons.mpr ⟨ll_T_in (ll_pl1 168 (by rfl) rfl), List.forall_mem_cons.mpr ⟨ll_T_in (ll_pl1 170 (by rfl) rfl), List.forall_mem_cons.mpr ⟨ll_T_in (ll_pl1 172 (by rfl) rfl), List.forall_mem_cons.mpr ⟨ll_T_in (ll_pl1 174 (by rfl) rfl), List.forall_mem_cons.mpr ⟨ll_T_in (ll_pl1 176 (by rfl) rfl), List.forall_mem_cons.mpr ⟨ll_T_in (ll_pl1 178 (by rfl) rfl), List.forall_mem_cons.mpr ⟨ll_T_in (ll_pl1 180 (by rfl) rfl), List.forall_mem_cons.mpr ⟨ll_T_in (ll_pl1 182 (by rfl) rfl), List.forall_mem_cons.mpr ⟨ll_T_in (ll_pl1 184 (by rfl) rfl), List.forall_mem_cons.mpr ⟨ll_T_in (ll_pl1 186 (by rfl) rfl), fun _ h => absurd h List.not_mem_nil⟩⟩⟩⟩⟩⟩⟩⟩⟩⟩⟩ : ∀ w ∈ [u_lay RX5 TX5 0, u_lay RX5 TX5 1, u_lay RX5 TX5 2, u_lay RX5 TX5 3, u_lay RX5 TX5 4, u_lay RX5 TX5 5, u_lay RX5 TX5 6, u_lay RX5 TX5 7, u_lay RX5 TX5 8, u_lay RX5 TX5 9, u_lay RX5 TX5 10], w ∈ ll_T)
theorem in_6 : ∀ w ∈ u_ws RX6 TX6 8, w ∈ ll_T := (List.forall_mem_cons.mpr ⟨ll_T_in (ll_pl1 120 (by rfl) rfl), List.forall_mem_cons.mpr ⟨ll_T_in (ll_pl1 122 (by rfl) rfl), List.forall_mem_cons.mpr ⟨ll_T_in (ll_pl1 124 (by rfl) rfl), List.forall_mem_cons.mpr ⟨ll_T_in (ll_pl1 126 (by rfl) rfl), List.forall_mem_cons.mpr ⟨ll_T_in (ll_pl1 128 (by rfl) rfl), List.forall_mem_cons.mpr ⟨ll_T_in (ll_pl1 130 (by rfl) rfl), List.forall_mem_cons.mpr ⟨ll_T_in (ll_pl1 132 (by rfl) rfl), List.forall_mem_cons.mpr ⟨ll_T_in (ll_pl1 134 (by rfl) rfl), fun _ h => absurd h List.not_mem_nil⟩⟩⟩⟩⟩⟩⟩⟩ : ∀ w ∈ [u_lay RX6 TX6 0, u_lay RX6 TX6 1, u_lay RX6 TX6 2, u_lay RX6 TX6 3, u_lay RX6 TX6 4, u_lay RX6 TX6 5, u_lay RX6 TX6 6, u_lay RX6 TX6 7], w ∈ ll_T)
theorem in_7 : ∀ w ∈ u_ws RX7 TX7 2, w ∈ ll_T := (List.forall_mem_cons.mpr ⟨ll_T_in (ll_pl1 76 (by rfl) rfl), List.forall_mem_cons.mpr ⟨ll_T_in (ll_pl1 78 (by rfl) rfl), fun _ h => absurd h List.not_mem_nil⟩⟩ : ∀ w ∈ [u_lay RX7 TX7 0, u_lay RX7 TX7 1], w ∈ ll_T)
theorem in_8 : ∀ w ∈ u_ws RX8 TX8 10, w ∈ ll_T := (List.forall_mem_cons.mpr ⟨ll_T_in (ll_pl1 40 (by rfl) rfl), List.forall_mem_cons.mpr ⟨ll_T_in (ll_pl1 42 (by rfl) rfl), List.forall_mem_cons.mpr ⟨ll_T_in (ll_pl1 44 (by rfl) rfl), List.forall_mem_cons.mpr ⟨ll_T_in (ll_pl1 46 (by rfl) rfl), List.forall_mem_cons.mpr ⟨ll_T_in (ll_pl1 48 (by rfl) rfl), List.forall_mem_cons.mpr ⟨ll_T_in (ll_pl1 50 (by rfl) rfl), List.forall_mem_cons.mpr ⟨ll_T_in (ll_pl1 52 (by rfl) rfl), List.forall_mem_cons.mpr ⟨ll_T_in (ll_pl1 54 (by rfl) rfl), List.forall_mem_cons.mpr ⟨ll_T_in (ll_pl1 56 (by rfl) rfl), List.forall_mem_cons.mpr ⟨ll_T_in (ll_pl1 58 (by rfl) rfl), fun _ h => absurd h List.not_mem_nil⟩⟩⟩⟩⟩⟩⟩⟩⟩⟩ : ∀ w ∈ [u_lay RX8 TX8 0, u_lay RX8 TX8 1, u_lay RX8 TX8 2, u_lay RX8 TX8 3, u_lay RX8 TX8 4, u_lay RX8 TX8 5, u_lay RX8 TX8 6, u_lay RX8 TX8 7, u_lay RX8 TX8 8, u_lay RX8 TX8 9], w ∈ ll_T)
theorem in_9 : ∀ w ∈ u_ws RX9 TX9 7, w ∈ ll_T := (List.forall_mem_cons.mpr ⟨ll_T_in (ll_pl2 99 (by rfl) rfl), List.forall_mem_cons.mpr ⟨ll_T_in (ll_pl2 101 (by rfl) rfl), List.forall_mem_cons.mpr ⟨ll_T_in (ll_pl2 103 (by rfl) rfl), List.forall_mem_cons.mpr ⟨ll_T_in (ll_pl2 105 (by rfl) rfl), List.forall_mem_cons.mpr ⟨ll_T_in (ll_pl2 107 (by rfl) rfl), List.forall_mem_cons.mpr ⟨ll_T_in (ll_pl2 109 (by rfl) rfl), List.forall_mem_cons.mpr ⟨ll_T_in (ll_pl2 111 (by rfl) rfl), fun _ h => absurd h List.not_mem_nil⟩⟩⟩⟩⟩⟩⟩ : ∀ w ∈ [u_lay RX9 TX9 0, u_lay RX9 TX9 1, u_lay RX9 TX9 2, u_lay RX9 TX9 3, u_lay RX9 TX9 4, u_lay RX9 TX9 5, u_lay RX9 TX9 6], w ∈ ll_T)
theorem in_10 : ∀ w ∈ u_ws RX10 TX10 11, w ∈ ll_T := (List.forall_mem_cons.mpr ⟨ll_T_in (ll_pl3 39 (by rfl) rfl), List.forall_mem_cons.mpr ⟨ll_T_in (ll_pl3 41 (by rfl) rfl), List.forall_mem_cons.mpr ⟨ll_T_in (ll_pl3 43 (by rfl) rfl), List.forall_mem_cons.mpr ⟨ll_T_in (ll_pl3 45 (by rfl) rfl), List.forall_mem_cons.mpr ⟨ll_T_in (ll_pl3 47 (by rfl) rfl), List.forall_mem_cons.mpr ⟨ll_T_in (ll_pl3 49 (by rfl) rfl), List.forall_mem_cons.mpr ⟨ll_T_in (ll_pl3 51 (by rfl) rfl), List.forall_mem_cons.mpr ⟨ll_T_in (ll_pl3 53 (by rfl) rfl), List.forall_mem_cons.mpr ⟨ll_T_in (ll_pl3 55 (by rfl) rfl), List.forall_mem_cons.mpr ⟨ll_T_in (ll_pl3 57 (by rfl) rfl), List.forall_mem_cons.mpr ⟨ll_T_in (ll_pl3 59 (by rfl) rfl), fun _ h => absurd h List.not_mem_nil⟩⟩⟩⟩⟩⟩⟩⟩⟩⟩⟩ : ∀ w ∈ [u_lay RX10 TX10 0, u_lay RX10 TX10 1, u_lay RX10 TX10 2, u_lay RX10 TX10 3, u_lay RX10 TX10 4, u_lay RX10 TX10 5, u_lay RX10 TX10 6, u_lay RX10 TX10 7, u_lay RX10 TX10 8, u_lay RX10 TX10 9, u_lay RX10 TX10 10], w ∈ ll_T)
theorem in_11 : ∀ w ∈ u_ws RX11 TX11 46, w ∈ ll_T := (List.forall_mem_cons.mpr ⟨ll_T_in (ll_pl5 121 (by rfl) rfl), List.forall_mem_cons.mpr ⟨ll_T_in (ll_pl5 123 (by rfl) rfl), List.forall_mem_cons.mpr ⟨ll_T_in (ll_pl5 125 (by rfl) rfl), List.forall_mem_cons.mpr ⟨ll_T_in (ll_pl5 127 (by rfl) rfl), List.forall_mem_cons.mpr ⟨ll_T_in (ll_pl5 129 (by rfl) rfl), List.forall_mem_cons.mpr ⟨ll_T_in (ll_pl5 131 (by rfl) rfl), List.forall_mem_cons.mpr ⟨ll_T_in (ll_pl5 133 (by rfl) rfl), List.forall_mem_cons.mpr ⟨ll_T_in (ll_pl5 135 (by rfl) rfl), List.forall_mem_cons.mpr ⟨ll_T_in (ll_pl5 137 (by rfl) rfl), List.forall_mem_cons.mpr ⟨ll_T_in (ll_pl5 139 (by rfl) rfl), List.forall_mem_cons.mpr ⟨ll_T_in (ll_pl5 141 (by rfl) rfl), List.forall_mem_cons.mpr ⟨ll_T_in (ll_pl5 143 (by rfl) rfl), List.forall_mem_cons.mpr ⟨ll_T_in (ll_pl5 145 (by rfl) rfl), List.forall_mem_cons.mpr ⟨ll_T_in (ll_pl5 147 (by rfl) rfl), List.forall_mem_cons.mpr ⟨ll_T_in (ll_pl5 149 (by rfl) rfl), List.forall_mem_cons.mpr ⟨ll_T_in (ll_pl5 151 (by rfl) rfl), List.forall_mem_cons.mpr ⟨ll_T_in (ll_pl5 153 (by rfl) rfl), List.forall_mem_cons.mpr ⟨ll_T_in (ll_pl5 155 (by rfl) rfl), List.forall_mem_cons.mpr ⟨ll_T_in (ll_pl5 157 (by rfl) rfl), List.forall_mem_cons.mpr ⟨ll_T_in (ll_pl5 159 (by rfl) rfl), List.forall_mem_cons.mpr ⟨ll_T_in (ll_pl5 161 (by rfl) rfl), List.forall_mem_cons.mpr ⟨ll_T_in (ll_pl5 163 (by rfl) rfl), List.forall_mem_cons.mpr ⟨ll_T_in (ll_pl5 165 (by rfl) rfl), List.forall_mem_cons.mpr ⟨ll_T_in (ll_pl5 167 (by rfl) rfl), List.forall_mem_cons.mpr ⟨ll_T_in (ll_pl5 169 (by rfl) rfl), List.forall_mem_cons.mpr ⟨ll_T_in (ll_pl5 171 (by rfl) rfl), List.forall_mem_cons.mpr ⟨ll_T_in (ll_pl5 173 (by rfl) rfl), List.forall_mem_cons.mpr ⟨ll_T_in (ll_pl5 175 (by rfl) rfl), List.forall_mem_cons.mpr ⟨ll_T_in (ll_pl5 177 (by rfl) rfl), List.forall_mem_cons.mpr ⟨ll_T_in (ll_pl5 179 (by rfl) rfl), List.forall_mem_cons.mpr ⟨ll_T_in (ll_pl5 181 (by rfl) rfl), List.forall_mem_cons.mpr ⟨ll_T_in (ll_pl5 183 (by rfl) rfl), List.forall_mem_cons.mpr ⟨ll_T_in (ll_pl5 185 (by rfl) rfl), List.forall_mem_cons.mpr ⟨ll_T_in (ll_pl5 187 (by rfl) rfl), List.forall_mem_cons.mpr ⟨ll_T_in (ll_pl5 189 (by rfl) rfl), List.forall_mem_cons.mpr ⟨ll_T_in (ll_pl5 191 (by rfl) rfl), List.forall_mem_cons.mpr ⟨ll_T_in (ll_pl5 193 (by rfl) rfl), List.forall_mem_cons.mpr ⟨ll_T_in (ll_pl5 195 (by rfl) rfl), List.forall_mem_cons.mpr ⟨ll_T_in (ll_pl5 197 (by rfl) rfl), List.forall_mem_cons.mpr ⟨ll_T_in (ll_pl5 199 (by rfl) rfl), List.forall_mem_cons.mpr ⟨ll_T_in (ll_pl5 201 (by rfl) rfl), List.forall_mem_cons.mpr ⟨ll_T_in (ll_pl5 203 (by rfl) rfl), List.forall_mem_cons.mpr ⟨ll_T_in (ll_pl5 205 (by rfl) rfl), List.forall_mem_cons.mpr ⟨ll_T_in (ll_pl5 207 (by rfl) rfl), List.forall_mem_cons.mpr ⟨ll_T_in (ll_pl5 209 (by rfl) rfl), List.forall_mem_cons.mpr ⟨ll_T_in (ll_pl5 211 (by rfl) rfl), fun _ h => absurd h List.not_mem_nil⟩⟩⟩⟩⟩⟩⟩⟩⟩⟩⟩⟩⟩⟩⟩⟩⟩⟩⟩⟩⟩⟩⟩⟩⟩⟩⟩⟩⟩⟩⟩⟩⟩⟩⟩⟩⟩⟩⟩⟩⟩⟩⟩⟩⟩⟩ : ∀ w ∈ [u_lay RX11 TX11 0, u_lay RX11 TX11 1, u_lay RX11 TX11 2, u_lay RX11 TX11 3, u_lay RX11 TX11 4, u_lay RX11 TX11 5, u_lay RX11 TX11 6, u_lay RX11 TX11 7, u_lay RX11 TX11 8, u_lay RX11 TX11 9, u_lay RX11 TX11 10, u_lay RX11 TX11 11, u_lay RX11 TX11 12, u_lay RX11 TX11 13, u_lay RX11 TX11 14, u_lay RX11 TX11 15, u_lay RX11 TX11 16, u_lay RX11 TX11 17, u_lay RX11 TX11 18, u_lay RX11 TX11 19, u_lay RX11 TX11 20, u_lay RX11 TX11 21, u_lay RX11 TX11 22, u_lay RX11 TX11 23, u_lay RX11 TX11 24, u_lay RX11 TX11 25, u_lay RX11 TX11 26, u_lay RX11 TX11 27, u_lay RX11 TX11 28, u_lay RX11 TX11 29, u_lay RX11 TX11 30, u_lay RX11 TX11 31, u_lay RX11 TX11 32, u_lay RX11 TX11 33, u_lay RX11 TX11 34, u_lay RX11 TX11 35, u_lay RX11 TX11 36, u_lay RX11 TX11 37, u_lay RX11 TX11 38, u_lay RX11 TX11 39, u_lay RX11 TX11 40, u_lay RX11 TX11 41, u_lay RX11 TX11 42, u_lay RX11 TX11 43, u_lay RX11 TX11 44, u_lay RX11 TX11 45], w ∈ ll_T)
end
section
/-! THE METHODS, by number: name, code, locals, answer, receiver's class, is it a constructor (written by wip/whole/gen.py) -/
def ll_names : List (MethodName × ByteArray × Nat × Option FieldType × Option Nat × Bool) := [
  (yX0_init, cX0_init, 4, none, some 0, true),
  (yX0_look, cX0_look, 5, none, some 0, false),
  (yX0_startsWell, cX0_startsWell, 1, (some .boolean), some 0, false),
  (yX0_reasonOf, cX0_reasonOf, 5, (some .int), some 0, false),
  (yX0_isMember, cX0_isMember, 4, (some .boolean), some 0, false),
  (yX0_premisesAreLines, cX0_premisesAreLines, 3, (some .boolean), some 0, false),
  (yX0_partsAreProved, cX0_partsAreProved, 8, (some .boolean), some 0, false),
  (yX0_hasPremiseFor, cX0_hasPremiseFor, 6, (some .boolean), some 0, false),
  (yX1_init, cX1_init, 1, none, some 1, true),
  (yX1_clear, cX1_clear, 1, none, some 1, false),
  (yX1_isLine, cX1_isLine, 2, (some .boolean), some 1, false),
  (yX1_isPremise, cX1_isPremise, 3, (some .boolean), some 1, false),
  (yX1_premiseOf, cX1_premiseOf, 3, (some .int), some 1, false),
  (yX1_addLine, cX1_addLine, 4, (some .int), some 1, false),
  (yX1_openPremises, cX1_openPremises, 2, none, some 1, false),
  (yX1_addPremise, cX1_addPremise, 3, none, some 1, false),
  (yX1_dropPremises, cX1_dropPremises, 2, none, some 1, false),
  (yX1_dropLast, cX1_dropLast, 1, (some .int), some 1, false),
  (yX1_ofRule, cX1_ofRule, 4, (some .int), some 1, false),
  (yX1_premisesOfNone, cX1_premisesOfNone, 3, (some .int), some 1, false),
  (yX1_become, cX1_become, 2, none, some 1, false),
  (yX2_init, cX2_init, 3, none, some 2, true),
  (yX2_read, cX2_read, 4, (some .int), some 2, false),
  (yX2_readSum, cX2_readSum, 5, (some .int), some 2, false),
  (yX2_readProduct, cX2_readProduct, 5, (some .int), some 2, false),
  (yX2_readFactor, cX2_readFactor, 4, (some .int), some 2, false),
  (yX2_readAtom, cX2_readAtom, 4, (some .int), some 2, false),
  (yX2_next, cX2_next, 1, (some .int), some 2, false),
  (yX2_beginsAtom, cX2_beginsAtom, 1, (some .boolean), none, false),
  (yX3_init, cX3_init, 2, none, some 3, true),
  (yX3_become, cX3_become, 3, none, some 3, false),
  (yX4_init, cX4_init, 4, none, some 4, true),
  (yX4_run, cX4_run, 6, (some .int), some 4, false),
  (yX4_takeTurn, cX4_takeTurn, 4, (some .int), some 4, false),
  (yX4_step, cX4_step, 9, (some .boolean), some 4, false),
  (yX4_lineFor, cX4_lineFor, 7, (some .int), some 4, false),
  (yX4_comeTo, cX4_comeTo, 6, (some .int), some 4, false),
  (yX4_tellApart, cX4_tellApart, 5, none, some 4, false),
  (yX5_init, cX5_init, 1, none, some 5, true),
  (yX5_clear, cX5_clear, 1, none, some 5, false),
  (yX5_openTerm, cX5_openTerm, 2, none, some 5, false),
  (yX5_openParts, cX5_openParts, 2, none, some 5, false),
  (yX5_addPart, cX5_addPart, 3, none, some 5, false),
  (yX5_closeTerm, cX5_closeTerm, 1, none, some 5, false),
  (yX5_become, cX5_become, 3, none, some 5, false),
  (yX5_isTerm, cX5_isTerm, 2, (some .boolean), some 5, false),
  (yX5_isSet, cX5_isSet, 2, (some .boolean), some 5, false),
  (yX5_anyFull, cX5_anyFull, 2, (some .boolean), some 5, false),
  (yX5_lettersSpelt, cX5_lettersSpelt, 3, (some .int), some 5, false),
  (yX5_termBytes, cX5_termBytes, 2, (some .int), some 5, false),
  (yX5_termByte, cX5_termByte, 3, (some .int), some 5, false),
  (yX5_partSet, cX5_partSet, 3, (some .int), some 5, false),
  (yX5_partsOf, cX5_partsOf, 4, (some .int), some 5, false),
  (yX5_partOf, cX5_partOf, 4, (some .int), some 5, false),
  (yX5_partsOfSet, cX5_partsOfSet, 5, (some .int), some 5, false),
  (yX5_alikeTerm, cX5_alikeTerm, 4, (some .int), some 5, false),
  (yX5_isLetter, cX5_isLetter, 1, (some .boolean), none, false),
  (yX5_signsStart, cX5_signsStart, 2, (some .int), some 5, false),
  (yX5_isAlike, cX5_isAlike, 8, (some .boolean), some 5, false),
  (yX6_init, cX6_init, 2, none, some 6, true),
  (yX6_speltBytes, cX6_speltBytes, 2, (some .int), some 6, false),
  (yX6_findTerms, cX6_findTerms, 5, none, some 6, false),
  (yX6_tellTerm, cX6_tellTerm, 7, none, some 6, false),
  (yX6_findParts, cX6_findParts, 5, none, some 6, false),
  (yX6_gatherFactors, cX6_gatherFactors, 7, none, some 6, false),
  (yX6_gatherNode, cX6_gatherNode, 6, none, some 6, false),
  (yX6_pushFactors, cX6_pushFactors, 3, none, some 6, false),
  (yX6_push, cX6_push, 2, none, some 6, false),
  (yX6_numberOfTerm, cX6_numberOfTerm, 3, (some .int), some 6, false),
  (yX6_isBehind, cX6_isBehind, 3, (some .boolean), some 6, false),
  (yX7_init, cX7_init, 2, none, some 7, true),
  (yX7_clear, cX7_clear, 1, none, some 7, false),
  (yX7_add, cX7_add, 2, none, some 7, false),
  (yX7_addAll, cX7_addAll, 3, none, some 7, false),
  (yX7_addBracketed, cX7_addBracketed, 2, none, some 7, false),
  (yX7_become, cX7_become, 2, none, some 7, false),
  (yX7_setAt, cX7_setAt, 3, none, some 7, false),
  (yX7_at, cX7_at, 2, (some .int), some 7, false),
  (yX7_countOf, cX7_countOf, 4, (some .int), some 7, false),
  (yX8_init, cX8_init, 2, none, some 8, true),
  (yX8_clear, cX8_clear, 1, none, some 8, false),
  (yX8_kindOf, cX8_kindOf, 2, (some .int), some 8, false),
  (yX8_childrenOf, cX8_childrenOf, 2, (some .int), some 8, false),
  (yX8_childOf, cX8_childOf, 4, (some .int), some 8, false),
  (yX8_shortestOf, cX8_shortestOf, 2, (some .int), some 8, false),
  (yX8_nestOf, cX8_nestOf, 2, (some .int), some 8, false),
  (yX8_isFull, cX8_isFull, 2, (some .boolean), some 8, false),
  (yX8_mark, cX8_mark, 1, (some .int), some 8, false),
  (yX8_addSummand, cX8_addSummand, 4, none, some 8, false),
  (yX8_addFactor, cX8_addFactor, 3, none, some 8, false),
  (yX8_closeSum, cX8_closeSum, 2, (some .int), some 8, false),
  (yX8_closeProduct, cX8_closeProduct, 3, (some .int), some 8, false),
  (yX8_starOf, cX8_starOf, 4, (some .int), some 8, false),
  (yX8_spell, cX8_spell, 4, none, some 8, false),
  (yX8_spellNode, cX8_spellNode, 7, none, some 8, false),
  (yX8_spellChildren, cX8_spellChildren, 6, none, some 8, false),
  (yX8_push, cX8_push, 2, none, some 8, false),
  (yX8_addOnce, cX8_addOnce, 4, none, some 8, false),
  (yX8_close, cX8_close, 6, (some .int), some 8, false),
  (yX8_nodeOf, cX8_nodeOf, 4, (some .int), some 8, false),
  (yX8_hasChildren, cX8_hasChildren, 4, (some .boolean), some 8, false),
  (yX8_newNode, cX8_newNode, 9, (some .int), some 8, false),
  (yX9_init, cX9_init, 3, none, some 9, true),
  (yX9_howMany, cX9_howMany, 5, (some .int), some 9, false),
  (yX9_nth, cX9_nth, 13, (some .int), some 9, false),
  (yX9_begin, cX9_begin, 4, none, some 9, false),
  (yX9_startLeft, cX9_startLeft, 1, (some .int), some 9, false),
  (yX9_startRight, cX9_startRight, 1, (some .int), some 9, false),
  (yX9_countBehind, cX9_countBehind, 5, (some .int), some 9, false),
  (yX9_countFrom, cX9_countFrom, 7, (some .int), some 9, false),
  (yX9_fits, cX9_fits, 3, (some .boolean), some 9, false),
  (yX9_allWords, cX9_allWords, 3, (some .int), none, false),
  (yX9_cellOf, cX9_cellOf, 4, (some .int), none, false),
  (yX10_init, cX10_init, 3, none, some 10, true),
  (yX10_write, cX10_write, 6, (some .int), some 10, false),
  (yX10_side, cX10_side, 5, (some .int), some 10, false),
  (yX10_fault, cX10_fault, 1, (some .int), some 10, false),
  (yX10_swap, cX10_swap, 2, none, some 10, false),
  (yX10_keep, cX10_keep, 3, (some .boolean), some 10, false),
  (yX10_make, cX10_make, 7, (some .int), some 10, false),
  (yX10_shape, cX10_shape, 4, (some .int), some 10, false),
  (yX10_term, cX10_term, 5, (some .int), some 10, false),
  (yX10_like, cX10_like, 3, (some .int), some 10, false),
  (yX10_has, cX10_has, 3, (some .boolean), some 10, false),
  (yX10_words, cX10_words, 3, (some .int), some 10, false),
  (yX10_word, cX10_word, 4, (some .int), some 10, false),
  (yX10_prove, cX10_prove, 1, (some .int), some 10, false),
  (yX10_apart, cX10_apart, 3, (some .int), some 10, false),
  (yX10_count, cX10_count, 3, (some .int), some 10, false),
  (yX10_line, cX10_line, 4, (some .int), some 10, false),
  (yX10_alter, cX10_alter, 5, (some .int), some 10, false),
  (yX10_cut, cX10_cut, 1, (some .int), some 10, false),
  (yX10_check, cX10_check, 1, (some .int), some 10, false),
  (yX10_why, cX10_why, 2, (some .int), some 10, false),
  (yX10_same, cX10_same, 3, (some .int), some 10, false),
  (yX10_between, cX10_between, 3, (some .int), some 10, false),
  (yX10_image, cX10_image, 2, (some .boolean), some 10, false),
  (yX10_again, cX10_again, 2, (some .boolean), some 10, false),
  (yX10_isSide, cX10_isSide, 1, (some .boolean), none, false),
  (yX10_isSlot, cX10_isSlot, 1, (some .boolean), none, false),
  (yX10_canCount, cX10_canCount, 2, (some .boolean), none, false),
  (yX10_byteOf, cX10_byteOf, 3, (some .int), none, false),
  (yX10_bytesOf, cX10_bytesOf, 3, (some .int), none, false),
  (yX10_replace, cX10_replace, 4, (some .int), none, false),
  (yX10_faultOf, cX10_faultOf, 3, (some .int), some 10, false),
  (yX10_put, cX10_put, 3, (some .int), some 10, false),
  (yX10_readSlot, cX10_readSlot, 4, (some .int), some 10, false),
  (yX10_draftOf, cX10_draftOf, 4, none, some 10, false),
  (yX10_tapeIsWordOf, cX10_tapeIsWordOf, 6, (some .boolean), some 10, false),
  (yX11_init, cX11_init, 2, none, some 11, true),
  (yX11_zeroes, cX11_zeroes, 2, none, some 11, false),
  (yX11_isIn, cX11_isIn, 3, (some .boolean), none, false),
  (yX11_copies, cX11_copies, 5, none, some 11, false),
  (yX11_clears, cX11_clears, 2, none, some 11, false),
  (yX11_addsNode, cX11_addsNode, 5, (some .int), some 11, false),
  (yX11_joins, cX11_joins, 4, none, some 11, false),
  (yX11_kept, cX11_kept, 6, (some .int), some 11, false),
  (yX11_notes, cX11_notes, 4, none, some 11, false),
  (yX11_sum, cX11_sum, 7, (some .int), some 11, false),
  (yX11_product, cX11_product, 7, (some .int), some 11, false),
  (yX11_star, cX11_star, 2, (some .int), some 11, false),
  (yX11_behind, cX11_behind, 6, (some .int), some 11, false),
  (yX11_opens, cX11_opens, 1, none, some 11, false),
  (yX11_addsFactor, cX11_addsFactor, 2, none, some 11, false),
  (yX11_endsProduct, cX11_endsProduct, 1, none, some 11, false),
  (yX11_endsSum, cX11_endsSum, 1, (some .int), some 11, false),
  (yX11_told, cX11_told, 9, (some .int), some 11, false),
  (yX11_pushes, cX11_pushes, 3, none, some 11, false),
  (yX11_pushesByte, cX11_pushesByte, 2, none, some 11, false),
  (yX11_spells, cX11_spells, 3, none, some 11, false),
  (yX11_spellsOne, cX11_spellsOne, 6, none, some 11, false),
  (yX11_lacks, cX11_lacks, 5, (some .int), some 11, false),
  (yX11_lays, cX11_lays, 3, none, some 11, false),
  (yX11_partOf, cX11_partOf, 4, (some .int), some 11, false),
  (yX11_laysParts, cX11_laysParts, 6, none, some 11, false),
  (yX11_withStar, cX11_withStar, 3, (some .int), some 11, false),
  (yX11_needs, cX11_needs, 5, none, some 11, false),
  (yX11_termBy, cX11_termBy, 4, (some .int), some 11, false),
  (yX11_laysTerms, cX11_laysTerms, 5, none, some 11, false),
  (yX11_laysRow, cX11_laysRow, 9, none, some 11, false),
  (yX11_laysBoth, cX11_laysBoth, 5, none, some 11, false),
  (yX11_isFull, cX11_isFull, 3, (some .boolean), some 11, false),
  (yX11_isFullSet, cX11_isFullSet, 4, (some .boolean), some 11, false),
  (yX11_partsOf, cX11_partsOf, 6, (some .int), some 11, false),
  (yX11_isMember, cX11_isMember, 4, (some .boolean), some 11, false),
  (yX11_lineWith, cX11_lineWith, 5, (some .int), some 11, false),
  (yX11_newLine, cX11_newLine, 7, none, some 11, false),
  (yX11_steps, cX11_steps, 11, (some .boolean), some 11, false),
  (yX11_tellsWord, cX11_tellsWord, 6, none, some 11, false),
  (yX11_searches, cX11_searches, 5, (some .int), some 11, false),
  (yX11_forgets, cX11_forgets, 2, none, some 11, false),
  (yX11_prove, cX11_prove, 1, (some .int), some 11, false),
  (yX11_tried, cX11_tried, 3, (some .int), some 11, false),
  (yX11_same, cX11_same, 3, (some .int), some 11, false),
  (yX11_isSlot, cX11_isSlot, 1, (some .boolean), none, false),
  (yX11_between, cX11_between, 3, (some .int), some 11, false),
  (yX11_apart, cX11_apart, 2, (some .int), some 11, false),
  (yX11_line, cX11_line, 3, (some .int), some 11, false),
  (yX11_placeOf, cX11_placeOf, 2, (some .int), none, false),
  (yX11_alter, cX11_alter, 6, (some .int), some 11, false),
  (yX11_cut, cX11_cut, 1, (some .int), some 11, false),
  (yX11_isTold, cX11_isTold, 4, (some .boolean), some 11, false),
  (yX11_count, cX11_count, 4, (some .int), some 11, false),
  (yX11_hasPremise, cX11_hasPremise, 6, (some .boolean), some 11, false),
  (yX11_reason, cX11_reason, 9, (some .int), some 11, false),
  (yX11_bad, cX11_bad, 2, (some .int), some 11, false),
  (yX11_check, cX11_check, 1, (some .int), some 11, false),
  (yX11_why, cX11_why, 3, (some .int), some 11, false),
  (yX11_write, cX11_write, 5, (some .int), some 11, false),
  (yX11_isSide, cX11_isSide, 1, (some .boolean), none, false),
  (yX11_becomes, cX11_becomes, 4, (some .int), some 11, false),
  (yX11_side, cX11_side, 4, (some .int), some 11, false),
  (yX11_fault, cX11_fault, 1, (some .int), some 11, false),
  (yX11_swap, cX11_swap, 1, none, some 11, false),
  (yX11_keep, cX11_keep, 3, (some .boolean), some 11, false),
  (yX11_make, cX11_make, 8, (some .int), some 11, false),
  (yX11_spelled, cX11_spelled, 4, (some .int), some 11, false),
  (yX11_byteAt, cX11_byteAt, 2, (some .int), some 11, false),
  (yX11_shape, cX11_shape, 4, (some .int), some 11, false),
  (yX11_term, cX11_term, 4, (some .int), some 11, false),
  (yX11_like, cX11_like, 3, (some .int), some 11, false),
  (yX11_has, cX11_has, 5, (some .boolean), some 11, false),
  (yX11_isWord, cX11_isWord, 5, (some .boolean), some 11, false),
  (yX11_isOne, cX11_isOne, 5, (some .boolean), some 11, false),
  (yX11_goesOn, cX11_goesOn, 3, (some .boolean), some 11, false),
  (yX11_number, cX11_number, 4, (some .int), some 11, false),
  (yX11_listed, cX11_listed, 6, (some .int), some 11, false),
  (yX11_words, cX11_words, 3, (some .int), some 11, false),
  (yX11_word, cX11_word, 4, (some .int), some 11, false),
  (yX11_image, cX11_image, 4, (some .boolean), some 11, false),
  (yX11_again, cX11_again, 4, (some .boolean), some 11, false),
  (yJ7_fill_53178, cJ7_fill_53178, 4, none, none, false)]
def ll_info (y : Nat) : MethodName × ByteArray × Nat × Option FieldType × Option Nat × Bool := ll_names.getD y (yL_law, cL_law, 4, some .boolean, none, false)
def ll_mN (y : Nat) : MethodName := (ll_info y).1
def ll_mC (y : Nat) : ByteArray := (ll_info y).2.1
def ll_mL (y : Nat) : Nat := (ll_info y).2.2.1
def ll_mR (y : Nat) : Option FieldType := (ll_info y).2.2.2.1
def ll_mK (y : Nat) : Option Nat := (ll_info y).2.2.2.2.1
def ll_mI (y : Nat) : Bool := (ll_info y).2.2.2.2.2
def ll_cnt : Nat := 232
theorem mN_0 : ll_mN 0 = yX0_init := rfl
theorem mC_0 : ll_mC 0 = cX0_init := rfl
theorem mL_0 : ll_mL 0 = 4 := rfl
theorem mR_0 : ll_mR 0 = none := rfl
theorem mK_0 : ll_mK 0 = some 0 := rfl
theorem mI_0 : ll_mI 0 = true := rfl
theorem mN_1 : ll_mN 1 = yX0_look := rfl
theorem mC_1 : ll_mC 1 = cX0_look := rfl
theorem mL_1 : ll_mL 1 = 5 := rfl
theorem mR_1 : ll_mR 1 = none := rfl
theorem mK_1 : ll_mK 1 = some 0 := rfl
theorem mI_1 : ll_mI 1 = false := rfl
theorem mN_2 : ll_mN 2 = yX0_startsWell := rfl
theorem mC_2 : ll_mC 2 = cX0_startsWell := rfl
theorem mL_2 : ll_mL 2 = 1 := rfl
theorem mR_2 : ll_mR 2 = (some .boolean) := rfl
theorem mK_2 : ll_mK 2 = some 0 := rfl
theorem mI_2 : ll_mI 2 = false := rfl
theorem mN_3 : ll_mN 3 = yX0_reasonOf := rfl
theorem mC_3 : ll_mC 3 = cX0_reasonOf := rfl
theorem mL_3 : ll_mL 3 = 5 := rfl
theorem mR_3 : ll_mR 3 = (some .int) := rfl
theorem mK_3 : ll_mK 3 = some 0 := rfl
theorem mI_3 : ll_mI 3 = false := rfl
theorem mN_4 : ll_mN 4 = yX0_isMember := rfl
theorem mC_4 : ll_mC 4 = cX0_isMember := rfl
theorem mL_4 : ll_mL 4 = 4 := rfl
theorem mR_4 : ll_mR 4 = (some .boolean) := rfl
theorem mK_4 : ll_mK 4 = some 0 := rfl
theorem mI_4 : ll_mI 4 = false := rfl
theorem mN_5 : ll_mN 5 = yX0_premisesAreLines := rfl
theorem mC_5 : ll_mC 5 = cX0_premisesAreLines := rfl
theorem mL_5 : ll_mL 5 = 3 := rfl
theorem mR_5 : ll_mR 5 = (some .boolean) := rfl
theorem mK_5 : ll_mK 5 = some 0 := rfl
theorem mI_5 : ll_mI 5 = false := rfl
theorem mN_6 : ll_mN 6 = yX0_partsAreProved := rfl
theorem mC_6 : ll_mC 6 = cX0_partsAreProved := rfl
theorem mL_6 : ll_mL 6 = 8 := rfl
theorem mR_6 : ll_mR 6 = (some .boolean) := rfl
theorem mK_6 : ll_mK 6 = some 0 := rfl
theorem mI_6 : ll_mI 6 = false := rfl
theorem mN_7 : ll_mN 7 = yX0_hasPremiseFor := rfl
theorem mC_7 : ll_mC 7 = cX0_hasPremiseFor := rfl
theorem mL_7 : ll_mL 7 = 6 := rfl
theorem mR_7 : ll_mR 7 = (some .boolean) := rfl
theorem mK_7 : ll_mK 7 = some 0 := rfl
theorem mI_7 : ll_mI 7 = false := rfl
theorem mN_8 : ll_mN 8 = yX1_init := rfl
theorem mC_8 : ll_mC 8 = cX1_init := rfl
theorem mL_8 : ll_mL 8 = 1 := rfl
theorem mR_8 : ll_mR 8 = none := rfl
theorem mK_8 : ll_mK 8 = some 1 := rfl
theorem mI_8 : ll_mI 8 = true := rfl
theorem mN_9 : ll_mN 9 = yX1_clear := rfl
theorem mC_9 : ll_mC 9 = cX1_clear := rfl
theorem mL_9 : ll_mL 9 = 1 := rfl
theorem mR_9 : ll_mR 9 = none := rfl
theorem mK_9 : ll_mK 9 = some 1 := rfl
theorem mI_9 : ll_mI 9 = false := rfl
theorem mN_10 : ll_mN 10 = yX1_isLine := rfl
theorem mC_10 : ll_mC 10 = cX1_isLine := rfl
theorem mL_10 : ll_mL 10 = 2 := rfl
theorem mR_10 : ll_mR 10 = (some .boolean) := rfl
theorem mK_10 : ll_mK 10 = some 1 := rfl
theorem mI_10 : ll_mI 10 = false := rfl
theorem mN_11 : ll_mN 11 = yX1_isPremise := rfl
theorem mC_11 : ll_mC 11 = cX1_isPremise := rfl
theorem mL_11 : ll_mL 11 = 3 := rfl
theorem mR_11 : ll_mR 11 = (some .boolean) := rfl
theorem mK_11 : ll_mK 11 = some 1 := rfl
theorem mI_11 : ll_mI 11 = false := rfl
theorem mN_12 : ll_mN 12 = yX1_premiseOf := rfl
theorem mC_12 : ll_mC 12 = cX1_premiseOf := rfl
theorem mL_12 : ll_mL 12 = 3 := rfl
theorem mR_12 : ll_mR 12 = (some .int) := rfl
theorem mK_12 : ll_mK 12 = some 1 := rfl
theorem mI_12 : ll_mI 12 = false := rfl
theorem mN_13 : ll_mN 13 = yX1_addLine := rfl
theorem mC_13 : ll_mC 13 = cX1_addLine := rfl
theorem mL_13 : ll_mL 13 = 4 := rfl
theorem mR_13 : ll_mR 13 = (some .int) := rfl
theorem mK_13 : ll_mK 13 = some 1 := rfl
theorem mI_13 : ll_mI 13 = false := rfl
theorem mN_14 : ll_mN 14 = yX1_openPremises := rfl
theorem mC_14 : ll_mC 14 = cX1_openPremises := rfl
theorem mL_14 : ll_mL 14 = 2 := rfl
theorem mR_14 : ll_mR 14 = none := rfl
theorem mK_14 : ll_mK 14 = some 1 := rfl
theorem mI_14 : ll_mI 14 = false := rfl
theorem mN_15 : ll_mN 15 = yX1_addPremise := rfl
theorem mC_15 : ll_mC 15 = cX1_addPremise := rfl
theorem mL_15 : ll_mL 15 = 3 := rfl
theorem mR_15 : ll_mR 15 = none := rfl
theorem mK_15 : ll_mK 15 = some 1 := rfl
theorem mI_15 : ll_mI 15 = false := rfl
theorem mN_16 : ll_mN 16 = yX1_dropPremises := rfl
theorem mC_16 : ll_mC 16 = cX1_dropPremises := rfl
theorem mL_16 : ll_mL 16 = 2 := rfl
theorem mR_16 : ll_mR 16 = none := rfl
theorem mK_16 : ll_mK 16 = some 1 := rfl
theorem mI_16 : ll_mI 16 = false := rfl
theorem mN_17 : ll_mN 17 = yX1_dropLast := rfl
theorem mC_17 : ll_mC 17 = cX1_dropLast := rfl
theorem mL_17 : ll_mL 17 = 1 := rfl
theorem mR_17 : ll_mR 17 = (some .int) := rfl
theorem mK_17 : ll_mK 17 = some 1 := rfl
theorem mI_17 : ll_mI 17 = false := rfl
theorem mN_18 : ll_mN 18 = yX1_ofRule := rfl
theorem mC_18 : ll_mC 18 = cX1_ofRule := rfl
theorem mL_18 : ll_mL 18 = 4 := rfl
theorem mR_18 : ll_mR 18 = (some .int) := rfl
theorem mK_18 : ll_mK 18 = some 1 := rfl
theorem mI_18 : ll_mI 18 = false := rfl
theorem mN_19 : ll_mN 19 = yX1_premisesOfNone := rfl
theorem mC_19 : ll_mC 19 = cX1_premisesOfNone := rfl
theorem mL_19 : ll_mL 19 = 3 := rfl
theorem mR_19 : ll_mR 19 = (some .int) := rfl
theorem mK_19 : ll_mK 19 = some 1 := rfl
theorem mI_19 : ll_mI 19 = false := rfl
theorem mN_20 : ll_mN 20 = yX1_become := rfl
theorem mC_20 : ll_mC 20 = cX1_become := rfl
theorem mL_20 : ll_mL 20 = 2 := rfl
theorem mR_20 : ll_mR 20 = none := rfl
theorem mK_20 : ll_mK 20 = some 1 := rfl
theorem mI_20 : ll_mI 20 = false := rfl
theorem mN_21 : ll_mN 21 = yX2_init := rfl
theorem mC_21 : ll_mC 21 = cX2_init := rfl
theorem mL_21 : ll_mL 21 = 3 := rfl
theorem mR_21 : ll_mR 21 = none := rfl
theorem mK_21 : ll_mK 21 = some 2 := rfl
theorem mI_21 : ll_mI 21 = true := rfl
theorem mN_22 : ll_mN 22 = yX2_read := rfl
theorem mC_22 : ll_mC 22 = cX2_read := rfl
theorem mL_22 : ll_mL 22 = 4 := rfl
theorem mR_22 : ll_mR 22 = (some .int) := rfl
theorem mK_22 : ll_mK 22 = some 2 := rfl
theorem mI_22 : ll_mI 22 = false := rfl
theorem mN_23 : ll_mN 23 = yX2_readSum := rfl
theorem mC_23 : ll_mC 23 = cX2_readSum := rfl
theorem mL_23 : ll_mL 23 = 5 := rfl
theorem mR_23 : ll_mR 23 = (some .int) := rfl
theorem mK_23 : ll_mK 23 = some 2 := rfl
theorem mI_23 : ll_mI 23 = false := rfl
theorem mN_24 : ll_mN 24 = yX2_readProduct := rfl
theorem mC_24 : ll_mC 24 = cX2_readProduct := rfl
theorem mL_24 : ll_mL 24 = 5 := rfl
theorem mR_24 : ll_mR 24 = (some .int) := rfl
theorem mK_24 : ll_mK 24 = some 2 := rfl
theorem mI_24 : ll_mI 24 = false := rfl
theorem mN_25 : ll_mN 25 = yX2_readFactor := rfl
theorem mC_25 : ll_mC 25 = cX2_readFactor := rfl
theorem mL_25 : ll_mL 25 = 4 := rfl
theorem mR_25 : ll_mR 25 = (some .int) := rfl
theorem mK_25 : ll_mK 25 = some 2 := rfl
theorem mI_25 : ll_mI 25 = false := rfl
theorem mN_26 : ll_mN 26 = yX2_readAtom := rfl
theorem mC_26 : ll_mC 26 = cX2_readAtom := rfl
theorem mL_26 : ll_mL 26 = 4 := rfl
theorem mR_26 : ll_mR 26 = (some .int) := rfl
theorem mK_26 : ll_mK 26 = some 2 := rfl
theorem mI_26 : ll_mI 26 = false := rfl
theorem mN_27 : ll_mN 27 = yX2_next := rfl
theorem mC_27 : ll_mC 27 = cX2_next := rfl
theorem mL_27 : ll_mL 27 = 1 := rfl
theorem mR_27 : ll_mR 27 = (some .int) := rfl
theorem mK_27 : ll_mK 27 = some 2 := rfl
theorem mI_27 : ll_mI 27 = false := rfl
theorem mN_28 : ll_mN 28 = yX2_beginsAtom := rfl
theorem mC_28 : ll_mC 28 = cX2_beginsAtom := rfl
theorem mL_28 : ll_mL 28 = 1 := rfl
theorem mR_28 : ll_mR 28 = (some .boolean) := rfl
theorem mK_28 : ll_mK 28 = none := rfl
theorem mI_28 : ll_mI 28 = false := rfl
theorem mN_29 : ll_mN 29 = yX3_init := rfl
theorem mC_29 : ll_mC 29 = cX3_init := rfl
theorem mL_29 : ll_mL 29 = 2 := rfl
theorem mR_29 : ll_mR 29 = none := rfl
theorem mK_29 : ll_mK 29 = some 3 := rfl
theorem mI_29 : ll_mI 29 = true := rfl
theorem mN_30 : ll_mN 30 = yX3_become := rfl
theorem mC_30 : ll_mC 30 = cX3_become := rfl
theorem mL_30 : ll_mL 30 = 3 := rfl
theorem mR_30 : ll_mR 30 = none := rfl
theorem mK_30 : ll_mK 30 = some 3 := rfl
theorem mI_30 : ll_mI 30 = false := rfl
theorem mN_31 : ll_mN 31 = yX4_init := rfl
theorem mC_31 : ll_mC 31 = cX4_init := rfl
theorem mL_31 : ll_mL 31 = 4 := rfl
theorem mR_31 : ll_mR 31 = none := rfl
theorem mK_31 : ll_mK 31 = some 4 := rfl
theorem mI_31 : ll_mI 31 = true := rfl
theorem mN_32 : ll_mN 32 = yX4_run := rfl
theorem mC_32 : ll_mC 32 = cX4_run := rfl
theorem mL_32 : ll_mL 32 = 6 := rfl
theorem mR_32 : ll_mR 32 = (some .int) := rfl
theorem mK_32 : ll_mK 32 = some 4 := rfl
theorem mI_32 : ll_mI 32 = false := rfl
theorem mN_33 : ll_mN 33 = yX4_takeTurn := rfl
theorem mC_33 : ll_mC 33 = cX4_takeTurn := rfl
theorem mL_33 : ll_mL 33 = 4 := rfl
theorem mR_33 : ll_mR 33 = (some .int) := rfl
theorem mK_33 : ll_mK 33 = some 4 := rfl
theorem mI_33 : ll_mI 33 = false := rfl
theorem mN_34 : ll_mN 34 = yX4_step := rfl
theorem mC_34 : ll_mC 34 = cX4_step := rfl
theorem mL_34 : ll_mL 34 = 9 := rfl
theorem mR_34 : ll_mR 34 = (some .boolean) := rfl
theorem mK_34 : ll_mK 34 = some 4 := rfl
theorem mI_34 : ll_mI 34 = false := rfl
theorem mN_35 : ll_mN 35 = yX4_lineFor := rfl
theorem mC_35 : ll_mC 35 = cX4_lineFor := rfl
theorem mL_35 : ll_mL 35 = 7 := rfl
theorem mR_35 : ll_mR 35 = (some .int) := rfl
theorem mK_35 : ll_mK 35 = some 4 := rfl
theorem mI_35 : ll_mI 35 = false := rfl
theorem mN_36 : ll_mN 36 = yX4_comeTo := rfl
theorem mC_36 : ll_mC 36 = cX4_comeTo := rfl
theorem mL_36 : ll_mL 36 = 6 := rfl
theorem mR_36 : ll_mR 36 = (some .int) := rfl
theorem mK_36 : ll_mK 36 = some 4 := rfl
theorem mI_36 : ll_mI 36 = false := rfl
theorem mN_37 : ll_mN 37 = yX4_tellApart := rfl
theorem mC_37 : ll_mC 37 = cX4_tellApart := rfl
theorem mL_37 : ll_mL 37 = 5 := rfl
theorem mR_37 : ll_mR 37 = none := rfl
theorem mK_37 : ll_mK 37 = some 4 := rfl
theorem mI_37 : ll_mI 37 = false := rfl
theorem mN_38 : ll_mN 38 = yX5_init := rfl
theorem mC_38 : ll_mC 38 = cX5_init := rfl
theorem mL_38 : ll_mL 38 = 1 := rfl
theorem mR_38 : ll_mR 38 = none := rfl
theorem mK_38 : ll_mK 38 = some 5 := rfl
theorem mI_38 : ll_mI 38 = true := rfl
theorem mN_39 : ll_mN 39 = yX5_clear := rfl
theorem mC_39 : ll_mC 39 = cX5_clear := rfl
theorem mL_39 : ll_mL 39 = 1 := rfl
theorem mR_39 : ll_mR 39 = none := rfl
theorem mK_39 : ll_mK 39 = some 5 := rfl
theorem mI_39 : ll_mI 39 = false := rfl
theorem mN_40 : ll_mN 40 = yX5_openTerm := rfl
theorem mC_40 : ll_mC 40 = cX5_openTerm := rfl
theorem mL_40 : ll_mL 40 = 2 := rfl
theorem mR_40 : ll_mR 40 = none := rfl
theorem mK_40 : ll_mK 40 = some 5 := rfl
theorem mI_40 : ll_mI 40 = false := rfl
theorem mN_41 : ll_mN 41 = yX5_openParts := rfl
theorem mC_41 : ll_mC 41 = cX5_openParts := rfl
theorem mL_41 : ll_mL 41 = 2 := rfl
theorem mR_41 : ll_mR 41 = none := rfl
theorem mK_41 : ll_mK 41 = some 5 := rfl
theorem mI_41 : ll_mI 41 = false := rfl
theorem mN_42 : ll_mN 42 = yX5_addPart := rfl
theorem mC_42 : ll_mC 42 = cX5_addPart := rfl
theorem mL_42 : ll_mL 42 = 3 := rfl
theorem mR_42 : ll_mR 42 = none := rfl
theorem mK_42 : ll_mK 42 = some 5 := rfl
theorem mI_42 : ll_mI 42 = false := rfl
theorem mN_43 : ll_mN 43 = yX5_closeTerm := rfl
theorem mC_43 : ll_mC 43 = cX5_closeTerm := rfl
theorem mL_43 : ll_mL 43 = 1 := rfl
theorem mR_43 : ll_mR 43 = none := rfl
theorem mK_43 : ll_mK 43 = some 5 := rfl
theorem mI_43 : ll_mI 43 = false := rfl
theorem mN_44 : ll_mN 44 = yX5_become := rfl
theorem mC_44 : ll_mC 44 = cX5_become := rfl
theorem mL_44 : ll_mL 44 = 3 := rfl
theorem mR_44 : ll_mR 44 = none := rfl
theorem mK_44 : ll_mK 44 = some 5 := rfl
theorem mI_44 : ll_mI 44 = false := rfl
theorem mN_45 : ll_mN 45 = yX5_isTerm := rfl
theorem mC_45 : ll_mC 45 = cX5_isTerm := rfl
theorem mL_45 : ll_mL 45 = 2 := rfl
theorem mR_45 : ll_mR 45 = (some .boolean) := rfl
theorem mK_45 : ll_mK 45 = some 5 := rfl
theorem mI_45 : ll_mI 45 = false := rfl
theorem mN_46 : ll_mN 46 = yX5_isSet := rfl
theorem mC_46 : ll_mC 46 = cX5_isSet := rfl
theorem mL_46 : ll_mL 46 = 2 := rfl
theorem mR_46 : ll_mR 46 = (some .boolean) := rfl
theorem mK_46 : ll_mK 46 = some 5 := rfl
theorem mI_46 : ll_mI 46 = false := rfl
theorem mN_47 : ll_mN 47 = yX5_anyFull := rfl
theorem mC_47 : ll_mC 47 = cX5_anyFull := rfl
theorem mL_47 : ll_mL 47 = 2 := rfl
theorem mR_47 : ll_mR 47 = (some .boolean) := rfl
theorem mK_47 : ll_mK 47 = some 5 := rfl
theorem mI_47 : ll_mI 47 = false := rfl
theorem mN_48 : ll_mN 48 = yX5_lettersSpelt := rfl
theorem mC_48 : ll_mC 48 = cX5_lettersSpelt := rfl
theorem mL_48 : ll_mL 48 = 3 := rfl
theorem mR_48 : ll_mR 48 = (some .int) := rfl
theorem mK_48 : ll_mK 48 = some 5 := rfl
theorem mI_48 : ll_mI 48 = false := rfl
theorem mN_49 : ll_mN 49 = yX5_termBytes := rfl
theorem mC_49 : ll_mC 49 = cX5_termBytes := rfl
theorem mL_49 : ll_mL 49 = 2 := rfl
theorem mR_49 : ll_mR 49 = (some .int) := rfl
theorem mK_49 : ll_mK 49 = some 5 := rfl
theorem mI_49 : ll_mI 49 = false := rfl
theorem mN_50 : ll_mN 50 = yX5_termByte := rfl
theorem mC_50 : ll_mC 50 = cX5_termByte := rfl
theorem mL_50 : ll_mL 50 = 3 := rfl
theorem mR_50 : ll_mR 50 = (some .int) := rfl
theorem mK_50 : ll_mK 50 = some 5 := rfl
theorem mI_50 : ll_mI 50 = false := rfl
theorem mN_51 : ll_mN 51 = yX5_partSet := rfl
theorem mC_51 : ll_mC 51 = cX5_partSet := rfl
theorem mL_51 : ll_mL 51 = 3 := rfl
theorem mR_51 : ll_mR 51 = (some .int) := rfl
theorem mK_51 : ll_mK 51 = some 5 := rfl
theorem mI_51 : ll_mI 51 = false := rfl
theorem mN_52 : ll_mN 52 = yX5_partsOf := rfl
theorem mC_52 : ll_mC 52 = cX5_partsOf := rfl
theorem mL_52 : ll_mL 52 = 4 := rfl
theorem mR_52 : ll_mR 52 = (some .int) := rfl
theorem mK_52 : ll_mK 52 = some 5 := rfl
theorem mI_52 : ll_mI 52 = false := rfl
theorem mN_53 : ll_mN 53 = yX5_partOf := rfl
theorem mC_53 : ll_mC 53 = cX5_partOf := rfl
theorem mL_53 : ll_mL 53 = 4 := rfl
theorem mR_53 : ll_mR 53 = (some .int) := rfl
theorem mK_53 : ll_mK 53 = some 5 := rfl
theorem mI_53 : ll_mI 53 = false := rfl
theorem mN_54 : ll_mN 54 = yX5_partsOfSet := rfl
theorem mC_54 : ll_mC 54 = cX5_partsOfSet := rfl
theorem mL_54 : ll_mL 54 = 5 := rfl
theorem mR_54 : ll_mR 54 = (some .int) := rfl
theorem mK_54 : ll_mK 54 = some 5 := rfl
theorem mI_54 : ll_mI 54 = false := rfl
theorem mN_55 : ll_mN 55 = yX5_alikeTerm := rfl
theorem mC_55 : ll_mC 55 = cX5_alikeTerm := rfl
theorem mL_55 : ll_mL 55 = 4 := rfl
theorem mR_55 : ll_mR 55 = (some .int) := rfl
theorem mK_55 : ll_mK 55 = some 5 := rfl
theorem mI_55 : ll_mI 55 = false := rfl
theorem mN_56 : ll_mN 56 = yX5_isLetter := rfl
theorem mC_56 : ll_mC 56 = cX5_isLetter := rfl
theorem mL_56 : ll_mL 56 = 1 := rfl
theorem mR_56 : ll_mR 56 = (some .boolean) := rfl
theorem mK_56 : ll_mK 56 = none := rfl
theorem mI_56 : ll_mI 56 = false := rfl
theorem mN_57 : ll_mN 57 = yX5_signsStart := rfl
theorem mC_57 : ll_mC 57 = cX5_signsStart := rfl
theorem mL_57 : ll_mL 57 = 2 := rfl
theorem mR_57 : ll_mR 57 = (some .int) := rfl
theorem mK_57 : ll_mK 57 = some 5 := rfl
theorem mI_57 : ll_mI 57 = false := rfl
theorem mN_58 : ll_mN 58 = yX5_isAlike := rfl
theorem mC_58 : ll_mC 58 = cX5_isAlike := rfl
theorem mL_58 : ll_mL 58 = 8 := rfl
theorem mR_58 : ll_mR 58 = (some .boolean) := rfl
theorem mK_58 : ll_mK 58 = some 5 := rfl
theorem mI_58 : ll_mI 58 = false := rfl
theorem mN_59 : ll_mN 59 = yX6_init := rfl
theorem mC_59 : ll_mC 59 = cX6_init := rfl
theorem mL_59 : ll_mL 59 = 2 := rfl
theorem mR_59 : ll_mR 59 = none := rfl
theorem mK_59 : ll_mK 59 = some 6 := rfl
theorem mI_59 : ll_mI 59 = true := rfl
theorem mN_60 : ll_mN 60 = yX6_speltBytes := rfl
theorem mC_60 : ll_mC 60 = cX6_speltBytes := rfl
theorem mL_60 : ll_mL 60 = 2 := rfl
theorem mR_60 : ll_mR 60 = (some .int) := rfl
theorem mK_60 : ll_mK 60 = some 6 := rfl
theorem mI_60 : ll_mI 60 = false := rfl
theorem mN_61 : ll_mN 61 = yX6_findTerms := rfl
theorem mC_61 : ll_mC 61 = cX6_findTerms := rfl
theorem mL_61 : ll_mL 61 = 5 := rfl
theorem mR_61 : ll_mR 61 = none := rfl
theorem mK_61 : ll_mK 61 = some 6 := rfl
theorem mI_61 : ll_mI 61 = false := rfl
theorem mN_62 : ll_mN 62 = yX6_tellTerm := rfl
theorem mC_62 : ll_mC 62 = cX6_tellTerm := rfl
theorem mL_62 : ll_mL 62 = 7 := rfl
theorem mR_62 : ll_mR 62 = none := rfl
theorem mK_62 : ll_mK 62 = some 6 := rfl
theorem mI_62 : ll_mI 62 = false := rfl
theorem mN_63 : ll_mN 63 = yX6_findParts := rfl
theorem mC_63 : ll_mC 63 = cX6_findParts := rfl
theorem mL_63 : ll_mL 63 = 5 := rfl
theorem mR_63 : ll_mR 63 = none := rfl
theorem mK_63 : ll_mK 63 = some 6 := rfl
theorem mI_63 : ll_mI 63 = false := rfl
theorem mN_64 : ll_mN 64 = yX6_gatherFactors := rfl
theorem mC_64 : ll_mC 64 = cX6_gatherFactors := rfl
theorem mL_64 : ll_mL 64 = 7 := rfl
theorem mR_64 : ll_mR 64 = none := rfl
theorem mK_64 : ll_mK 64 = some 6 := rfl
theorem mI_64 : ll_mI 64 = false := rfl
theorem mN_65 : ll_mN 65 = yX6_gatherNode := rfl
theorem mC_65 : ll_mC 65 = cX6_gatherNode := rfl
theorem mL_65 : ll_mL 65 = 6 := rfl
theorem mR_65 : ll_mR 65 = none := rfl
theorem mK_65 : ll_mK 65 = some 6 := rfl
theorem mI_65 : ll_mI 65 = false := rfl
theorem mN_66 : ll_mN 66 = yX6_pushFactors := rfl
theorem mC_66 : ll_mC 66 = cX6_pushFactors := rfl
theorem mL_66 : ll_mL 66 = 3 := rfl
theorem mR_66 : ll_mR 66 = none := rfl
theorem mK_66 : ll_mK 66 = some 6 := rfl
theorem mI_66 : ll_mI 66 = false := rfl
theorem mN_67 : ll_mN 67 = yX6_push := rfl
theorem mC_67 : ll_mC 67 = cX6_push := rfl
theorem mL_67 : ll_mL 67 = 2 := rfl
theorem mR_67 : ll_mR 67 = none := rfl
theorem mK_67 : ll_mK 67 = some 6 := rfl
theorem mI_67 : ll_mI 67 = false := rfl
theorem mN_68 : ll_mN 68 = yX6_numberOfTerm := rfl
theorem mC_68 : ll_mC 68 = cX6_numberOfTerm := rfl
theorem mL_68 : ll_mL 68 = 3 := rfl
theorem mR_68 : ll_mR 68 = (some .int) := rfl
theorem mK_68 : ll_mK 68 = some 6 := rfl
theorem mI_68 : ll_mI 68 = false := rfl
theorem mN_69 : ll_mN 69 = yX6_isBehind := rfl
theorem mC_69 : ll_mC 69 = cX6_isBehind := rfl
theorem mL_69 : ll_mL 69 = 3 := rfl
theorem mR_69 : ll_mR 69 = (some .boolean) := rfl
theorem mK_69 : ll_mK 69 = some 6 := rfl
theorem mI_69 : ll_mI 69 = false := rfl
theorem mN_70 : ll_mN 70 = yX7_init := rfl
theorem mC_70 : ll_mC 70 = cX7_init := rfl
theorem mL_70 : ll_mL 70 = 2 := rfl
theorem mR_70 : ll_mR 70 = none := rfl
theorem mK_70 : ll_mK 70 = some 7 := rfl
theorem mI_70 : ll_mI 70 = true := rfl
theorem mN_71 : ll_mN 71 = yX7_clear := rfl
theorem mC_71 : ll_mC 71 = cX7_clear := rfl
theorem mL_71 : ll_mL 71 = 1 := rfl
theorem mR_71 : ll_mR 71 = none := rfl
theorem mK_71 : ll_mK 71 = some 7 := rfl
theorem mI_71 : ll_mI 71 = false := rfl
theorem mN_72 : ll_mN 72 = yX7_add := rfl
theorem mC_72 : ll_mC 72 = cX7_add := rfl
theorem mL_72 : ll_mL 72 = 2 := rfl
theorem mR_72 : ll_mR 72 = none := rfl
theorem mK_72 : ll_mK 72 = some 7 := rfl
theorem mI_72 : ll_mI 72 = false := rfl
theorem mN_73 : ll_mN 73 = yX7_addAll := rfl
theorem mC_73 : ll_mC 73 = cX7_addAll := rfl
theorem mL_73 : ll_mL 73 = 3 := rfl
theorem mR_73 : ll_mR 73 = none := rfl
theorem mK_73 : ll_mK 73 = some 7 := rfl
theorem mI_73 : ll_mI 73 = false := rfl
theorem mN_74 : ll_mN 74 = yX7_addBracketed := rfl
theorem mC_74 : ll_mC 74 = cX7_addBracketed := rfl
theorem mL_74 : ll_mL 74 = 2 := rfl
theorem mR_74 : ll_mR 74 = none := rfl
theorem mK_74 : ll_mK 74 = some 7 := rfl
theorem mI_74 : ll_mI 74 = false := rfl
theorem mN_75 : ll_mN 75 = yX7_become := rfl
theorem mC_75 : ll_mC 75 = cX7_become := rfl
theorem mL_75 : ll_mL 75 = 2 := rfl
theorem mR_75 : ll_mR 75 = none := rfl
theorem mK_75 : ll_mK 75 = some 7 := rfl
theorem mI_75 : ll_mI 75 = false := rfl
theorem mN_76 : ll_mN 76 = yX7_setAt := rfl
theorem mC_76 : ll_mC 76 = cX7_setAt := rfl
theorem mL_76 : ll_mL 76 = 3 := rfl
theorem mR_76 : ll_mR 76 = none := rfl
theorem mK_76 : ll_mK 76 = some 7 := rfl
theorem mI_76 : ll_mI 76 = false := rfl
theorem mN_77 : ll_mN 77 = yX7_at := rfl
theorem mC_77 : ll_mC 77 = cX7_at := rfl
theorem mL_77 : ll_mL 77 = 2 := rfl
theorem mR_77 : ll_mR 77 = (some .int) := rfl
theorem mK_77 : ll_mK 77 = some 7 := rfl
theorem mI_77 : ll_mI 77 = false := rfl
theorem mN_78 : ll_mN 78 = yX7_countOf := rfl
theorem mC_78 : ll_mC 78 = cX7_countOf := rfl
theorem mL_78 : ll_mL 78 = 4 := rfl
theorem mR_78 : ll_mR 78 = (some .int) := rfl
theorem mK_78 : ll_mK 78 = some 7 := rfl
theorem mI_78 : ll_mI 78 = false := rfl
theorem mN_79 : ll_mN 79 = yX8_init := rfl
theorem mC_79 : ll_mC 79 = cX8_init := rfl
theorem mL_79 : ll_mL 79 = 2 := rfl
theorem mR_79 : ll_mR 79 = none := rfl
theorem mK_79 : ll_mK 79 = some 8 := rfl
theorem mI_79 : ll_mI 79 = true := rfl
theorem mN_80 : ll_mN 80 = yX8_clear := rfl
theorem mC_80 : ll_mC 80 = cX8_clear := rfl
theorem mL_80 : ll_mL 80 = 1 := rfl
theorem mR_80 : ll_mR 80 = none := rfl
theorem mK_80 : ll_mK 80 = some 8 := rfl
theorem mI_80 : ll_mI 80 = false := rfl
theorem mN_81 : ll_mN 81 = yX8_kindOf := rfl
theorem mC_81 : ll_mC 81 = cX8_kindOf := rfl
theorem mL_81 : ll_mL 81 = 2 := rfl
theorem mR_81 : ll_mR 81 = (some .int) := rfl
theorem mK_81 : ll_mK 81 = some 8 := rfl
theorem mI_81 : ll_mI 81 = false := rfl
theorem mN_82 : ll_mN 82 = yX8_childrenOf := rfl
theorem mC_82 : ll_mC 82 = cX8_childrenOf := rfl
theorem mL_82 : ll_mL 82 = 2 := rfl
theorem mR_82 : ll_mR 82 = (some .int) := rfl
theorem mK_82 : ll_mK 82 = some 8 := rfl
theorem mI_82 : ll_mI 82 = false := rfl
theorem mN_83 : ll_mN 83 = yX8_childOf := rfl
theorem mC_83 : ll_mC 83 = cX8_childOf := rfl
theorem mL_83 : ll_mL 83 = 4 := rfl
theorem mR_83 : ll_mR 83 = (some .int) := rfl
theorem mK_83 : ll_mK 83 = some 8 := rfl
theorem mI_83 : ll_mI 83 = false := rfl
theorem mN_84 : ll_mN 84 = yX8_shortestOf := rfl
theorem mC_84 : ll_mC 84 = cX8_shortestOf := rfl
theorem mL_84 : ll_mL 84 = 2 := rfl
theorem mR_84 : ll_mR 84 = (some .int) := rfl
theorem mK_84 : ll_mK 84 = some 8 := rfl
theorem mI_84 : ll_mI 84 = false := rfl
theorem mN_85 : ll_mN 85 = yX8_nestOf := rfl
theorem mC_85 : ll_mC 85 = cX8_nestOf := rfl
theorem mL_85 : ll_mL 85 = 2 := rfl
theorem mR_85 : ll_mR 85 = (some .int) := rfl
theorem mK_85 : ll_mK 85 = some 8 := rfl
theorem mI_85 : ll_mI 85 = false := rfl
theorem mN_86 : ll_mN 86 = yX8_isFull := rfl
theorem mC_86 : ll_mC 86 = cX8_isFull := rfl
theorem mL_86 : ll_mL 86 = 2 := rfl
theorem mR_86 : ll_mR 86 = (some .boolean) := rfl
theorem mK_86 : ll_mK 86 = some 8 := rfl
theorem mI_86 : ll_mI 86 = false := rfl
theorem mN_87 : ll_mN 87 = yX8_mark := rfl
theorem mC_87 : ll_mC 87 = cX8_mark := rfl
theorem mL_87 : ll_mL 87 = 1 := rfl
theorem mR_87 : ll_mR 87 = (some .int) := rfl
theorem mK_87 : ll_mK 87 = some 8 := rfl
theorem mI_87 : ll_mI 87 = false := rfl
theorem mN_88 : ll_mN 88 = yX8_addSummand := rfl
theorem mC_88 : ll_mC 88 = cX8_addSummand := rfl
theorem mL_88 : ll_mL 88 = 4 := rfl
theorem mR_88 : ll_mR 88 = none := rfl
theorem mK_88 : ll_mK 88 = some 8 := rfl
theorem mI_88 : ll_mI 88 = false := rfl
theorem mN_89 : ll_mN 89 = yX8_addFactor := rfl
theorem mC_89 : ll_mC 89 = cX8_addFactor := rfl
theorem mL_89 : ll_mL 89 = 3 := rfl
theorem mR_89 : ll_mR 89 = none := rfl
theorem mK_89 : ll_mK 89 = some 8 := rfl
theorem mI_89 : ll_mI 89 = false := rfl
theorem mN_90 : ll_mN 90 = yX8_closeSum := rfl
theorem mC_90 : ll_mC 90 = cX8_closeSum := rfl
theorem mL_90 : ll_mL 90 = 2 := rfl
theorem mR_90 : ll_mR 90 = (some .int) := rfl
theorem mK_90 : ll_mK 90 = some 8 := rfl
theorem mI_90 : ll_mI 90 = false := rfl
theorem mN_91 : ll_mN 91 = yX8_closeProduct := rfl
theorem mC_91 : ll_mC 91 = cX8_closeProduct := rfl
theorem mL_91 : ll_mL 91 = 3 := rfl
theorem mR_91 : ll_mR 91 = (some .int) := rfl
theorem mK_91 : ll_mK 91 = some 8 := rfl
theorem mI_91 : ll_mI 91 = false := rfl
theorem mN_92 : ll_mN 92 = yX8_starOf := rfl
theorem mC_92 : ll_mC 92 = cX8_starOf := rfl
theorem mL_92 : ll_mL 92 = 4 := rfl
theorem mR_92 : ll_mR 92 = (some .int) := rfl
theorem mK_92 : ll_mK 92 = some 8 := rfl
theorem mI_92 : ll_mI 92 = false := rfl
theorem mN_93 : ll_mN 93 = yX8_spell := rfl
theorem mC_93 : ll_mC 93 = cX8_spell := rfl
theorem mL_93 : ll_mL 93 = 4 := rfl
theorem mR_93 : ll_mR 93 = none := rfl
theorem mK_93 : ll_mK 93 = some 8 := rfl
theorem mI_93 : ll_mI 93 = false := rfl
theorem mN_94 : ll_mN 94 = yX8_spellNode := rfl
theorem mC_94 : ll_mC 94 = cX8_spellNode := rfl
theorem mL_94 : ll_mL 94 = 7 := rfl
theorem mR_94 : ll_mR 94 = none := rfl
theorem mK_94 : ll_mK 94 = some 8 := rfl
theorem mI_94 : ll_mI 94 = false := rfl
theorem mN_95 : ll_mN 95 = yX8_spellChildren := rfl
theorem mC_95 : ll_mC 95 = cX8_spellChildren := rfl
theorem mL_95 : ll_mL 95 = 6 := rfl
theorem mR_95 : ll_mR 95 = none := rfl
theorem mK_95 : ll_mK 95 = some 8 := rfl
theorem mI_95 : ll_mI 95 = false := rfl
theorem mN_96 : ll_mN 96 = yX8_push := rfl
theorem mC_96 : ll_mC 96 = cX8_push := rfl
theorem mL_96 : ll_mL 96 = 2 := rfl
theorem mR_96 : ll_mR 96 = none := rfl
theorem mK_96 : ll_mK 96 = some 8 := rfl
theorem mI_96 : ll_mI 96 = false := rfl
theorem mN_97 : ll_mN 97 = yX8_addOnce := rfl
theorem mC_97 : ll_mC 97 = cX8_addOnce := rfl
theorem mL_97 : ll_mL 97 = 4 := rfl
theorem mR_97 : ll_mR 97 = none := rfl
theorem mK_97 : ll_mK 97 = some 8 := rfl
theorem mI_97 : ll_mI 97 = false := rfl
theorem mN_98 : ll_mN 98 = yX8_close := rfl
theorem mC_98 : ll_mC 98 = cX8_close := rfl
theorem mL_98 : ll_mL 98 = 6 := rfl
theorem mR_98 : ll_mR 98 = (some .int) := rfl
theorem mK_98 : ll_mK 98 = some 8 := rfl
theorem mI_98 : ll_mI 98 = false := rfl
theorem mN_99 : ll_mN 99 = yX8_nodeOf := rfl
theorem mC_99 : ll_mC 99 = cX8_nodeOf := rfl
theorem mL_99 : ll_mL 99 = 4 := rfl
theorem mR_99 : ll_mR 99 = (some .int) := rfl
theorem mK_99 : ll_mK 99 = some 8 := rfl
theorem mI_99 : ll_mI 99 = false := rfl
theorem mN_100 : ll_mN 100 = yX8_hasChildren := rfl
theorem mC_100 : ll_mC 100 = cX8_hasChildren := rfl
theorem mL_100 : ll_mL 100 = 4 := rfl
theorem mR_100 : ll_mR 100 = (some .boolean) := rfl
theorem mK_100 : ll_mK 100 = some 8 := rfl
theorem mI_100 : ll_mI 100 = false := rfl
theorem mN_101 : ll_mN 101 = yX8_newNode := rfl
theorem mC_101 : ll_mC 101 = cX8_newNode := rfl
theorem mL_101 : ll_mL 101 = 9 := rfl
theorem mR_101 : ll_mR 101 = (some .int) := rfl
theorem mK_101 : ll_mK 101 = some 8 := rfl
theorem mI_101 : ll_mI 101 = false := rfl
theorem mN_102 : ll_mN 102 = yX9_init := rfl
theorem mC_102 : ll_mC 102 = cX9_init := rfl
theorem mL_102 : ll_mL 102 = 3 := rfl
theorem mR_102 : ll_mR 102 = none := rfl
theorem mK_102 : ll_mK 102 = some 9 := rfl
theorem mI_102 : ll_mI 102 = true := rfl
theorem mN_103 : ll_mN 103 = yX9_howMany := rfl
theorem mC_103 : ll_mC 103 = cX9_howMany := rfl
theorem mL_103 : ll_mL 103 = 5 := rfl
theorem mR_103 : ll_mR 103 = (some .int) := rfl
theorem mK_103 : ll_mK 103 = some 9 := rfl
theorem mI_103 : ll_mI 103 = false := rfl
theorem mN_104 : ll_mN 104 = yX9_nth := rfl
theorem mC_104 : ll_mC 104 = cX9_nth := rfl
theorem mL_104 : ll_mL 104 = 13 := rfl
theorem mR_104 : ll_mR 104 = (some .int) := rfl
theorem mK_104 : ll_mK 104 = some 9 := rfl
theorem mI_104 : ll_mI 104 = false := rfl
theorem mN_105 : ll_mN 105 = yX9_begin := rfl
theorem mC_105 : ll_mC 105 = cX9_begin := rfl
theorem mL_105 : ll_mL 105 = 4 := rfl
theorem mR_105 : ll_mR 105 = none := rfl
theorem mK_105 : ll_mK 105 = some 9 := rfl
theorem mI_105 : ll_mI 105 = false := rfl
theorem mN_106 : ll_mN 106 = yX9_startLeft := rfl
theorem mC_106 : ll_mC 106 = cX9_startLeft := rfl
theorem mL_106 : ll_mL 106 = 1 := rfl
theorem mR_106 : ll_mR 106 = (some .int) := rfl
theorem mK_106 : ll_mK 106 = some 9 := rfl
theorem mI_106 : ll_mI 106 = false := rfl
theorem mN_107 : ll_mN 107 = yX9_startRight := rfl
theorem mC_107 : ll_mC 107 = cX9_startRight := rfl
theorem mL_107 : ll_mL 107 = 1 := rfl
theorem mR_107 : ll_mR 107 = (some .int) := rfl
theorem mK_107 : ll_mK 107 = some 9 := rfl
theorem mI_107 : ll_mI 107 = false := rfl
theorem mN_108 : ll_mN 108 = yX9_countBehind := rfl
theorem mC_108 : ll_mC 108 = cX9_countBehind := rfl
theorem mL_108 : ll_mL 108 = 5 := rfl
theorem mR_108 : ll_mR 108 = (some .int) := rfl
theorem mK_108 : ll_mK 108 = some 9 := rfl
theorem mI_108 : ll_mI 108 = false := rfl
theorem mN_109 : ll_mN 109 = yX9_countFrom := rfl
theorem mC_109 : ll_mC 109 = cX9_countFrom := rfl
theorem mL_109 : ll_mL 109 = 7 := rfl
theorem mR_109 : ll_mR 109 = (some .int) := rfl
theorem mK_109 : ll_mK 109 = some 9 := rfl
theorem mI_109 : ll_mI 109 = false := rfl
theorem mN_110 : ll_mN 110 = yX9_fits := rfl
theorem mC_110 : ll_mC 110 = cX9_fits := rfl
theorem mL_110 : ll_mL 110 = 3 := rfl
theorem mR_110 : ll_mR 110 = (some .boolean) := rfl
theorem mK_110 : ll_mK 110 = some 9 := rfl
theorem mI_110 : ll_mI 110 = false := rfl
theorem mN_111 : ll_mN 111 = yX9_allWords := rfl
theorem mC_111 : ll_mC 111 = cX9_allWords := rfl
theorem mL_111 : ll_mL 111 = 3 := rfl
theorem mR_111 : ll_mR 111 = (some .int) := rfl
theorem mK_111 : ll_mK 111 = none := rfl
theorem mI_111 : ll_mI 111 = false := rfl
theorem mN_112 : ll_mN 112 = yX9_cellOf := rfl
theorem mC_112 : ll_mC 112 = cX9_cellOf := rfl
theorem mL_112 : ll_mL 112 = 4 := rfl
theorem mR_112 : ll_mR 112 = (some .int) := rfl
theorem mK_112 : ll_mK 112 = none := rfl
theorem mI_112 : ll_mI 112 = false := rfl
theorem mN_113 : ll_mN 113 = yX10_init := rfl
theorem mC_113 : ll_mC 113 = cX10_init := rfl
theorem mL_113 : ll_mL 113 = 3 := rfl
theorem mR_113 : ll_mR 113 = none := rfl
theorem mK_113 : ll_mK 113 = some 10 := rfl
theorem mI_113 : ll_mI 113 = true := rfl
theorem mN_114 : ll_mN 114 = yX10_write := rfl
theorem mC_114 : ll_mC 114 = cX10_write := rfl
theorem mL_114 : ll_mL 114 = 6 := rfl
theorem mR_114 : ll_mR 114 = (some .int) := rfl
theorem mK_114 : ll_mK 114 = some 10 := rfl
theorem mI_114 : ll_mI 114 = false := rfl
theorem mN_115 : ll_mN 115 = yX10_side := rfl
theorem mC_115 : ll_mC 115 = cX10_side := rfl
theorem mL_115 : ll_mL 115 = 5 := rfl
theorem mR_115 : ll_mR 115 = (some .int) := rfl
theorem mK_115 : ll_mK 115 = some 10 := rfl
theorem mI_115 : ll_mI 115 = false := rfl
theorem mN_116 : ll_mN 116 = yX10_fault := rfl
theorem mC_116 : ll_mC 116 = cX10_fault := rfl
theorem mL_116 : ll_mL 116 = 1 := rfl
theorem mR_116 : ll_mR 116 = (some .int) := rfl
theorem mK_116 : ll_mK 116 = some 10 := rfl
theorem mI_116 : ll_mI 116 = false := rfl
theorem mN_117 : ll_mN 117 = yX10_swap := rfl
theorem mC_117 : ll_mC 117 = cX10_swap := rfl
theorem mL_117 : ll_mL 117 = 2 := rfl
theorem mR_117 : ll_mR 117 = none := rfl
theorem mK_117 : ll_mK 117 = some 10 := rfl
theorem mI_117 : ll_mI 117 = false := rfl
theorem mN_118 : ll_mN 118 = yX10_keep := rfl
theorem mC_118 : ll_mC 118 = cX10_keep := rfl
theorem mL_118 : ll_mL 118 = 3 := rfl
theorem mR_118 : ll_mR 118 = (some .boolean) := rfl
theorem mK_118 : ll_mK 118 = some 10 := rfl
theorem mI_118 : ll_mI 118 = false := rfl
theorem mN_119 : ll_mN 119 = yX10_make := rfl
theorem mC_119 : ll_mC 119 = cX10_make := rfl
theorem mL_119 : ll_mL 119 = 7 := rfl
theorem mR_119 : ll_mR 119 = (some .int) := rfl
theorem mK_119 : ll_mK 119 = some 10 := rfl
theorem mI_119 : ll_mI 119 = false := rfl
theorem mN_120 : ll_mN 120 = yX10_shape := rfl
theorem mC_120 : ll_mC 120 = cX10_shape := rfl
theorem mL_120 : ll_mL 120 = 4 := rfl
theorem mR_120 : ll_mR 120 = (some .int) := rfl
theorem mK_120 : ll_mK 120 = some 10 := rfl
theorem mI_120 : ll_mI 120 = false := rfl
theorem mN_121 : ll_mN 121 = yX10_term := rfl
theorem mC_121 : ll_mC 121 = cX10_term := rfl
theorem mL_121 : ll_mL 121 = 5 := rfl
theorem mR_121 : ll_mR 121 = (some .int) := rfl
theorem mK_121 : ll_mK 121 = some 10 := rfl
theorem mI_121 : ll_mI 121 = false := rfl
theorem mN_122 : ll_mN 122 = yX10_like := rfl
theorem mC_122 : ll_mC 122 = cX10_like := rfl
theorem mL_122 : ll_mL 122 = 3 := rfl
theorem mR_122 : ll_mR 122 = (some .int) := rfl
theorem mK_122 : ll_mK 122 = some 10 := rfl
theorem mI_122 : ll_mI 122 = false := rfl
theorem mN_123 : ll_mN 123 = yX10_has := rfl
theorem mC_123 : ll_mC 123 = cX10_has := rfl
theorem mL_123 : ll_mL 123 = 3 := rfl
theorem mR_123 : ll_mR 123 = (some .boolean) := rfl
theorem mK_123 : ll_mK 123 = some 10 := rfl
theorem mI_123 : ll_mI 123 = false := rfl
theorem mN_124 : ll_mN 124 = yX10_words := rfl
theorem mC_124 : ll_mC 124 = cX10_words := rfl
theorem mL_124 : ll_mL 124 = 3 := rfl
theorem mR_124 : ll_mR 124 = (some .int) := rfl
theorem mK_124 : ll_mK 124 = some 10 := rfl
theorem mI_124 : ll_mI 124 = false := rfl
theorem mN_125 : ll_mN 125 = yX10_word := rfl
theorem mC_125 : ll_mC 125 = cX10_word := rfl
theorem mL_125 : ll_mL 125 = 4 := rfl
theorem mR_125 : ll_mR 125 = (some .int) := rfl
theorem mK_125 : ll_mK 125 = some 10 := rfl
theorem mI_125 : ll_mI 125 = false := rfl
theorem mN_126 : ll_mN 126 = yX10_prove := rfl
theorem mC_126 : ll_mC 126 = cX10_prove := rfl
theorem mL_126 : ll_mL 126 = 1 := rfl
theorem mR_126 : ll_mR 126 = (some .int) := rfl
theorem mK_126 : ll_mK 126 = some 10 := rfl
theorem mI_126 : ll_mI 126 = false := rfl
theorem mN_127 : ll_mN 127 = yX10_apart := rfl
theorem mC_127 : ll_mC 127 = cX10_apart := rfl
theorem mL_127 : ll_mL 127 = 3 := rfl
theorem mR_127 : ll_mR 127 = (some .int) := rfl
theorem mK_127 : ll_mK 127 = some 10 := rfl
theorem mI_127 : ll_mI 127 = false := rfl
theorem mN_128 : ll_mN 128 = yX10_count := rfl
theorem mC_128 : ll_mC 128 = cX10_count := rfl
theorem mL_128 : ll_mL 128 = 3 := rfl
theorem mR_128 : ll_mR 128 = (some .int) := rfl
theorem mK_128 : ll_mK 128 = some 10 := rfl
theorem mI_128 : ll_mI 128 = false := rfl
theorem mN_129 : ll_mN 129 = yX10_line := rfl
theorem mC_129 : ll_mC 129 = cX10_line := rfl
theorem mL_129 : ll_mL 129 = 4 := rfl
theorem mR_129 : ll_mR 129 = (some .int) := rfl
theorem mK_129 : ll_mK 129 = some 10 := rfl
theorem mI_129 : ll_mI 129 = false := rfl
theorem mN_130 : ll_mN 130 = yX10_alter := rfl
theorem mC_130 : ll_mC 130 = cX10_alter := rfl
theorem mL_130 : ll_mL 130 = 5 := rfl
theorem mR_130 : ll_mR 130 = (some .int) := rfl
theorem mK_130 : ll_mK 130 = some 10 := rfl
theorem mI_130 : ll_mI 130 = false := rfl
theorem mN_131 : ll_mN 131 = yX10_cut := rfl
theorem mC_131 : ll_mC 131 = cX10_cut := rfl
theorem mL_131 : ll_mL 131 = 1 := rfl
theorem mR_131 : ll_mR 131 = (some .int) := rfl
theorem mK_131 : ll_mK 131 = some 10 := rfl
theorem mI_131 : ll_mI 131 = false := rfl
theorem mN_132 : ll_mN 132 = yX10_check := rfl
theorem mC_132 : ll_mC 132 = cX10_check := rfl
theorem mL_132 : ll_mL 132 = 1 := rfl
theorem mR_132 : ll_mR 132 = (some .int) := rfl
theorem mK_132 : ll_mK 132 = some 10 := rfl
theorem mI_132 : ll_mI 132 = false := rfl
theorem mN_133 : ll_mN 133 = yX10_why := rfl
theorem mC_133 : ll_mC 133 = cX10_why := rfl
theorem mL_133 : ll_mL 133 = 2 := rfl
theorem mR_133 : ll_mR 133 = (some .int) := rfl
theorem mK_133 : ll_mK 133 = some 10 := rfl
theorem mI_133 : ll_mI 133 = false := rfl
theorem mN_134 : ll_mN 134 = yX10_same := rfl
theorem mC_134 : ll_mC 134 = cX10_same := rfl
theorem mL_134 : ll_mL 134 = 3 := rfl
theorem mR_134 : ll_mR 134 = (some .int) := rfl
theorem mK_134 : ll_mK 134 = some 10 := rfl
theorem mI_134 : ll_mI 134 = false := rfl
theorem mN_135 : ll_mN 135 = yX10_between := rfl
theorem mC_135 : ll_mC 135 = cX10_between := rfl
theorem mL_135 : ll_mL 135 = 3 := rfl
theorem mR_135 : ll_mR 135 = (some .int) := rfl
theorem mK_135 : ll_mK 135 = some 10 := rfl
theorem mI_135 : ll_mI 135 = false := rfl
theorem mN_136 : ll_mN 136 = yX10_image := rfl
theorem mC_136 : ll_mC 136 = cX10_image := rfl
theorem mL_136 : ll_mL 136 = 2 := rfl
theorem mR_136 : ll_mR 136 = (some .boolean) := rfl
theorem mK_136 : ll_mK 136 = some 10 := rfl
theorem mI_136 : ll_mI 136 = false := rfl
theorem mN_137 : ll_mN 137 = yX10_again := rfl
theorem mC_137 : ll_mC 137 = cX10_again := rfl
theorem mL_137 : ll_mL 137 = 2 := rfl
theorem mR_137 : ll_mR 137 = (some .boolean) := rfl
theorem mK_137 : ll_mK 137 = some 10 := rfl
theorem mI_137 : ll_mI 137 = false := rfl
theorem mN_138 : ll_mN 138 = yX10_isSide := rfl
theorem mC_138 : ll_mC 138 = cX10_isSide := rfl
theorem mL_138 : ll_mL 138 = 1 := rfl
theorem mR_138 : ll_mR 138 = (some .boolean) := rfl
theorem mK_138 : ll_mK 138 = none := rfl
theorem mI_138 : ll_mI 138 = false := rfl
theorem mN_139 : ll_mN 139 = yX10_isSlot := rfl
theorem mC_139 : ll_mC 139 = cX10_isSlot := rfl
theorem mL_139 : ll_mL 139 = 1 := rfl
theorem mR_139 : ll_mR 139 = (some .boolean) := rfl
theorem mK_139 : ll_mK 139 = none := rfl
theorem mI_139 : ll_mI 139 = false := rfl
theorem mN_140 : ll_mN 140 = yX10_canCount := rfl
theorem mC_140 : ll_mC 140 = cX10_canCount := rfl
theorem mL_140 : ll_mL 140 = 2 := rfl
theorem mR_140 : ll_mR 140 = (some .boolean) := rfl
theorem mK_140 : ll_mK 140 = none := rfl
theorem mI_140 : ll_mI 140 = false := rfl
theorem mN_141 : ll_mN 141 = yX10_byteOf := rfl
theorem mC_141 : ll_mC 141 = cX10_byteOf := rfl
theorem mL_141 : ll_mL 141 = 3 := rfl
theorem mR_141 : ll_mR 141 = (some .int) := rfl
theorem mK_141 : ll_mK 141 = none := rfl
theorem mI_141 : ll_mI 141 = false := rfl
theorem mN_142 : ll_mN 142 = yX10_bytesOf := rfl
theorem mC_142 : ll_mC 142 = cX10_bytesOf := rfl
theorem mL_142 : ll_mL 142 = 3 := rfl
theorem mR_142 : ll_mR 142 = (some .int) := rfl
theorem mK_142 : ll_mK 142 = none := rfl
theorem mI_142 : ll_mI 142 = false := rfl
theorem mN_143 : ll_mN 143 = yX10_replace := rfl
theorem mC_143 : ll_mC 143 = cX10_replace := rfl
theorem mL_143 : ll_mL 143 = 4 := rfl
theorem mR_143 : ll_mR 143 = (some .int) := rfl
theorem mK_143 : ll_mK 143 = none := rfl
theorem mI_143 : ll_mI 143 = false := rfl
theorem mN_144 : ll_mN 144 = yX10_faultOf := rfl
theorem mC_144 : ll_mC 144 = cX10_faultOf := rfl
theorem mL_144 : ll_mL 144 = 3 := rfl
theorem mR_144 : ll_mR 144 = (some .int) := rfl
theorem mK_144 : ll_mK 144 = some 10 := rfl
theorem mI_144 : ll_mI 144 = false := rfl
theorem mN_145 : ll_mN 145 = yX10_put := rfl
theorem mC_145 : ll_mC 145 = cX10_put := rfl
theorem mL_145 : ll_mL 145 = 3 := rfl
theorem mR_145 : ll_mR 145 = (some .int) := rfl
theorem mK_145 : ll_mK 145 = some 10 := rfl
theorem mI_145 : ll_mI 145 = false := rfl
theorem mN_146 : ll_mN 146 = yX10_readSlot := rfl
theorem mC_146 : ll_mC 146 = cX10_readSlot := rfl
theorem mL_146 : ll_mL 146 = 4 := rfl
theorem mR_146 : ll_mR 146 = (some .int) := rfl
theorem mK_146 : ll_mK 146 = some 10 := rfl
theorem mI_146 : ll_mI 146 = false := rfl
theorem mN_147 : ll_mN 147 = yX10_draftOf := rfl
theorem mC_147 : ll_mC 147 = cX10_draftOf := rfl
theorem mL_147 : ll_mL 147 = 4 := rfl
theorem mR_147 : ll_mR 147 = none := rfl
theorem mK_147 : ll_mK 147 = some 10 := rfl
theorem mI_147 : ll_mI 147 = false := rfl
theorem mN_148 : ll_mN 148 = yX10_tapeIsWordOf := rfl
theorem mC_148 : ll_mC 148 = cX10_tapeIsWordOf := rfl
theorem mL_148 : ll_mL 148 = 6 := rfl
theorem mR_148 : ll_mR 148 = (some .boolean) := rfl
theorem mK_148 : ll_mK 148 = some 10 := rfl
theorem mI_148 : ll_mI 148 = false := rfl
theorem mN_149 : ll_mN 149 = yX11_init := rfl
theorem mC_149 : ll_mC 149 = cX11_init := rfl
theorem mL_149 : ll_mL 149 = 2 := rfl
theorem mR_149 : ll_mR 149 = none := rfl
theorem mK_149 : ll_mK 149 = some 11 := rfl
theorem mI_149 : ll_mI 149 = true := rfl
theorem mN_150 : ll_mN 150 = yX11_zeroes := rfl
theorem mC_150 : ll_mC 150 = cX11_zeroes := rfl
theorem mL_150 : ll_mL 150 = 2 := rfl
theorem mR_150 : ll_mR 150 = none := rfl
theorem mK_150 : ll_mK 150 = some 11 := rfl
theorem mI_150 : ll_mI 150 = false := rfl
theorem mN_151 : ll_mN 151 = yX11_isIn := rfl
theorem mC_151 : ll_mC 151 = cX11_isIn := rfl
theorem mL_151 : ll_mL 151 = 3 := rfl
theorem mR_151 : ll_mR 151 = (some .boolean) := rfl
theorem mK_151 : ll_mK 151 = none := rfl
theorem mI_151 : ll_mI 151 = false := rfl
theorem mN_152 : ll_mN 152 = yX11_copies := rfl
theorem mC_152 : ll_mC 152 = cX11_copies := rfl
theorem mL_152 : ll_mL 152 = 5 := rfl
theorem mR_152 : ll_mR 152 = none := rfl
theorem mK_152 : ll_mK 152 = some 11 := rfl
theorem mI_152 : ll_mI 152 = false := rfl
theorem mN_153 : ll_mN 153 = yX11_clears := rfl
theorem mC_153 : ll_mC 153 = cX11_clears := rfl
theorem mL_153 : ll_mL 153 = 2 := rfl
theorem mR_153 : ll_mR 153 = none := rfl
theorem mK_153 : ll_mK 153 = some 11 := rfl
theorem mI_153 : ll_mI 153 = false := rfl
theorem mN_154 : ll_mN 154 = yX11_addsNode := rfl
theorem mC_154 : ll_mC 154 = cX11_addsNode := rfl
theorem mL_154 : ll_mL 154 = 5 := rfl
theorem mR_154 : ll_mR 154 = (some .int) := rfl
theorem mK_154 : ll_mK 154 = some 11 := rfl
theorem mI_154 : ll_mI 154 = false := rfl
theorem mN_155 : ll_mN 155 = yX11_joins := rfl
theorem mC_155 : ll_mC 155 = cX11_joins := rfl
theorem mL_155 : ll_mL 155 = 4 := rfl
theorem mR_155 : ll_mR 155 = none := rfl
theorem mK_155 : ll_mK 155 = some 11 := rfl
theorem mI_155 : ll_mI 155 = false := rfl
theorem mN_156 : ll_mN 156 = yX11_kept := rfl
theorem mC_156 : ll_mC 156 = cX11_kept := rfl
theorem mL_156 : ll_mL 156 = 6 := rfl
theorem mR_156 : ll_mR 156 = (some .int) := rfl
theorem mK_156 : ll_mK 156 = some 11 := rfl
theorem mI_156 : ll_mI 156 = false := rfl
theorem mN_157 : ll_mN 157 = yX11_notes := rfl
theorem mC_157 : ll_mC 157 = cX11_notes := rfl
theorem mL_157 : ll_mL 157 = 4 := rfl
theorem mR_157 : ll_mR 157 = none := rfl
theorem mK_157 : ll_mK 157 = some 11 := rfl
theorem mI_157 : ll_mI 157 = false := rfl
theorem mN_158 : ll_mN 158 = yX11_sum := rfl
theorem mC_158 : ll_mC 158 = cX11_sum := rfl
theorem mL_158 : ll_mL 158 = 7 := rfl
theorem mR_158 : ll_mR 158 = (some .int) := rfl
theorem mK_158 : ll_mK 158 = some 11 := rfl
theorem mI_158 : ll_mI 158 = false := rfl
theorem mN_159 : ll_mN 159 = yX11_product := rfl
theorem mC_159 : ll_mC 159 = cX11_product := rfl
theorem mL_159 : ll_mL 159 = 7 := rfl
theorem mR_159 : ll_mR 159 = (some .int) := rfl
theorem mK_159 : ll_mK 159 = some 11 := rfl
theorem mI_159 : ll_mI 159 = false := rfl
theorem mN_160 : ll_mN 160 = yX11_star := rfl
theorem mC_160 : ll_mC 160 = cX11_star := rfl
theorem mL_160 : ll_mL 160 = 2 := rfl
theorem mR_160 : ll_mR 160 = (some .int) := rfl
theorem mK_160 : ll_mK 160 = some 11 := rfl
theorem mI_160 : ll_mI 160 = false := rfl
theorem mN_161 : ll_mN 161 = yX11_behind := rfl
theorem mC_161 : ll_mC 161 = cX11_behind := rfl
theorem mL_161 : ll_mL 161 = 6 := rfl
theorem mR_161 : ll_mR 161 = (some .int) := rfl
theorem mK_161 : ll_mK 161 = some 11 := rfl
theorem mI_161 : ll_mI 161 = false := rfl
theorem mN_162 : ll_mN 162 = yX11_opens := rfl
theorem mC_162 : ll_mC 162 = cX11_opens := rfl
theorem mL_162 : ll_mL 162 = 1 := rfl
theorem mR_162 : ll_mR 162 = none := rfl
theorem mK_162 : ll_mK 162 = some 11 := rfl
theorem mI_162 : ll_mI 162 = false := rfl
theorem mN_163 : ll_mN 163 = yX11_addsFactor := rfl
theorem mC_163 : ll_mC 163 = cX11_addsFactor := rfl
theorem mL_163 : ll_mL 163 = 2 := rfl
theorem mR_163 : ll_mR 163 = none := rfl
theorem mK_163 : ll_mK 163 = some 11 := rfl
theorem mI_163 : ll_mI 163 = false := rfl
theorem mN_164 : ll_mN 164 = yX11_endsProduct := rfl
theorem mC_164 : ll_mC 164 = cX11_endsProduct := rfl
theorem mL_164 : ll_mL 164 = 1 := rfl
theorem mR_164 : ll_mR 164 = none := rfl
theorem mK_164 : ll_mK 164 = some 11 := rfl
theorem mI_164 : ll_mI 164 = false := rfl
theorem mN_165 : ll_mN 165 = yX11_endsSum := rfl
theorem mC_165 : ll_mC 165 = cX11_endsSum := rfl
theorem mL_165 : ll_mL 165 = 1 := rfl
theorem mR_165 : ll_mR 165 = (some .int) := rfl
theorem mK_165 : ll_mK 165 = some 11 := rfl
theorem mI_165 : ll_mI 165 = false := rfl
theorem mN_166 : ll_mN 166 = yX11_told := rfl
theorem mC_166 : ll_mC 166 = cX11_told := rfl
theorem mL_166 : ll_mL 166 = 9 := rfl
theorem mR_166 : ll_mR 166 = (some .int) := rfl
theorem mK_166 : ll_mK 166 = some 11 := rfl
theorem mI_166 : ll_mI 166 = false := rfl
theorem mN_167 : ll_mN 167 = yX11_pushes := rfl
theorem mC_167 : ll_mC 167 = cX11_pushes := rfl
theorem mL_167 : ll_mL 167 = 3 := rfl
theorem mR_167 : ll_mR 167 = none := rfl
theorem mK_167 : ll_mK 167 = some 11 := rfl
theorem mI_167 : ll_mI 167 = false := rfl
theorem mN_168 : ll_mN 168 = yX11_pushesByte := rfl
theorem mC_168 : ll_mC 168 = cX11_pushesByte := rfl
theorem mL_168 : ll_mL 168 = 2 := rfl
theorem mR_168 : ll_mR 168 = none := rfl
theorem mK_168 : ll_mK 168 = some 11 := rfl
theorem mI_168 : ll_mI 168 = false := rfl
theorem mN_169 : ll_mN 169 = yX11_spells := rfl
theorem mC_169 : ll_mC 169 = cX11_spells := rfl
theorem mL_169 : ll_mL 169 = 3 := rfl
theorem mR_169 : ll_mR 169 = none := rfl
theorem mK_169 : ll_mK 169 = some 11 := rfl
theorem mI_169 : ll_mI 169 = false := rfl
theorem mN_170 : ll_mN 170 = yX11_spellsOne := rfl
theorem mC_170 : ll_mC 170 = cX11_spellsOne := rfl
theorem mL_170 : ll_mL 170 = 6 := rfl
theorem mR_170 : ll_mR 170 = none := rfl
theorem mK_170 : ll_mK 170 = some 11 := rfl
theorem mI_170 : ll_mI 170 = false := rfl
theorem mN_171 : ll_mN 171 = yX11_lacks := rfl
theorem mC_171 : ll_mC 171 = cX11_lacks := rfl
theorem mL_171 : ll_mL 171 = 5 := rfl
theorem mR_171 : ll_mR 171 = (some .int) := rfl
theorem mK_171 : ll_mK 171 = some 11 := rfl
theorem mI_171 : ll_mI 171 = false := rfl
theorem mN_172 : ll_mN 172 = yX11_lays := rfl
theorem mC_172 : ll_mC 172 = cX11_lays := rfl
theorem mL_172 : ll_mL 172 = 3 := rfl
theorem mR_172 : ll_mR 172 = none := rfl
theorem mK_172 : ll_mK 172 = some 11 := rfl
theorem mI_172 : ll_mI 172 = false := rfl
theorem mN_173 : ll_mN 173 = yX11_partOf := rfl
theorem mC_173 : ll_mC 173 = cX11_partOf := rfl
theorem mL_173 : ll_mL 173 = 4 := rfl
theorem mR_173 : ll_mR 173 = (some .int) := rfl
theorem mK_173 : ll_mK 173 = some 11 := rfl
theorem mI_173 : ll_mI 173 = false := rfl
theorem mN_174 : ll_mN 174 = yX11_laysParts := rfl
theorem mC_174 : ll_mC 174 = cX11_laysParts := rfl
theorem mL_174 : ll_mL 174 = 6 := rfl
theorem mR_174 : ll_mR 174 = none := rfl
theorem mK_174 : ll_mK 174 = some 11 := rfl
theorem mI_174 : ll_mI 174 = false := rfl
theorem mN_175 : ll_mN 175 = yX11_withStar := rfl
theorem mC_175 : ll_mC 175 = cX11_withStar := rfl
theorem mL_175 : ll_mL 175 = 3 := rfl
theorem mR_175 : ll_mR 175 = (some .int) := rfl
theorem mK_175 : ll_mK 175 = some 11 := rfl
theorem mI_175 : ll_mI 175 = false := rfl
theorem mN_176 : ll_mN 176 = yX11_needs := rfl
theorem mC_176 : ll_mC 176 = cX11_needs := rfl
theorem mL_176 : ll_mL 176 = 5 := rfl
theorem mR_176 : ll_mR 176 = none := rfl
theorem mK_176 : ll_mK 176 = some 11 := rfl
theorem mI_176 : ll_mI 176 = false := rfl
theorem mN_177 : ll_mN 177 = yX11_termBy := rfl
theorem mC_177 : ll_mC 177 = cX11_termBy := rfl
theorem mL_177 : ll_mL 177 = 4 := rfl
theorem mR_177 : ll_mR 177 = (some .int) := rfl
theorem mK_177 : ll_mK 177 = some 11 := rfl
theorem mI_177 : ll_mI 177 = false := rfl
theorem mN_178 : ll_mN 178 = yX11_laysTerms := rfl
theorem mC_178 : ll_mC 178 = cX11_laysTerms := rfl
theorem mL_178 : ll_mL 178 = 5 := rfl
theorem mR_178 : ll_mR 178 = none := rfl
theorem mK_178 : ll_mK 178 = some 11 := rfl
theorem mI_178 : ll_mI 178 = false := rfl
theorem mN_179 : ll_mN 179 = yX11_laysRow := rfl
theorem mC_179 : ll_mC 179 = cX11_laysRow := rfl
theorem mL_179 : ll_mL 179 = 9 := rfl
theorem mR_179 : ll_mR 179 = none := rfl
theorem mK_179 : ll_mK 179 = some 11 := rfl
theorem mI_179 : ll_mI 179 = false := rfl
theorem mN_180 : ll_mN 180 = yX11_laysBoth := rfl
theorem mC_180 : ll_mC 180 = cX11_laysBoth := rfl
theorem mL_180 : ll_mL 180 = 5 := rfl
theorem mR_180 : ll_mR 180 = none := rfl
theorem mK_180 : ll_mK 180 = some 11 := rfl
theorem mI_180 : ll_mI 180 = false := rfl
theorem mN_181 : ll_mN 181 = yX11_isFull := rfl
theorem mC_181 : ll_mC 181 = cX11_isFull := rfl
theorem mL_181 : ll_mL 181 = 3 := rfl
theorem mR_181 : ll_mR 181 = (some .boolean) := rfl
theorem mK_181 : ll_mK 181 = some 11 := rfl
theorem mI_181 : ll_mI 181 = false := rfl
theorem mN_182 : ll_mN 182 = yX11_isFullSet := rfl
theorem mC_182 : ll_mC 182 = cX11_isFullSet := rfl
theorem mL_182 : ll_mL 182 = 4 := rfl
theorem mR_182 : ll_mR 182 = (some .boolean) := rfl
theorem mK_182 : ll_mK 182 = some 11 := rfl
theorem mI_182 : ll_mI 182 = false := rfl
theorem mN_183 : ll_mN 183 = yX11_partsOf := rfl
theorem mC_183 : ll_mC 183 = cX11_partsOf := rfl
theorem mL_183 : ll_mL 183 = 6 := rfl
theorem mR_183 : ll_mR 183 = (some .int) := rfl
theorem mK_183 : ll_mK 183 = some 11 := rfl
theorem mI_183 : ll_mI 183 = false := rfl
theorem mN_184 : ll_mN 184 = yX11_isMember := rfl
theorem mC_184 : ll_mC 184 = cX11_isMember := rfl
theorem mL_184 : ll_mL 184 = 4 := rfl
theorem mR_184 : ll_mR 184 = (some .boolean) := rfl
theorem mK_184 : ll_mK 184 = some 11 := rfl
theorem mI_184 : ll_mI 184 = false := rfl
theorem mN_185 : ll_mN 185 = yX11_lineWith := rfl
theorem mC_185 : ll_mC 185 = cX11_lineWith := rfl
theorem mL_185 : ll_mL 185 = 5 := rfl
theorem mR_185 : ll_mR 185 = (some .int) := rfl
theorem mK_185 : ll_mK 185 = some 11 := rfl
theorem mI_185 : ll_mI 185 = false := rfl
theorem mN_186 : ll_mN 186 = yX11_newLine := rfl
theorem mC_186 : ll_mC 186 = cX11_newLine := rfl
theorem mL_186 : ll_mL 186 = 7 := rfl
theorem mR_186 : ll_mR 186 = none := rfl
theorem mK_186 : ll_mK 186 = some 11 := rfl
theorem mI_186 : ll_mI 186 = false := rfl
theorem mN_187 : ll_mN 187 = yX11_steps := rfl
theorem mC_187 : ll_mC 187 = cX11_steps := rfl
theorem mL_187 : ll_mL 187 = 11 := rfl
theorem mR_187 : ll_mR 187 = (some .boolean) := rfl
theorem mK_187 : ll_mK 187 = some 11 := rfl
theorem mI_187 : ll_mI 187 = false := rfl
theorem mN_188 : ll_mN 188 = yX11_tellsWord := rfl
theorem mC_188 : ll_mC 188 = cX11_tellsWord := rfl
theorem mL_188 : ll_mL 188 = 6 := rfl
theorem mR_188 : ll_mR 188 = none := rfl
theorem mK_188 : ll_mK 188 = some 11 := rfl
theorem mI_188 : ll_mI 188 = false := rfl
theorem mN_189 : ll_mN 189 = yX11_searches := rfl
theorem mC_189 : ll_mC 189 = cX11_searches := rfl
theorem mL_189 : ll_mL 189 = 5 := rfl
theorem mR_189 : ll_mR 189 = (some .int) := rfl
theorem mK_189 : ll_mK 189 = some 11 := rfl
theorem mI_189 : ll_mI 189 = false := rfl
theorem mN_190 : ll_mN 190 = yX11_forgets := rfl
theorem mC_190 : ll_mC 190 = cX11_forgets := rfl
theorem mL_190 : ll_mL 190 = 2 := rfl
theorem mR_190 : ll_mR 190 = none := rfl
theorem mK_190 : ll_mK 190 = some 11 := rfl
theorem mI_190 : ll_mI 190 = false := rfl
theorem mN_191 : ll_mN 191 = yX11_prove := rfl
theorem mC_191 : ll_mC 191 = cX11_prove := rfl
theorem mL_191 : ll_mL 191 = 1 := rfl
theorem mR_191 : ll_mR 191 = (some .int) := rfl
theorem mK_191 : ll_mK 191 = some 11 := rfl
theorem mI_191 : ll_mI 191 = false := rfl
theorem mN_192 : ll_mN 192 = yX11_tried := rfl
theorem mC_192 : ll_mC 192 = cX11_tried := rfl
theorem mL_192 : ll_mL 192 = 3 := rfl
theorem mR_192 : ll_mR 192 = (some .int) := rfl
theorem mK_192 : ll_mK 192 = some 11 := rfl
theorem mI_192 : ll_mI 192 = false := rfl
theorem mN_193 : ll_mN 193 = yX11_same := rfl
theorem mC_193 : ll_mC 193 = cX11_same := rfl
theorem mL_193 : ll_mL 193 = 3 := rfl
theorem mR_193 : ll_mR 193 = (some .int) := rfl
theorem mK_193 : ll_mK 193 = some 11 := rfl
theorem mI_193 : ll_mI 193 = false := rfl
theorem mN_194 : ll_mN 194 = yX11_isSlot := rfl
theorem mC_194 : ll_mC 194 = cX11_isSlot := rfl
theorem mL_194 : ll_mL 194 = 1 := rfl
theorem mR_194 : ll_mR 194 = (some .boolean) := rfl
theorem mK_194 : ll_mK 194 = none := rfl
theorem mI_194 : ll_mI 194 = false := rfl
theorem mN_195 : ll_mN 195 = yX11_between := rfl
theorem mC_195 : ll_mC 195 = cX11_between := rfl
theorem mL_195 : ll_mL 195 = 3 := rfl
theorem mR_195 : ll_mR 195 = (some .int) := rfl
theorem mK_195 : ll_mK 195 = some 11 := rfl
theorem mI_195 : ll_mI 195 = false := rfl
theorem mN_196 : ll_mN 196 = yX11_apart := rfl
theorem mC_196 : ll_mC 196 = cX11_apart := rfl
theorem mL_196 : ll_mL 196 = 2 := rfl
theorem mR_196 : ll_mR 196 = (some .int) := rfl
theorem mK_196 : ll_mK 196 = some 11 := rfl
theorem mI_196 : ll_mI 196 = false := rfl
theorem mN_197 : ll_mN 197 = yX11_line := rfl
theorem mC_197 : ll_mC 197 = cX11_line := rfl
theorem mL_197 : ll_mL 197 = 3 := rfl
theorem mR_197 : ll_mR 197 = (some .int) := rfl
theorem mK_197 : ll_mK 197 = some 11 := rfl
theorem mI_197 : ll_mI 197 = false := rfl
theorem mN_198 : ll_mN 198 = yX11_placeOf := rfl
theorem mC_198 : ll_mC 198 = cX11_placeOf := rfl
theorem mL_198 : ll_mL 198 = 2 := rfl
theorem mR_198 : ll_mR 198 = (some .int) := rfl
theorem mK_198 : ll_mK 198 = none := rfl
theorem mI_198 : ll_mI 198 = false := rfl
theorem mN_199 : ll_mN 199 = yX11_alter := rfl
theorem mC_199 : ll_mC 199 = cX11_alter := rfl
theorem mL_199 : ll_mL 199 = 6 := rfl
theorem mR_199 : ll_mR 199 = (some .int) := rfl
theorem mK_199 : ll_mK 199 = some 11 := rfl
theorem mI_199 : ll_mI 199 = false := rfl
theorem mN_200 : ll_mN 200 = yX11_cut := rfl
theorem mC_200 : ll_mC 200 = cX11_cut := rfl
theorem mL_200 : ll_mL 200 = 1 := rfl
theorem mR_200 : ll_mR 200 = (some .int) := rfl
theorem mK_200 : ll_mK 200 = some 11 := rfl
theorem mI_200 : ll_mI 200 = false := rfl
theorem mN_201 : ll_mN 201 = yX11_isTold := rfl
theorem mC_201 : ll_mC 201 = cX11_isTold := rfl
theorem mL_201 : ll_mL 201 = 4 := rfl
theorem mR_201 : ll_mR 201 = (some .boolean) := rfl
theorem mK_201 : ll_mK 201 = some 11 := rfl
theorem mI_201 : ll_mI 201 = false := rfl
theorem mN_202 : ll_mN 202 = yX11_count := rfl
theorem mC_202 : ll_mC 202 = cX11_count := rfl
theorem mL_202 : ll_mL 202 = 4 := rfl
theorem mR_202 : ll_mR 202 = (some .int) := rfl
theorem mK_202 : ll_mK 202 = some 11 := rfl
theorem mI_202 : ll_mI 202 = false := rfl
theorem mN_203 : ll_mN 203 = yX11_hasPremise := rfl
theorem mC_203 : ll_mC 203 = cX11_hasPremise := rfl
theorem mL_203 : ll_mL 203 = 6 := rfl
theorem mR_203 : ll_mR 203 = (some .boolean) := rfl
theorem mK_203 : ll_mK 203 = some 11 := rfl
theorem mI_203 : ll_mI 203 = false := rfl
theorem mN_204 : ll_mN 204 = yX11_reason := rfl
theorem mC_204 : ll_mC 204 = cX11_reason := rfl
theorem mL_204 : ll_mL 204 = 9 := rfl
theorem mR_204 : ll_mR 204 = (some .int) := rfl
theorem mK_204 : ll_mK 204 = some 11 := rfl
theorem mI_204 : ll_mI 204 = false := rfl
theorem mN_205 : ll_mN 205 = yX11_bad := rfl
theorem mC_205 : ll_mC 205 = cX11_bad := rfl
theorem mL_205 : ll_mL 205 = 2 := rfl
theorem mR_205 : ll_mR 205 = (some .int) := rfl
theorem mK_205 : ll_mK 205 = some 11 := rfl
theorem mI_205 : ll_mI 205 = false := rfl
theorem mN_206 : ll_mN 206 = yX11_check := rfl
theorem mC_206 : ll_mC 206 = cX11_check := rfl
theorem mL_206 : ll_mL 206 = 1 := rfl
theorem mR_206 : ll_mR 206 = (some .int) := rfl
theorem mK_206 : ll_mK 206 = some 11 := rfl
theorem mI_206 : ll_mI 206 = false := rfl
theorem mN_207 : ll_mN 207 = yX11_why := rfl
theorem mC_207 : ll_mC 207 = cX11_why := rfl
theorem mL_207 : ll_mL 207 = 3 := rfl
theorem mR_207 : ll_mR 207 = (some .int) := rfl
theorem mK_207 : ll_mK 207 = some 11 := rfl
theorem mI_207 : ll_mI 207 = false := rfl
theorem mN_208 : ll_mN 208 = yX11_write := rfl
theorem mC_208 : ll_mC 208 = cX11_write := rfl
theorem mL_208 : ll_mL 208 = 5 := rfl
theorem mR_208 : ll_mR 208 = (some .int) := rfl
theorem mK_208 : ll_mK 208 = some 11 := rfl
theorem mI_208 : ll_mI 208 = false := rfl
theorem mN_209 : ll_mN 209 = yX11_isSide := rfl
theorem mC_209 : ll_mC 209 = cX11_isSide := rfl
theorem mL_209 : ll_mL 209 = 1 := rfl
theorem mR_209 : ll_mR 209 = (some .boolean) := rfl
theorem mK_209 : ll_mK 209 = none := rfl
theorem mI_209 : ll_mI 209 = false := rfl
theorem mN_210 : ll_mN 210 = yX11_becomes := rfl
theorem mC_210 : ll_mC 210 = cX11_becomes := rfl
theorem mL_210 : ll_mL 210 = 4 := rfl
theorem mR_210 : ll_mR 210 = (some .int) := rfl
theorem mK_210 : ll_mK 210 = some 11 := rfl
theorem mI_210 : ll_mI 210 = false := rfl
theorem mN_211 : ll_mN 211 = yX11_side := rfl
theorem mC_211 : ll_mC 211 = cX11_side := rfl
theorem mL_211 : ll_mL 211 = 4 := rfl
theorem mR_211 : ll_mR 211 = (some .int) := rfl
theorem mK_211 : ll_mK 211 = some 11 := rfl
theorem mI_211 : ll_mI 211 = false := rfl
theorem mN_212 : ll_mN 212 = yX11_fault := rfl
theorem mC_212 : ll_mC 212 = cX11_fault := rfl
theorem mL_212 : ll_mL 212 = 1 := rfl
theorem mR_212 : ll_mR 212 = (some .int) := rfl
theorem mK_212 : ll_mK 212 = some 11 := rfl
theorem mI_212 : ll_mI 212 = false := rfl
theorem mN_213 : ll_mN 213 = yX11_swap := rfl
theorem mC_213 : ll_mC 213 = cX11_swap := rfl
theorem mL_213 : ll_mL 213 = 1 := rfl
theorem mR_213 : ll_mR 213 = none := rfl
theorem mK_213 : ll_mK 213 = some 11 := rfl
theorem mI_213 : ll_mI 213 = false := rfl
theorem mN_214 : ll_mN 214 = yX11_keep := rfl
theorem mC_214 : ll_mC 214 = cX11_keep := rfl
theorem mL_214 : ll_mL 214 = 3 := rfl
theorem mR_214 : ll_mR 214 = (some .boolean) := rfl
theorem mK_214 : ll_mK 214 = some 11 := rfl
theorem mI_214 : ll_mI 214 = false := rfl
theorem mN_215 : ll_mN 215 = yX11_make := rfl
theorem mC_215 : ll_mC 215 = cX11_make := rfl
theorem mL_215 : ll_mL 215 = 8 := rfl
theorem mR_215 : ll_mR 215 = (some .int) := rfl
theorem mK_215 : ll_mK 215 = some 11 := rfl
theorem mI_215 : ll_mI 215 = false := rfl
theorem mN_216 : ll_mN 216 = yX11_spelled := rfl
theorem mC_216 : ll_mC 216 = cX11_spelled := rfl
theorem mL_216 : ll_mL 216 = 4 := rfl
theorem mR_216 : ll_mR 216 = (some .int) := rfl
theorem mK_216 : ll_mK 216 = some 11 := rfl
theorem mI_216 : ll_mI 216 = false := rfl
theorem mN_217 : ll_mN 217 = yX11_byteAt := rfl
theorem mC_217 : ll_mC 217 = cX11_byteAt := rfl
theorem mL_217 : ll_mL 217 = 2 := rfl
theorem mR_217 : ll_mR 217 = (some .int) := rfl
theorem mK_217 : ll_mK 217 = some 11 := rfl
theorem mI_217 : ll_mI 217 = false := rfl
theorem mN_218 : ll_mN 218 = yX11_shape := rfl
theorem mC_218 : ll_mC 218 = cX11_shape := rfl
theorem mL_218 : ll_mL 218 = 4 := rfl
theorem mR_218 : ll_mR 218 = (some .int) := rfl
theorem mK_218 : ll_mK 218 = some 11 := rfl
theorem mI_218 : ll_mI 218 = false := rfl
theorem mN_219 : ll_mN 219 = yX11_term := rfl
theorem mC_219 : ll_mC 219 = cX11_term := rfl
theorem mL_219 : ll_mL 219 = 4 := rfl
theorem mR_219 : ll_mR 219 = (some .int) := rfl
theorem mK_219 : ll_mK 219 = some 11 := rfl
theorem mI_219 : ll_mI 219 = false := rfl
theorem mN_220 : ll_mN 220 = yX11_like := rfl
theorem mC_220 : ll_mC 220 = cX11_like := rfl
theorem mL_220 : ll_mL 220 = 3 := rfl
theorem mR_220 : ll_mR 220 = (some .int) := rfl
theorem mK_220 : ll_mK 220 = some 11 := rfl
theorem mI_220 : ll_mI 220 = false := rfl
theorem mN_221 : ll_mN 221 = yX11_has := rfl
theorem mC_221 : ll_mC 221 = cX11_has := rfl
theorem mL_221 : ll_mL 221 = 5 := rfl
theorem mR_221 : ll_mR 221 = (some .boolean) := rfl
theorem mK_221 : ll_mK 221 = some 11 := rfl
theorem mI_221 : ll_mI 221 = false := rfl
theorem mN_222 : ll_mN 222 = yX11_isWord := rfl
theorem mC_222 : ll_mC 222 = cX11_isWord := rfl
theorem mL_222 : ll_mL 222 = 5 := rfl
theorem mR_222 : ll_mR 222 = (some .boolean) := rfl
theorem mK_222 : ll_mK 222 = some 11 := rfl
theorem mI_222 : ll_mI 222 = false := rfl
theorem mN_223 : ll_mN 223 = yX11_isOne := rfl
theorem mC_223 : ll_mC 223 = cX11_isOne := rfl
theorem mL_223 : ll_mL 223 = 5 := rfl
theorem mR_223 : ll_mR 223 = (some .boolean) := rfl
theorem mK_223 : ll_mK 223 = some 11 := rfl
theorem mI_223 : ll_mI 223 = false := rfl
theorem mN_224 : ll_mN 224 = yX11_goesOn := rfl
theorem mC_224 : ll_mC 224 = cX11_goesOn := rfl
theorem mL_224 : ll_mL 224 = 3 := rfl
theorem mR_224 : ll_mR 224 = (some .boolean) := rfl
theorem mK_224 : ll_mK 224 = some 11 := rfl
theorem mI_224 : ll_mI 224 = false := rfl
theorem mN_225 : ll_mN 225 = yX11_number := rfl
theorem mC_225 : ll_mC 225 = cX11_number := rfl
theorem mL_225 : ll_mL 225 = 4 := rfl
theorem mR_225 : ll_mR 225 = (some .int) := rfl
theorem mK_225 : ll_mK 225 = some 11 := rfl
theorem mI_225 : ll_mI 225 = false := rfl
theorem mN_226 : ll_mN 226 = yX11_listed := rfl
theorem mC_226 : ll_mC 226 = cX11_listed := rfl
theorem mL_226 : ll_mL 226 = 6 := rfl
theorem mR_226 : ll_mR 226 = (some .int) := rfl
theorem mK_226 : ll_mK 226 = some 11 := rfl
theorem mI_226 : ll_mI 226 = false := rfl
theorem mN_227 : ll_mN 227 = yX11_words := rfl
theorem mC_227 : ll_mC 227 = cX11_words := rfl
theorem mL_227 : ll_mL 227 = 3 := rfl
theorem mR_227 : ll_mR 227 = (some .int) := rfl
theorem mK_227 : ll_mK 227 = some 11 := rfl
theorem mI_227 : ll_mI 227 = false := rfl
theorem mN_228 : ll_mN 228 = yX11_word := rfl
theorem mC_228 : ll_mC 228 = cX11_word := rfl
theorem mL_228 : ll_mL 228 = 4 := rfl
theorem mR_228 : ll_mR 228 = (some .int) := rfl
theorem mK_228 : ll_mK 228 = some 11 := rfl
theorem mI_228 : ll_mI 228 = false := rfl
theorem mN_229 : ll_mN 229 = yX11_image := rfl
theorem mC_229 : ll_mC 229 = cX11_image := rfl
theorem mL_229 : ll_mL 229 = 4 := rfl
theorem mR_229 : ll_mR 229 = (some .boolean) := rfl
theorem mK_229 : ll_mK 229 = some 11 := rfl
theorem mI_229 : ll_mI 229 = false := rfl
theorem mN_230 : ll_mN 230 = yX11_again := rfl
theorem mC_230 : ll_mC 230 = cX11_again := rfl
theorem mL_230 : ll_mL 230 = 4 := rfl
theorem mR_230 : ll_mR 230 = (some .boolean) := rfl
theorem mK_230 : ll_mK 230 = some 11 := rfl
theorem mI_230 : ll_mI 230 = false := rfl
theorem mN_231 : ll_mN 231 = yJ7_fill_53178 := rfl
theorem mC_231 : ll_mC 231 = cJ7_fill_53178 := rfl
theorem mL_231 : ll_mL 231 = 4 := rfl
theorem mR_231 : ll_mR 231 = none := rfl
theorem mK_231 : ll_mK 231 = none := rfl
theorem mI_231 : ll_mI 231 = false := rfl
theorem mN_232 : ll_mN 232 = yL_law := rfl
theorem mC_232 : ll_mC 232 = cL_law := rfl
theorem mL_232 : ll_mL 232 = 4 := rfl
theorem mR_232 : ll_mR 232 = (some .boolean) := rfl
theorem mK_232 : ll_mK 232 = none := rfl
theorem mI_232 : ll_mI 232 = false := rfl
theorem lm_0 : ll_M ll_mN ll_mC ll_mL ll_mR ll_mI 0 := by
  unfold ll_M
  rw [mN_0, mC_0, mL_0, mR_0, mI_0]
  exact ⟨tb_975, tb_469, by decide +kernel, ⟨by decide +kernel, by decide +kernel⟩, by decide, fun _ => rfl⟩
theorem lm_1 : ll_M ll_mN ll_mC ll_mL ll_mR ll_mI 1 := by
  unfold ll_M
  rw [mN_1, mC_1, mL_1, mR_1, mI_1]
  exact ⟨tb_976, tb_469, by decide +kernel, ⟨by decide +kernel, by decide +kernel⟩, by decide, fun h => by cases h⟩
theorem lm_2 : ll_M ll_mN ll_mC ll_mL ll_mR ll_mI 2 := by
  unfold ll_M
  rw [mN_2, mC_2, mL_2, mR_2, mI_2]
  exact ⟨tb_977, tb_469, by decide +kernel, ⟨by decide +kernel, by decide +kernel⟩, by decide, fun h => by cases h⟩
theorem lm_3 : ll_M ll_mN ll_mC ll_mL ll_mR ll_mI 3 := by
  unfold ll_M
  rw [mN_3, mC_3, mL_3, mR_3, mI_3]
  exact ⟨tb_978, tb_469, by decide +kernel, ⟨by decide +kernel, by decide +kernel⟩, by decide, fun h => by cases h⟩
theorem lm_4 : ll_M ll_mN ll_mC ll_mL ll_mR ll_mI 4 := by
  unfold ll_M
  rw [mN_4, mC_4, mL_4, mR_4, mI_4]
  exact ⟨tb_979, tb_469, by decide +kernel, ⟨by decide +kernel, by decide +kernel⟩, by decide, fun h => by cases h⟩
theorem lm_5 : ll_M ll_mN ll_mC ll_mL ll_mR ll_mI 5 := by
  unfold ll_M
  rw [mN_5, mC_5, mL_5, mR_5, mI_5]
  exact ⟨tb_980, tb_469, by decide +kernel, ⟨by decide +kernel, by decide +kernel⟩, by decide, fun h => by cases h⟩
theorem lm_6 : ll_M ll_mN ll_mC ll_mL ll_mR ll_mI 6 := by
  unfold ll_M
  rw [mN_6, mC_6, mL_6, mR_6, mI_6]
  exact ⟨tb_981, tb_469, by decide +kernel, ⟨by decide +kernel, by decide +kernel⟩, by decide, fun h => by cases h⟩
theorem lm_7 : ll_M ll_mN ll_mC ll_mL ll_mR ll_mI 7 := by
  unfold ll_M
  rw [mN_7, mC_7, mL_7, mR_7, mI_7]
  exact ⟨tb_982, tb_469, by decide +kernel, ⟨by decide +kernel, by decide +kernel⟩, by decide, fun h => by cases h⟩
theorem lm_8 : ll_M ll_mN ll_mC ll_mL ll_mR ll_mI 8 := by
  unfold ll_M
  rw [mN_8, mC_8, mL_8, mR_8, mI_8]
  exact ⟨tb_983, tb_156, by decide +kernel, ⟨by decide +kernel, by decide +kernel⟩, by decide, fun _ => rfl⟩
theorem lm_9 : ll_M ll_mN ll_mC ll_mL ll_mR ll_mI 9 := by
  unfold ll_M
  rw [mN_9, mC_9, mL_9, mR_9, mI_9]
  exact ⟨tb_984, tb_156, by decide +kernel, ⟨by decide +kernel, by decide +kernel⟩, by decide, fun h => by cases h⟩
theorem lm_10 : ll_M ll_mN ll_mC ll_mL ll_mR ll_mI 10 := by
  unfold ll_M
  rw [mN_10, mC_10, mL_10, mR_10, mI_10]
  exact ⟨tb_985, tb_156, by decide +kernel, ⟨by decide +kernel, by decide +kernel⟩, by decide, fun h => by cases h⟩
theorem lm_11 : ll_M ll_mN ll_mC ll_mL ll_mR ll_mI 11 := by
  unfold ll_M
  rw [mN_11, mC_11, mL_11, mR_11, mI_11]
  exact ⟨tb_986, tb_156, by decide +kernel, ⟨by decide +kernel, by decide +kernel⟩, by decide, fun h => by cases h⟩
theorem lm_12 : ll_M ll_mN ll_mC ll_mL ll_mR ll_mI 12 := by
  unfold ll_M
  rw [mN_12, mC_12, mL_12, mR_12, mI_12]
  exact ⟨tb_987, tb_156, by decide +kernel, ⟨by decide +kernel, by decide +kernel⟩, by decide, fun h => by cases h⟩
theorem lm_13 : ll_M ll_mN ll_mC ll_mL ll_mR ll_mI 13 := by
  unfold ll_M
  rw [mN_13, mC_13, mL_13, mR_13, mI_13]
  exact ⟨tb_988, tb_156, by decide +kernel, ⟨by decide +kernel, by decide +kernel⟩, by decide, fun h => by cases h⟩
theorem lm_14 : ll_M ll_mN ll_mC ll_mL ll_mR ll_mI 14 := by
  unfold ll_M
  rw [mN_14, mC_14, mL_14, mR_14, mI_14]
  exact ⟨tb_989, tb_156, by decide +kernel, ⟨by decide +kernel, by decide +kernel⟩, by decide, fun h => by cases h⟩
theorem lm_15 : ll_M ll_mN ll_mC ll_mL ll_mR ll_mI 15 := by
  unfold ll_M
  rw [mN_15, mC_15, mL_15, mR_15, mI_15]
  exact ⟨tb_990, tb_156, by decide +kernel, ⟨by decide +kernel, by decide +kernel⟩, by decide, fun h => by cases h⟩
theorem lm_16 : ll_M ll_mN ll_mC ll_mL ll_mR ll_mI 16 := by
  unfold ll_M
  rw [mN_16, mC_16, mL_16, mR_16, mI_16]
  exact ⟨tb_991, tb_156, by decide +kernel, ⟨by decide +kernel, by decide +kernel⟩, by decide, fun h => by cases h⟩
theorem lm_17 : ll_M ll_mN ll_mC ll_mL ll_mR ll_mI 17 := by
  unfold ll_M
  rw [mN_17, mC_17, mL_17, mR_17, mI_17]
  exact ⟨tb_992, tb_156, by decide +kernel, ⟨by decide +kernel, by decide +kernel⟩, by decide, fun h => by cases h⟩
theorem lm_18 : ll_M ll_mN ll_mC ll_mL ll_mR ll_mI 18 := by
  unfold ll_M
  rw [mN_18, mC_18, mL_18, mR_18, mI_18]
  exact ⟨tb_993, tb_156, by decide +kernel, ⟨by decide +kernel, by decide +kernel⟩, by decide, fun h => by cases h⟩
theorem lm_19 : ll_M ll_mN ll_mC ll_mL ll_mR ll_mI 19 := by
  unfold ll_M
  rw [mN_19, mC_19, mL_19, mR_19, mI_19]
  exact ⟨tb_994, tb_156, by decide +kernel, ⟨by decide +kernel, by decide +kernel⟩, by decide, fun h => by cases h⟩
theorem lm_20 : ll_M ll_mN ll_mC ll_mL ll_mR ll_mI 20 := by
  unfold ll_M
  rw [mN_20, mC_20, mL_20, mR_20, mI_20]
  exact ⟨tb_995, tb_156, by decide +kernel, ⟨by decide +kernel, by decide +kernel⟩, by decide, fun h => by cases h⟩
theorem lm_21 : ll_M ll_mN ll_mC ll_mL ll_mR ll_mI 21 := by
  unfold ll_M
  rw [mN_21, mC_21, mL_21, mR_21, mI_21]
  exact ⟨tb_996, tb_446, by decide +kernel, ⟨by decide +kernel, by decide +kernel⟩, by decide, fun _ => rfl⟩
theorem lm_22 : ll_M ll_mN ll_mC ll_mL ll_mR ll_mI 22 := by
  unfold ll_M
  rw [mN_22, mC_22, mL_22, mR_22, mI_22]
  exact ⟨tb_997, tb_446, by decide +kernel, ⟨by decide +kernel, by decide +kernel⟩, by decide, fun h => by cases h⟩
theorem lm_23 : ll_M ll_mN ll_mC ll_mL ll_mR ll_mI 23 := by
  unfold ll_M
  rw [mN_23, mC_23, mL_23, mR_23, mI_23]
  exact ⟨tb_998, tb_446, by decide +kernel, ⟨by decide +kernel, by decide +kernel⟩, by decide, fun h => by cases h⟩
theorem lm_24 : ll_M ll_mN ll_mC ll_mL ll_mR ll_mI 24 := by
  unfold ll_M
  rw [mN_24, mC_24, mL_24, mR_24, mI_24]
  exact ⟨tb_999, tb_446, by decide +kernel, ⟨by decide +kernel, by decide +kernel⟩, by decide, fun h => by cases h⟩
theorem lm_25 : ll_M ll_mN ll_mC ll_mL ll_mR ll_mI 25 := by
  unfold ll_M
  rw [mN_25, mC_25, mL_25, mR_25, mI_25]
  exact ⟨tb_1000, tb_446, by decide +kernel, ⟨by decide +kernel, by decide +kernel⟩, by decide, fun h => by cases h⟩
theorem lm_26 : ll_M ll_mN ll_mC ll_mL ll_mR ll_mI 26 := by
  unfold ll_M
  rw [mN_26, mC_26, mL_26, mR_26, mI_26]
  exact ⟨tb_1001, tb_446, by decide +kernel, ⟨by decide +kernel, by decide +kernel⟩, by decide, fun h => by cases h⟩
theorem lm_27 : ll_M ll_mN ll_mC ll_mL ll_mR ll_mI 27 := by
  unfold ll_M
  rw [mN_27, mC_27, mL_27, mR_27, mI_27]
  exact ⟨tb_1002, tb_446, by decide +kernel, ⟨by decide +kernel, by decide +kernel⟩, by decide, fun h => by cases h⟩
theorem lm_28 : ll_M ll_mN ll_mC ll_mL ll_mR ll_mI 28 := by
  unfold ll_M
  rw [mN_28, mC_28, mL_28, mR_28, mI_28]
  exact ⟨tb_1003, tb_446, by decide +kernel, ⟨by decide +kernel, by decide +kernel⟩, by decide, fun h => by cases h⟩
theorem lm_29 : ll_M ll_mN ll_mC ll_mL ll_mR ll_mI 29 := by
  unfold ll_M
  rw [mN_29, mC_29, mL_29, mR_29, mI_29]
  exact ⟨tb_1004, tb_481, by decide +kernel, ⟨by decide +kernel, by decide +kernel⟩, by decide, fun _ => rfl⟩
theorem lm_30 : ll_M ll_mN ll_mC ll_mL ll_mR ll_mI 30 := by
  unfold ll_M
  rw [mN_30, mC_30, mL_30, mR_30, mI_30]
  exact ⟨tb_1005, tb_481, by decide +kernel, ⟨by decide +kernel, by decide +kernel⟩, by decide, fun h => by cases h⟩
theorem lm_31 : ll_M ll_mN ll_mC ll_mL ll_mR ll_mI 31 := by
  unfold ll_M
  rw [mN_31, mC_31, mL_31, mR_31, mI_31]
  exact ⟨tb_1006, tb_463, by decide +kernel, ⟨by decide +kernel, by decide +kernel⟩, by decide, fun _ => rfl⟩
theorem lm_32 : ll_M ll_mN ll_mC ll_mL ll_mR ll_mI 32 := by
  unfold ll_M
  rw [mN_32, mC_32, mL_32, mR_32, mI_32]
  exact ⟨tb_1007, tb_463, by decide +kernel, ⟨by decide +kernel, by decide +kernel⟩, by decide, fun h => by cases h⟩
theorem lm_33 : ll_M ll_mN ll_mC ll_mL ll_mR ll_mI 33 := by
  unfold ll_M
  rw [mN_33, mC_33, mL_33, mR_33, mI_33]
  exact ⟨tb_1008, tb_463, by decide +kernel, ⟨by decide +kernel, by decide +kernel⟩, by decide, fun h => by cases h⟩
theorem lm_34 : ll_M ll_mN ll_mC ll_mL ll_mR ll_mI 34 := by
  unfold ll_M
  rw [mN_34, mC_34, mL_34, mR_34, mI_34]
  exact ⟨tb_1009, tb_463, by decide +kernel, ⟨by decide +kernel, by decide +kernel⟩, by decide, fun h => by cases h⟩
theorem lm_35 : ll_M ll_mN ll_mC ll_mL ll_mR ll_mI 35 := by
  unfold ll_M
  rw [mN_35, mC_35, mL_35, mR_35, mI_35]
  exact ⟨tb_1010, tb_463, by decide +kernel, ⟨by decide +kernel, by decide +kernel⟩, by decide, fun h => by cases h⟩
theorem lm_36 : ll_M ll_mN ll_mC ll_mL ll_mR ll_mI 36 := by
  unfold ll_M
  rw [mN_36, mC_36, mL_36, mR_36, mI_36]
  exact ⟨tb_1011, tb_463, by decide +kernel, ⟨by decide +kernel, by decide +kernel⟩, by decide, fun h => by cases h⟩
theorem lm_37 : ll_M ll_mN ll_mC ll_mL ll_mR ll_mI 37 := by
  unfold ll_M
  rw [mN_37, mC_37, mL_37, mR_37, mI_37]
  exact ⟨tb_1012, tb_463, by decide +kernel, ⟨by decide +kernel, by decide +kernel⟩, by decide, fun h => by cases h⟩
theorem lm_38 : ll_M ll_mN ll_mC ll_mL ll_mR ll_mI 38 := by
  unfold ll_M
  rw [mN_38, mC_38, mL_38, mR_38, mI_38]
  exact ⟨tb_1013, tb_149, by decide +kernel, ⟨by decide +kernel, by decide +kernel⟩, by decide, fun _ => rfl⟩
theorem lm_39 : ll_M ll_mN ll_mC ll_mL ll_mR ll_mI 39 := by
  unfold ll_M
  rw [mN_39, mC_39, mL_39, mR_39, mI_39]
  exact ⟨tb_1014, tb_149, by decide +kernel, ⟨by decide +kernel, by decide +kernel⟩, by decide, fun h => by cases h⟩
theorem lm_40 : ll_M ll_mN ll_mC ll_mL ll_mR ll_mI 40 := by
  unfold ll_M
  rw [mN_40, mC_40, mL_40, mR_40, mI_40]
  exact ⟨tb_1015, tb_149, by decide +kernel, ⟨by decide +kernel, by decide +kernel⟩, by decide, fun h => by cases h⟩
theorem lm_41 : ll_M ll_mN ll_mC ll_mL ll_mR ll_mI 41 := by
  unfold ll_M
  rw [mN_41, mC_41, mL_41, mR_41, mI_41]
  exact ⟨tb_1016, tb_149, by decide +kernel, ⟨by decide +kernel, by decide +kernel⟩, by decide, fun h => by cases h⟩
theorem lm_42 : ll_M ll_mN ll_mC ll_mL ll_mR ll_mI 42 := by
  unfold ll_M
  rw [mN_42, mC_42, mL_42, mR_42, mI_42]
  exact ⟨tb_1017, tb_149, by decide +kernel, ⟨by decide +kernel, by decide +kernel⟩, by decide, fun h => by cases h⟩
theorem lm_43 : ll_M ll_mN ll_mC ll_mL ll_mR ll_mI 43 := by
  unfold ll_M
  rw [mN_43, mC_43, mL_43, mR_43, mI_43]
  exact ⟨tb_1018, tb_149, by decide +kernel, ⟨by decide +kernel, by decide +kernel⟩, by decide, fun h => by cases h⟩
theorem lm_44 : ll_M ll_mN ll_mC ll_mL ll_mR ll_mI 44 := by
  unfold ll_M
  rw [mN_44, mC_44, mL_44, mR_44, mI_44]
  exact ⟨tb_1019, tb_149, by decide +kernel, ⟨by decide +kernel, by decide +kernel⟩, by decide, fun h => by cases h⟩
theorem lm_45 : ll_M ll_mN ll_mC ll_mL ll_mR ll_mI 45 := by
  unfold ll_M
  rw [mN_45, mC_45, mL_45, mR_45, mI_45]
  exact ⟨tb_1020, tb_149, by decide +kernel, ⟨by decide +kernel, by decide +kernel⟩, by decide, fun h => by cases h⟩
theorem lm_46 : ll_M ll_mN ll_mC ll_mL ll_mR ll_mI 46 := by
  unfold ll_M
  rw [mN_46, mC_46, mL_46, mR_46, mI_46]
  exact ⟨tb_1021, tb_149, by decide +kernel, ⟨by decide +kernel, by decide +kernel⟩, by decide, fun h => by cases h⟩
theorem lm_47 : ll_M ll_mN ll_mC ll_mL ll_mR ll_mI 47 := by
  unfold ll_M
  rw [mN_47, mC_47, mL_47, mR_47, mI_47]
  exact ⟨tb_1022, tb_149, by decide +kernel, ⟨by decide +kernel, by decide +kernel⟩, by decide, fun h => by cases h⟩
theorem lm_48 : ll_M ll_mN ll_mC ll_mL ll_mR ll_mI 48 := by
  unfold ll_M
  rw [mN_48, mC_48, mL_48, mR_48, mI_48]
  exact ⟨tb_1023, tb_149, by decide +kernel, ⟨by decide +kernel, by decide +kernel⟩, by decide, fun h => by cases h⟩
theorem lm_49 : ll_M ll_mN ll_mC ll_mL ll_mR ll_mI 49 := by
  unfold ll_M
  rw [mN_49, mC_49, mL_49, mR_49, mI_49]
  exact ⟨tb_1024, tb_149, by decide +kernel, ⟨by decide +kernel, by decide +kernel⟩, by decide, fun h => by cases h⟩
theorem lm_50 : ll_M ll_mN ll_mC ll_mL ll_mR ll_mI 50 := by
  unfold ll_M
  rw [mN_50, mC_50, mL_50, mR_50, mI_50]
  exact ⟨tb_1025, tb_149, by decide +kernel, ⟨by decide +kernel, by decide +kernel⟩, by decide, fun h => by cases h⟩
theorem lm_51 : ll_M ll_mN ll_mC ll_mL ll_mR ll_mI 51 := by
  unfold ll_M
  rw [mN_51, mC_51, mL_51, mR_51, mI_51]
  exact ⟨tb_1026, tb_149, by decide +kernel, ⟨by decide +kernel, by decide +kernel⟩, by decide, fun h => by cases h⟩
theorem lm_52 : ll_M ll_mN ll_mC ll_mL ll_mR ll_mI 52 := by
  unfold ll_M
  rw [mN_52, mC_52, mL_52, mR_52, mI_52]
  exact ⟨tb_1027, tb_149, by decide +kernel, ⟨by decide +kernel, by decide +kernel⟩, by decide, fun h => by cases h⟩
theorem lm_53 : ll_M ll_mN ll_mC ll_mL ll_mR ll_mI 53 := by
  unfold ll_M
  rw [mN_53, mC_53, mL_53, mR_53, mI_53]
  exact ⟨tb_1028, tb_149, by decide +kernel, ⟨by decide +kernel, by decide +kernel⟩, by decide, fun h => by cases h⟩
theorem lm_54 : ll_M ll_mN ll_mC ll_mL ll_mR ll_mI 54 := by
  unfold ll_M
  rw [mN_54, mC_54, mL_54, mR_54, mI_54]
  exact ⟨tb_1029, tb_149, by decide +kernel, ⟨by decide +kernel, by decide +kernel⟩, by decide, fun h => by cases h⟩
theorem lm_55 : ll_M ll_mN ll_mC ll_mL ll_mR ll_mI 55 := by
  unfold ll_M
  rw [mN_55, mC_55, mL_55, mR_55, mI_55]
  exact ⟨tb_1030, tb_149, by decide +kernel, ⟨by decide +kernel, by decide +kernel⟩, by decide, fun h => by cases h⟩
theorem lm_56 : ll_M ll_mN ll_mC ll_mL ll_mR ll_mI 56 := by
  unfold ll_M
  rw [mN_56, mC_56, mL_56, mR_56, mI_56]
  exact ⟨tb_1031, tb_149, by decide +kernel, ⟨by decide +kernel, by decide +kernel⟩, by decide, fun h => by cases h⟩
theorem lm_57 : ll_M ll_mN ll_mC ll_mL ll_mR ll_mI 57 := by
  unfold ll_M
  rw [mN_57, mC_57, mL_57, mR_57, mI_57]
  exact ⟨tb_1032, tb_149, by decide +kernel, ⟨by decide +kernel, by decide +kernel⟩, by decide, fun h => by cases h⟩
theorem lm_58 : ll_M ll_mN ll_mC ll_mL ll_mR ll_mI 58 := by
  unfold ll_M
  rw [mN_58, mC_58, mL_58, mR_58, mI_58]
  exact ⟨tb_1033, tb_149, by decide +kernel, ⟨by decide +kernel, by decide +kernel⟩, by decide, fun h => by cases h⟩
theorem lm_59 : ll_M ll_mN ll_mC ll_mL ll_mR ll_mI 59 := by
  unfold ll_M
  rw [mN_59, mC_59, mL_59, mR_59, mI_59]
  exact ⟨tb_1034, tb_452, by decide +kernel, ⟨by decide +kernel, by decide +kernel⟩, by decide, fun _ => rfl⟩
theorem lm_60 : ll_M ll_mN ll_mC ll_mL ll_mR ll_mI 60 := by
  unfold ll_M
  rw [mN_60, mC_60, mL_60, mR_60, mI_60]
  exact ⟨tb_1035, tb_452, by decide +kernel, ⟨by decide +kernel, by decide +kernel⟩, by decide, fun h => by cases h⟩
theorem lm_61 : ll_M ll_mN ll_mC ll_mL ll_mR ll_mI 61 := by
  unfold ll_M
  rw [mN_61, mC_61, mL_61, mR_61, mI_61]
  exact ⟨tb_1036, tb_452, by decide +kernel, ⟨by decide +kernel, by decide +kernel⟩, by decide, fun h => by cases h⟩
theorem lm_62 : ll_M ll_mN ll_mC ll_mL ll_mR ll_mI 62 := by
  unfold ll_M
  rw [mN_62, mC_62, mL_62, mR_62, mI_62]
  exact ⟨tb_1037, tb_452, by decide +kernel, ⟨by decide +kernel, by decide +kernel⟩, by decide, fun h => by cases h⟩
theorem lm_63 : ll_M ll_mN ll_mC ll_mL ll_mR ll_mI 63 := by
  unfold ll_M
  rw [mN_63, mC_63, mL_63, mR_63, mI_63]
  exact ⟨tb_1038, tb_452, by decide +kernel, ⟨by decide +kernel, by decide +kernel⟩, by decide, fun h => by cases h⟩
theorem lm_64 : ll_M ll_mN ll_mC ll_mL ll_mR ll_mI 64 := by
  unfold ll_M
  rw [mN_64, mC_64, mL_64, mR_64, mI_64]
  exact ⟨tb_1039, tb_452, by decide +kernel, ⟨by decide +kernel, by decide +kernel⟩, by decide, fun h => by cases h⟩
theorem lm_65 : ll_M ll_mN ll_mC ll_mL ll_mR ll_mI 65 := by
  unfold ll_M
  rw [mN_65, mC_65, mL_65, mR_65, mI_65]
  exact ⟨tb_1040, tb_452, by decide +kernel, ⟨by decide +kernel, by decide +kernel⟩, by decide, fun h => by cases h⟩
theorem lm_66 : ll_M ll_mN ll_mC ll_mL ll_mR ll_mI 66 := by
  unfold ll_M
  rw [mN_66, mC_66, mL_66, mR_66, mI_66]
  exact ⟨tb_1041, tb_452, by decide +kernel, ⟨by decide +kernel, by decide +kernel⟩, by decide, fun h => by cases h⟩
theorem lm_67 : ll_M ll_mN ll_mC ll_mL ll_mR ll_mI 67 := by
  unfold ll_M
  rw [mN_67, mC_67, mL_67, mR_67, mI_67]
  exact ⟨tb_1042, tb_452, by decide +kernel, ⟨by decide +kernel, by decide +kernel⟩, by decide, fun h => by cases h⟩
theorem lm_68 : ll_M ll_mN ll_mC ll_mL ll_mR ll_mI 68 := by
  unfold ll_M
  rw [mN_68, mC_68, mL_68, mR_68, mI_68]
  exact ⟨tb_1043, tb_452, by decide +kernel, ⟨by decide +kernel, by decide +kernel⟩, by decide, fun h => by cases h⟩
theorem lm_69 : ll_M ll_mN ll_mC ll_mL ll_mR ll_mI 69 := by
  unfold ll_M
  rw [mN_69, mC_69, mL_69, mR_69, mI_69]
  exact ⟨tb_1044, tb_452, by decide +kernel, ⟨by decide +kernel, by decide +kernel⟩, by decide, fun h => by cases h⟩
theorem lm_70 : ll_M ll_mN ll_mC ll_mL ll_mR ll_mI 70 := by
  unfold ll_M
  rw [mN_70, mC_70, mL_70, mR_70, mI_70]
  exact ⟨tb_1045, tb_70, by decide +kernel, ⟨by decide +kernel, by decide +kernel⟩, by decide, fun _ => rfl⟩
theorem lm_71 : ll_M ll_mN ll_mC ll_mL ll_mR ll_mI 71 := by
  unfold ll_M
  rw [mN_71, mC_71, mL_71, mR_71, mI_71]
  exact ⟨tb_1046, tb_70, by decide +kernel, ⟨by decide +kernel, by decide +kernel⟩, by decide, fun h => by cases h⟩
theorem lm_72 : ll_M ll_mN ll_mC ll_mL ll_mR ll_mI 72 := by
  unfold ll_M
  rw [mN_72, mC_72, mL_72, mR_72, mI_72]
  exact ⟨tb_1047, tb_70, by decide +kernel, ⟨by decide +kernel, by decide +kernel⟩, by decide, fun h => by cases h⟩
theorem lm_73 : ll_M ll_mN ll_mC ll_mL ll_mR ll_mI 73 := by
  unfold ll_M
  rw [mN_73, mC_73, mL_73, mR_73, mI_73]
  exact ⟨tb_1048, tb_70, by decide +kernel, ⟨by decide +kernel, by decide +kernel⟩, by decide, fun h => by cases h⟩
theorem lm_74 : ll_M ll_mN ll_mC ll_mL ll_mR ll_mI 74 := by
  unfold ll_M
  rw [mN_74, mC_74, mL_74, mR_74, mI_74]
  exact ⟨tb_1049, tb_70, by decide +kernel, ⟨by decide +kernel, by decide +kernel⟩, by decide, fun h => by cases h⟩
theorem lm_75 : ll_M ll_mN ll_mC ll_mL ll_mR ll_mI 75 := by
  unfold ll_M
  rw [mN_75, mC_75, mL_75, mR_75, mI_75]
  exact ⟨tb_1050, tb_70, by decide +kernel, ⟨by decide +kernel, by decide +kernel⟩, by decide, fun h => by cases h⟩
theorem lm_76 : ll_M ll_mN ll_mC ll_mL ll_mR ll_mI 76 := by
  unfold ll_M
  rw [mN_76, mC_76, mL_76, mR_76, mI_76]
  exact ⟨tb_1051, tb_70, by decide +kernel, ⟨by decide +kernel, by decide +kernel⟩, by decide, fun h => by cases h⟩
theorem lm_77 : ll_M ll_mN ll_mC ll_mL ll_mR ll_mI 77 := by
  unfold ll_M
  rw [mN_77, mC_77, mL_77, mR_77, mI_77]
  exact ⟨tb_1052, tb_70, by decide +kernel, ⟨by decide +kernel, by decide +kernel⟩, by decide, fun h => by cases h⟩
theorem lm_78 : ll_M ll_mN ll_mC ll_mL ll_mR ll_mI 78 := by
  unfold ll_M
  rw [mN_78, mC_78, mL_78, mR_78, mI_78]
  exact ⟨tb_1053, tb_70, by decide +kernel, ⟨by decide +kernel, by decide +kernel⟩, by decide, fun h => by cases h⟩
theorem lm_79 : ll_M ll_mN ll_mC ll_mL ll_mR ll_mI 79 := by
  unfold ll_M
  rw [mN_79, mC_79, mL_79, mR_79, mI_79]
  exact ⟨tb_1054, tb_438, by decide +kernel, ⟨by decide +kernel, by decide +kernel⟩, by decide, fun _ => rfl⟩
theorem lm_80 : ll_M ll_mN ll_mC ll_mL ll_mR ll_mI 80 := by
  unfold ll_M
  rw [mN_80, mC_80, mL_80, mR_80, mI_80]
  exact ⟨tb_1055, tb_438, by decide +kernel, ⟨by decide +kernel, by decide +kernel⟩, by decide, fun h => by cases h⟩
theorem lm_81 : ll_M ll_mN ll_mC ll_mL ll_mR ll_mI 81 := by
  unfold ll_M
  rw [mN_81, mC_81, mL_81, mR_81, mI_81]
  exact ⟨tb_1056, tb_438, by decide +kernel, ⟨by decide +kernel, by decide +kernel⟩, by decide, fun h => by cases h⟩
theorem lm_82 : ll_M ll_mN ll_mC ll_mL ll_mR ll_mI 82 := by
  unfold ll_M
  rw [mN_82, mC_82, mL_82, mR_82, mI_82]
  exact ⟨tb_1057, tb_438, by decide +kernel, ⟨by decide +kernel, by decide +kernel⟩, by decide, fun h => by cases h⟩
theorem lm_83 : ll_M ll_mN ll_mC ll_mL ll_mR ll_mI 83 := by
  unfold ll_M
  rw [mN_83, mC_83, mL_83, mR_83, mI_83]
  exact ⟨tb_1058, tb_438, by decide +kernel, ⟨by decide +kernel, by decide +kernel⟩, by decide, fun h => by cases h⟩
theorem lm_84 : ll_M ll_mN ll_mC ll_mL ll_mR ll_mI 84 := by
  unfold ll_M
  rw [mN_84, mC_84, mL_84, mR_84, mI_84]
  exact ⟨tb_1059, tb_438, by decide +kernel, ⟨by decide +kernel, by decide +kernel⟩, by decide, fun h => by cases h⟩
theorem lm_85 : ll_M ll_mN ll_mC ll_mL ll_mR ll_mI 85 := by
  unfold ll_M
  rw [mN_85, mC_85, mL_85, mR_85, mI_85]
  exact ⟨tb_1060, tb_438, by decide +kernel, ⟨by decide +kernel, by decide +kernel⟩, by decide, fun h => by cases h⟩
theorem lm_86 : ll_M ll_mN ll_mC ll_mL ll_mR ll_mI 86 := by
  unfold ll_M
  rw [mN_86, mC_86, mL_86, mR_86, mI_86]
  exact ⟨tb_1061, tb_438, by decide +kernel, ⟨by decide +kernel, by decide +kernel⟩, by decide, fun h => by cases h⟩
theorem lm_87 : ll_M ll_mN ll_mC ll_mL ll_mR ll_mI 87 := by
  unfold ll_M
  rw [mN_87, mC_87, mL_87, mR_87, mI_87]
  exact ⟨tb_1062, tb_438, by decide +kernel, ⟨by decide +kernel, by decide +kernel⟩, by decide, fun h => by cases h⟩
theorem lm_88 : ll_M ll_mN ll_mC ll_mL ll_mR ll_mI 88 := by
  unfold ll_M
  rw [mN_88, mC_88, mL_88, mR_88, mI_88]
  exact ⟨tb_1063, tb_438, by decide +kernel, ⟨by decide +kernel, by decide +kernel⟩, by decide, fun h => by cases h⟩
theorem lm_89 : ll_M ll_mN ll_mC ll_mL ll_mR ll_mI 89 := by
  unfold ll_M
  rw [mN_89, mC_89, mL_89, mR_89, mI_89]
  exact ⟨tb_1064, tb_438, by decide +kernel, ⟨by decide +kernel, by decide +kernel⟩, by decide, fun h => by cases h⟩
theorem lm_90 : ll_M ll_mN ll_mC ll_mL ll_mR ll_mI 90 := by
  unfold ll_M
  rw [mN_90, mC_90, mL_90, mR_90, mI_90]
  exact ⟨tb_1065, tb_438, by decide +kernel, ⟨by decide +kernel, by decide +kernel⟩, by decide, fun h => by cases h⟩
theorem lm_91 : ll_M ll_mN ll_mC ll_mL ll_mR ll_mI 91 := by
  unfold ll_M
  rw [mN_91, mC_91, mL_91, mR_91, mI_91]
  exact ⟨tb_1066, tb_438, by decide +kernel, ⟨by decide +kernel, by decide +kernel⟩, by decide, fun h => by cases h⟩
theorem lm_92 : ll_M ll_mN ll_mC ll_mL ll_mR ll_mI 92 := by
  unfold ll_M
  rw [mN_92, mC_92, mL_92, mR_92, mI_92]
  exact ⟨tb_1067, tb_438, by decide +kernel, ⟨by decide +kernel, by decide +kernel⟩, by decide, fun h => by cases h⟩
theorem lm_93 : ll_M ll_mN ll_mC ll_mL ll_mR ll_mI 93 := by
  unfold ll_M
  rw [mN_93, mC_93, mL_93, mR_93, mI_93]
  exact ⟨tb_1068, tb_438, by decide +kernel, ⟨by decide +kernel, by decide +kernel⟩, by decide, fun h => by cases h⟩
theorem lm_94 : ll_M ll_mN ll_mC ll_mL ll_mR ll_mI 94 := by
  unfold ll_M
  rw [mN_94, mC_94, mL_94, mR_94, mI_94]
  exact ⟨tb_1069, tb_438, by decide +kernel, ⟨by decide +kernel, by decide +kernel⟩, by decide, fun h => by cases h⟩
theorem lm_95 : ll_M ll_mN ll_mC ll_mL ll_mR ll_mI 95 := by
  unfold ll_M
  rw [mN_95, mC_95, mL_95, mR_95, mI_95]
  exact ⟨tb_1070, tb_438, by decide +kernel, ⟨by decide +kernel, by decide +kernel⟩, by decide, fun h => by cases h⟩
theorem lm_96 : ll_M ll_mN ll_mC ll_mL ll_mR ll_mI 96 := by
  unfold ll_M
  rw [mN_96, mC_96, mL_96, mR_96, mI_96]
  exact ⟨tb_1071, tb_438, by decide +kernel, ⟨by decide +kernel, by decide +kernel⟩, by decide, fun h => by cases h⟩
theorem lm_97 : ll_M ll_mN ll_mC ll_mL ll_mR ll_mI 97 := by
  unfold ll_M
  rw [mN_97, mC_97, mL_97, mR_97, mI_97]
  exact ⟨tb_1072, tb_438, by decide +kernel, ⟨by decide +kernel, by decide +kernel⟩, by decide, fun h => by cases h⟩
theorem lm_98 : ll_M ll_mN ll_mC ll_mL ll_mR ll_mI 98 := by
  unfold ll_M
  rw [mN_98, mC_98, mL_98, mR_98, mI_98]
  exact ⟨tb_1073, tb_438, by decide +kernel, ⟨by decide +kernel, by decide +kernel⟩, by decide, fun h => by cases h⟩
theorem lm_99 : ll_M ll_mN ll_mC ll_mL ll_mR ll_mI 99 := by
  unfold ll_M
  rw [mN_99, mC_99, mL_99, mR_99, mI_99]
  exact ⟨tb_1074, tb_438, by decide +kernel, ⟨by decide +kernel, by decide +kernel⟩, by decide, fun h => by cases h⟩
theorem lm_100 : ll_M ll_mN ll_mC ll_mL ll_mR ll_mI 100 := by
  unfold ll_M
  rw [mN_100, mC_100, mL_100, mR_100, mI_100]
  exact ⟨tb_1075, tb_438, by decide +kernel, ⟨by decide +kernel, by decide +kernel⟩, by decide, fun h => by cases h⟩
theorem lm_101 : ll_M ll_mN ll_mC ll_mL ll_mR ll_mI 101 := by
  unfold ll_M
  rw [mN_101, mC_101, mL_101, mR_101, mI_101]
  exact ⟨tb_1076, tb_438, by decide +kernel, ⟨by decide +kernel, by decide +kernel⟩, by decide, fun h => by cases h⟩
theorem lm_102 : ll_M ll_mN ll_mC ll_mL ll_mR ll_mI 102 := by
  unfold ll_M
  rw [mN_102, mC_102, mL_102, mR_102, mI_102]
  exact ⟨tb_1077, tb_475, by decide +kernel, ⟨by decide +kernel, by decide +kernel⟩, by decide, fun _ => rfl⟩
theorem lm_103 : ll_M ll_mN ll_mC ll_mL ll_mR ll_mI 103 := by
  unfold ll_M
  rw [mN_103, mC_103, mL_103, mR_103, mI_103]
  exact ⟨tb_1078, tb_475, by decide +kernel, ⟨by decide +kernel, by decide +kernel⟩, by decide, fun h => by cases h⟩
theorem lm_104 : ll_M ll_mN ll_mC ll_mL ll_mR ll_mI 104 := by
  unfold ll_M
  rw [mN_104, mC_104, mL_104, mR_104, mI_104]
  exact ⟨tb_1079, tb_475, by decide +kernel, ⟨by decide +kernel, by decide +kernel⟩, by decide, fun h => by cases h⟩
theorem lm_105 : ll_M ll_mN ll_mC ll_mL ll_mR ll_mI 105 := by
  unfold ll_M
  rw [mN_105, mC_105, mL_105, mR_105, mI_105]
  exact ⟨tb_1080, tb_475, by decide +kernel, ⟨by decide +kernel, by decide +kernel⟩, by decide, fun h => by cases h⟩
theorem lm_106 : ll_M ll_mN ll_mC ll_mL ll_mR ll_mI 106 := by
  unfold ll_M
  rw [mN_106, mC_106, mL_106, mR_106, mI_106]
  exact ⟨tb_1081, tb_475, by decide +kernel, ⟨by decide +kernel, by decide +kernel⟩, by decide, fun h => by cases h⟩
theorem lm_107 : ll_M ll_mN ll_mC ll_mL ll_mR ll_mI 107 := by
  unfold ll_M
  rw [mN_107, mC_107, mL_107, mR_107, mI_107]
  exact ⟨tb_1082, tb_475, by decide +kernel, ⟨by decide +kernel, by decide +kernel⟩, by decide, fun h => by cases h⟩
theorem lm_108 : ll_M ll_mN ll_mC ll_mL ll_mR ll_mI 108 := by
  unfold ll_M
  rw [mN_108, mC_108, mL_108, mR_108, mI_108]
  exact ⟨tb_1083, tb_475, by decide +kernel, ⟨by decide +kernel, by decide +kernel⟩, by decide, fun h => by cases h⟩
theorem lm_109 : ll_M ll_mN ll_mC ll_mL ll_mR ll_mI 109 := by
  unfold ll_M
  rw [mN_109, mC_109, mL_109, mR_109, mI_109]
  exact ⟨tb_1084, tb_475, by decide +kernel, ⟨by decide +kernel, by decide +kernel⟩, by decide, fun h => by cases h⟩
theorem lm_110 : ll_M ll_mN ll_mC ll_mL ll_mR ll_mI 110 := by
  unfold ll_M
  rw [mN_110, mC_110, mL_110, mR_110, mI_110]
  exact ⟨tb_1085, tb_475, by decide +kernel, ⟨by decide +kernel, by decide +kernel⟩, by decide, fun h => by cases h⟩
theorem lm_111 : ll_M ll_mN ll_mC ll_mL ll_mR ll_mI 111 := by
  unfold ll_M
  rw [mN_111, mC_111, mL_111, mR_111, mI_111]
  exact ⟨tb_1086, tb_475, by decide +kernel, ⟨by decide +kernel, by decide +kernel⟩, by decide, fun h => by cases h⟩
theorem lm_112 : ll_M ll_mN ll_mC ll_mL ll_mR ll_mI 112 := by
  unfold ll_M
  rw [mN_112, mC_112, mL_112, mR_112, mI_112]
  exact ⟨tb_1087, tb_475, by decide +kernel, ⟨by decide +kernel, by decide +kernel⟩, by decide, fun h => by cases h⟩
theorem lm_113 : ll_M ll_mN ll_mC ll_mL ll_mR ll_mI 113 := by
  unfold ll_M
  rw [mN_113, mC_113, mL_113, mR_113, mI_113]
  exact ⟨tb_1088, tb_822, by decide +kernel, ⟨by decide +kernel, by decide +kernel⟩, by decide, fun _ => rfl⟩
theorem lm_114 : ll_M ll_mN ll_mC ll_mL ll_mR ll_mI 114 := by
  unfold ll_M
  rw [mN_114, mC_114, mL_114, mR_114, mI_114]
  exact ⟨tb_1089, tb_822, by decide +kernel, ⟨by decide +kernel, by decide +kernel⟩, by decide, fun h => by cases h⟩
theorem lm_115 : ll_M ll_mN ll_mC ll_mL ll_mR ll_mI 115 := by
  unfold ll_M
  rw [mN_115, mC_115, mL_115, mR_115, mI_115]
  exact ⟨tb_1090, tb_822, by decide +kernel, ⟨by decide +kernel, by decide +kernel⟩, by decide, fun h => by cases h⟩
theorem lm_116 : ll_M ll_mN ll_mC ll_mL ll_mR ll_mI 116 := by
  unfold ll_M
  rw [mN_116, mC_116, mL_116, mR_116, mI_116]
  exact ⟨tb_1091, tb_822, by decide +kernel, ⟨by decide +kernel, by decide +kernel⟩, by decide, fun h => by cases h⟩
theorem lm_117 : ll_M ll_mN ll_mC ll_mL ll_mR ll_mI 117 := by
  unfold ll_M
  rw [mN_117, mC_117, mL_117, mR_117, mI_117]
  exact ⟨tb_1092, tb_822, by decide +kernel, ⟨by decide +kernel, by decide +kernel⟩, by decide, fun h => by cases h⟩
theorem lm_118 : ll_M ll_mN ll_mC ll_mL ll_mR ll_mI 118 := by
  unfold ll_M
  rw [mN_118, mC_118, mL_118, mR_118, mI_118]
  exact ⟨tb_1093, tb_822, by decide +kernel, ⟨by decide +kernel, by decide +kernel⟩, by decide, fun h => by cases h⟩
theorem lm_119 : ll_M ll_mN ll_mC ll_mL ll_mR ll_mI 119 := by
  unfold ll_M
  rw [mN_119, mC_119, mL_119, mR_119, mI_119]
  exact ⟨tb_1094, tb_822, by decide +kernel, ⟨by decide +kernel, by decide +kernel⟩, by decide, fun h => by cases h⟩
theorem lm_120 : ll_M ll_mN ll_mC ll_mL ll_mR ll_mI 120 := by
  unfold ll_M
  rw [mN_120, mC_120, mL_120, mR_120, mI_120]
  exact ⟨tb_1095, tb_822, by decide +kernel, ⟨by decide +kernel, by decide +kernel⟩, by decide, fun h => by cases h⟩
theorem lm_121 : ll_M ll_mN ll_mC ll_mL ll_mR ll_mI 121 := by
  unfold ll_M
  rw [mN_121, mC_121, mL_121, mR_121, mI_121]
  exact ⟨tb_1096, tb_822, by decide +kernel, ⟨by decide +kernel, by decide +kernel⟩, by decide, fun h => by cases h⟩
theorem lm_122 : ll_M ll_mN ll_mC ll_mL ll_mR ll_mI 122 := by
  unfold ll_M
  rw [mN_122, mC_122, mL_122, mR_122, mI_122]
  exact ⟨tb_1097, tb_822, by decide +kernel, ⟨by decide +kernel, by decide +kernel⟩, by decide, fun h => by cases h⟩
theorem lm_123 : ll_M ll_mN ll_mC ll_mL ll_mR ll_mI 123 := by
  unfold ll_M
  rw [mN_123, mC_123, mL_123, mR_123, mI_123]
  exact ⟨tb_1098, tb_822, by decide +kernel, ⟨by decide +kernel, by decide +kernel⟩, by decide, fun h => by cases h⟩
theorem lm_124 : ll_M ll_mN ll_mC ll_mL ll_mR ll_mI 124 := by
  unfold ll_M
  rw [mN_124, mC_124, mL_124, mR_124, mI_124]
  exact ⟨tb_1099, tb_822, by decide +kernel, ⟨by decide +kernel, by decide +kernel⟩, by decide, fun h => by cases h⟩
theorem lm_125 : ll_M ll_mN ll_mC ll_mL ll_mR ll_mI 125 := by
  unfold ll_M
  rw [mN_125, mC_125, mL_125, mR_125, mI_125]
  exact ⟨tb_1100, tb_822, by decide +kernel, ⟨by decide +kernel, by decide +kernel⟩, by decide, fun h => by cases h⟩
theorem lm_126 : ll_M ll_mN ll_mC ll_mL ll_mR ll_mI 126 := by
  unfold ll_M
  rw [mN_126, mC_126, mL_126, mR_126, mI_126]
  exact ⟨tb_1101, tb_822, by decide +kernel, ⟨by decide +kernel, by decide +kernel⟩, by decide, fun h => by cases h⟩
theorem lm_127 : ll_M ll_mN ll_mC ll_mL ll_mR ll_mI 127 := by
  unfold ll_M
  rw [mN_127, mC_127, mL_127, mR_127, mI_127]
  exact ⟨tb_1102, tb_822, by decide +kernel, ⟨by decide +kernel, by decide +kernel⟩, by decide, fun h => by cases h⟩
theorem lm_128 : ll_M ll_mN ll_mC ll_mL ll_mR ll_mI 128 := by
  unfold ll_M
  rw [mN_128, mC_128, mL_128, mR_128, mI_128]
  exact ⟨tb_1103, tb_822, by decide +kernel, ⟨by decide +kernel, by decide +kernel⟩, by decide, fun h => by cases h⟩
theorem lm_129 : ll_M ll_mN ll_mC ll_mL ll_mR ll_mI 129 := by
  unfold ll_M
  rw [mN_129, mC_129, mL_129, mR_129, mI_129]
  exact ⟨tb_1104, tb_822, by decide +kernel, ⟨by decide +kernel, by decide +kernel⟩, by decide, fun h => by cases h⟩
theorem lm_130 : ll_M ll_mN ll_mC ll_mL ll_mR ll_mI 130 := by
  unfold ll_M
  rw [mN_130, mC_130, mL_130, mR_130, mI_130]
  exact ⟨tb_1105, tb_822, by decide +kernel, ⟨by decide +kernel, by decide +kernel⟩, by decide, fun h => by cases h⟩
theorem lm_131 : ll_M ll_mN ll_mC ll_mL ll_mR ll_mI 131 := by
  unfold ll_M
  rw [mN_131, mC_131, mL_131, mR_131, mI_131]
  exact ⟨tb_1106, tb_822, by decide +kernel, ⟨by decide +kernel, by decide +kernel⟩, by decide, fun h => by cases h⟩
theorem lm_132 : ll_M ll_mN ll_mC ll_mL ll_mR ll_mI 132 := by
  unfold ll_M
  rw [mN_132, mC_132, mL_132, mR_132, mI_132]
  exact ⟨tb_1107, tb_822, by decide +kernel, ⟨by decide +kernel, by decide +kernel⟩, by decide, fun h => by cases h⟩
theorem lm_133 : ll_M ll_mN ll_mC ll_mL ll_mR ll_mI 133 := by
  unfold ll_M
  rw [mN_133, mC_133, mL_133, mR_133, mI_133]
  exact ⟨tb_1108, tb_822, by decide +kernel, ⟨by decide +kernel, by decide +kernel⟩, by decide, fun h => by cases h⟩
theorem lm_134 : ll_M ll_mN ll_mC ll_mL ll_mR ll_mI 134 := by
  unfold ll_M
  rw [mN_134, mC_134, mL_134, mR_134, mI_134]
  exact ⟨tb_1109, tb_822, by decide +kernel, ⟨by decide +kernel, by decide +kernel⟩, by decide, fun h => by cases h⟩
theorem lm_135 : ll_M ll_mN ll_mC ll_mL ll_mR ll_mI 135 := by
  unfold ll_M
  rw [mN_135, mC_135, mL_135, mR_135, mI_135]
  exact ⟨tb_1110, tb_822, by decide +kernel, ⟨by decide +kernel, by decide +kernel⟩, by decide, fun h => by cases h⟩
theorem lm_136 : ll_M ll_mN ll_mC ll_mL ll_mR ll_mI 136 := by
  unfold ll_M
  rw [mN_136, mC_136, mL_136, mR_136, mI_136]
  exact ⟨tb_1111, tb_822, by decide +kernel, ⟨by decide +kernel, by decide +kernel⟩, by decide, fun h => by cases h⟩
theorem lm_137 : ll_M ll_mN ll_mC ll_mL ll_mR ll_mI 137 := by
  unfold ll_M
  rw [mN_137, mC_137, mL_137, mR_137, mI_137]
  exact ⟨tb_1112, tb_822, by decide +kernel, ⟨by decide +kernel, by decide +kernel⟩, by decide, fun h => by cases h⟩
theorem lm_138 : ll_M ll_mN ll_mC ll_mL ll_mR ll_mI 138 := by
  unfold ll_M
  rw [mN_138, mC_138, mL_138, mR_138, mI_138]
  exact ⟨tb_1113, tb_822, by decide +kernel, ⟨by decide +kernel, by decide +kernel⟩, by decide, fun h => by cases h⟩
theorem lm_139 : ll_M ll_mN ll_mC ll_mL ll_mR ll_mI 139 := by
  unfold ll_M
  rw [mN_139, mC_139, mL_139, mR_139, mI_139]
  exact ⟨tb_1114, tb_822, by decide +kernel, ⟨by decide +kernel, by decide +kernel⟩, by decide, fun h => by cases h⟩
theorem lm_140 : ll_M ll_mN ll_mC ll_mL ll_mR ll_mI 140 := by
  unfold ll_M
  rw [mN_140, mC_140, mL_140, mR_140, mI_140]
  exact ⟨tb_1115, tb_822, by decide +kernel, ⟨by decide +kernel, by decide +kernel⟩, by decide, fun h => by cases h⟩
theorem lm_141 : ll_M ll_mN ll_mC ll_mL ll_mR ll_mI 141 := by
  unfold ll_M
  rw [mN_141, mC_141, mL_141, mR_141, mI_141]
  exact ⟨tb_1116, tb_822, by decide +kernel, ⟨by decide +kernel, by decide +kernel⟩, by decide, fun h => by cases h⟩
theorem lm_142 : ll_M ll_mN ll_mC ll_mL ll_mR ll_mI 142 := by
  unfold ll_M
  rw [mN_142, mC_142, mL_142, mR_142, mI_142]
  exact ⟨tb_1117, tb_822, by decide +kernel, ⟨by decide +kernel, by decide +kernel⟩, by decide, fun h => by cases h⟩
theorem lm_143 : ll_M ll_mN ll_mC ll_mL ll_mR ll_mI 143 := by
  unfold ll_M
  rw [mN_143, mC_143, mL_143, mR_143, mI_143]
  exact ⟨tb_1118, tb_822, by decide +kernel, ⟨by decide +kernel, by decide +kernel⟩, by decide, fun h => by cases h⟩
theorem lm_144 : ll_M ll_mN ll_mC ll_mL ll_mR ll_mI 144 := by
  unfold ll_M
  rw [mN_144, mC_144, mL_144, mR_144, mI_144]
  exact ⟨tb_1119, tb_822, by decide +kernel, ⟨by decide +kernel, by decide +kernel⟩, by decide, fun h => by cases h⟩
theorem lm_145 : ll_M ll_mN ll_mC ll_mL ll_mR ll_mI 145 := by
  unfold ll_M
  rw [mN_145, mC_145, mL_145, mR_145, mI_145]
  exact ⟨tb_1120, tb_822, by decide +kernel, ⟨by decide +kernel, by decide +kernel⟩, by decide, fun h => by cases h⟩
theorem lm_146 : ll_M ll_mN ll_mC ll_mL ll_mR ll_mI 146 := by
  unfold ll_M
  rw [mN_146, mC_146, mL_146, mR_146, mI_146]
  exact ⟨tb_1121, tb_822, by decide +kernel, ⟨by decide +kernel, by decide +kernel⟩, by decide, fun h => by cases h⟩
theorem lm_147 : ll_M ll_mN ll_mC ll_mL ll_mR ll_mI 147 := by
  unfold ll_M
  rw [mN_147, mC_147, mL_147, mR_147, mI_147]
  exact ⟨tb_1122, tb_822, by decide +kernel, ⟨by decide +kernel, by decide +kernel⟩, by decide, fun h => by cases h⟩
theorem lm_148 : ll_M ll_mN ll_mC ll_mL ll_mR ll_mI 148 := by
  unfold ll_M
  rw [mN_148, mC_148, mL_148, mR_148, mI_148]
  exact ⟨tb_1123, tb_822, by decide +kernel, ⟨by decide +kernel, by decide +kernel⟩, by decide, fun h => by cases h⟩
theorem lm_149 : ll_M ll_mN ll_mC ll_mL ll_mR ll_mI 149 := by
  unfold ll_M
  rw [mN_149, mC_149, mL_149, mR_149, mI_149]
  exact ⟨tb_1124, tb_827, by decide +kernel, ⟨by decide +kernel, by decide +kernel⟩, by decide, fun _ => rfl⟩
theorem lm_150 : ll_M ll_mN ll_mC ll_mL ll_mR ll_mI 150 := by
  unfold ll_M
  rw [mN_150, mC_150, mL_150, mR_150, mI_150]
  exact ⟨tb_1125, tb_827, by decide +kernel, ⟨by decide +kernel, by decide +kernel⟩, by decide, fun h => by cases h⟩
theorem lm_151 : ll_M ll_mN ll_mC ll_mL ll_mR ll_mI 151 := by
  unfold ll_M
  rw [mN_151, mC_151, mL_151, mR_151, mI_151]
  exact ⟨tb_1126, tb_827, by decide +kernel, ⟨by decide +kernel, by decide +kernel⟩, by decide, fun h => by cases h⟩
theorem lm_152 : ll_M ll_mN ll_mC ll_mL ll_mR ll_mI 152 := by
  unfold ll_M
  rw [mN_152, mC_152, mL_152, mR_152, mI_152]
  exact ⟨tb_1127, tb_827, by decide +kernel, ⟨by decide +kernel, by decide +kernel⟩, by decide, fun h => by cases h⟩
theorem lm_153 : ll_M ll_mN ll_mC ll_mL ll_mR ll_mI 153 := by
  unfold ll_M
  rw [mN_153, mC_153, mL_153, mR_153, mI_153]
  exact ⟨tb_1128, tb_827, by decide +kernel, ⟨by decide +kernel, by decide +kernel⟩, by decide, fun h => by cases h⟩
theorem lm_154 : ll_M ll_mN ll_mC ll_mL ll_mR ll_mI 154 := by
  unfold ll_M
  rw [mN_154, mC_154, mL_154, mR_154, mI_154]
  exact ⟨tb_1129, tb_827, by decide +kernel, ⟨by decide +kernel, by decide +kernel⟩, by decide, fun h => by cases h⟩
theorem lm_155 : ll_M ll_mN ll_mC ll_mL ll_mR ll_mI 155 := by
  unfold ll_M
  rw [mN_155, mC_155, mL_155, mR_155, mI_155]
  exact ⟨tb_1130, tb_827, by decide +kernel, ⟨by decide +kernel, by decide +kernel⟩, by decide, fun h => by cases h⟩
theorem lm_156 : ll_M ll_mN ll_mC ll_mL ll_mR ll_mI 156 := by
  unfold ll_M
  rw [mN_156, mC_156, mL_156, mR_156, mI_156]
  exact ⟨tb_1131, tb_827, by decide +kernel, ⟨by decide +kernel, by decide +kernel⟩, by decide, fun h => by cases h⟩
theorem lm_157 : ll_M ll_mN ll_mC ll_mL ll_mR ll_mI 157 := by
  unfold ll_M
  rw [mN_157, mC_157, mL_157, mR_157, mI_157]
  exact ⟨tb_1132, tb_827, by decide +kernel, ⟨by decide +kernel, by decide +kernel⟩, by decide, fun h => by cases h⟩
theorem lm_158 : ll_M ll_mN ll_mC ll_mL ll_mR ll_mI 158 := by
  unfold ll_M
  rw [mN_158, mC_158, mL_158, mR_158, mI_158]
  exact ⟨tb_1133, tb_827, by decide +kernel, ⟨by decide +kernel, by decide +kernel⟩, by decide, fun h => by cases h⟩
theorem lm_159 : ll_M ll_mN ll_mC ll_mL ll_mR ll_mI 159 := by
  unfold ll_M
  rw [mN_159, mC_159, mL_159, mR_159, mI_159]
  exact ⟨tb_1134, tb_827, by decide +kernel, ⟨by decide +kernel, by decide +kernel⟩, by decide, fun h => by cases h⟩
theorem lm_160 : ll_M ll_mN ll_mC ll_mL ll_mR ll_mI 160 := by
  unfold ll_M
  rw [mN_160, mC_160, mL_160, mR_160, mI_160]
  exact ⟨tb_1135, tb_827, by decide +kernel, ⟨by decide +kernel, by decide +kernel⟩, by decide, fun h => by cases h⟩
theorem lm_161 : ll_M ll_mN ll_mC ll_mL ll_mR ll_mI 161 := by
  unfold ll_M
  rw [mN_161, mC_161, mL_161, mR_161, mI_161]
  exact ⟨tb_1136, tb_827, by decide +kernel, ⟨by decide +kernel, by decide +kernel⟩, by decide, fun h => by cases h⟩
theorem lm_162 : ll_M ll_mN ll_mC ll_mL ll_mR ll_mI 162 := by
  unfold ll_M
  rw [mN_162, mC_162, mL_162, mR_162, mI_162]
  exact ⟨tb_1137, tb_827, by decide +kernel, ⟨by decide +kernel, by decide +kernel⟩, by decide, fun h => by cases h⟩
theorem lm_163 : ll_M ll_mN ll_mC ll_mL ll_mR ll_mI 163 := by
  unfold ll_M
  rw [mN_163, mC_163, mL_163, mR_163, mI_163]
  exact ⟨tb_1138, tb_827, by decide +kernel, ⟨by decide +kernel, by decide +kernel⟩, by decide, fun h => by cases h⟩
theorem lm_164 : ll_M ll_mN ll_mC ll_mL ll_mR ll_mI 164 := by
  unfold ll_M
  rw [mN_164, mC_164, mL_164, mR_164, mI_164]
  exact ⟨tb_1139, tb_827, by decide +kernel, ⟨by decide +kernel, by decide +kernel⟩, by decide, fun h => by cases h⟩
theorem lm_165 : ll_M ll_mN ll_mC ll_mL ll_mR ll_mI 165 := by
  unfold ll_M
  rw [mN_165, mC_165, mL_165, mR_165, mI_165]
  exact ⟨tb_1140, tb_827, by decide +kernel, ⟨by decide +kernel, by decide +kernel⟩, by decide, fun h => by cases h⟩
theorem lm_166 : ll_M ll_mN ll_mC ll_mL ll_mR ll_mI 166 := by
  unfold ll_M
  rw [mN_166, mC_166, mL_166, mR_166, mI_166]
  exact ⟨tb_1141, tb_827, by decide +kernel, ⟨by decide +kernel, by decide +kernel⟩, by decide, fun h => by cases h⟩
theorem lm_167 : ll_M ll_mN ll_mC ll_mL ll_mR ll_mI 167 := by
  unfold ll_M
  rw [mN_167, mC_167, mL_167, mR_167, mI_167]
  exact ⟨tb_1142, tb_827, by decide +kernel, ⟨by decide +kernel, by decide +kernel⟩, by decide, fun h => by cases h⟩
theorem lm_168 : ll_M ll_mN ll_mC ll_mL ll_mR ll_mI 168 := by
  unfold ll_M
  rw [mN_168, mC_168, mL_168, mR_168, mI_168]
  exact ⟨tb_1143, tb_827, by decide +kernel, ⟨by decide +kernel, by decide +kernel⟩, by decide, fun h => by cases h⟩
theorem lm_169 : ll_M ll_mN ll_mC ll_mL ll_mR ll_mI 169 := by
  unfold ll_M
  rw [mN_169, mC_169, mL_169, mR_169, mI_169]
  exact ⟨tb_1144, tb_827, by decide +kernel, ⟨by decide +kernel, by decide +kernel⟩, by decide, fun h => by cases h⟩
theorem lm_170 : ll_M ll_mN ll_mC ll_mL ll_mR ll_mI 170 := by
  unfold ll_M
  rw [mN_170, mC_170, mL_170, mR_170, mI_170]
  exact ⟨tb_1145, tb_827, by decide +kernel, ⟨by decide +kernel, by decide +kernel⟩, by decide, fun h => by cases h⟩
theorem lm_171 : ll_M ll_mN ll_mC ll_mL ll_mR ll_mI 171 := by
  unfold ll_M
  rw [mN_171, mC_171, mL_171, mR_171, mI_171]
  exact ⟨tb_1146, tb_827, by decide +kernel, ⟨by decide +kernel, by decide +kernel⟩, by decide, fun h => by cases h⟩
theorem lm_172 : ll_M ll_mN ll_mC ll_mL ll_mR ll_mI 172 := by
  unfold ll_M
  rw [mN_172, mC_172, mL_172, mR_172, mI_172]
  exact ⟨tb_1147, tb_827, by decide +kernel, ⟨by decide +kernel, by decide +kernel⟩, by decide, fun h => by cases h⟩
theorem lm_173 : ll_M ll_mN ll_mC ll_mL ll_mR ll_mI 173 := by
  unfold ll_M
  rw [mN_173, mC_173, mL_173, mR_173, mI_173]
  exact ⟨tb_1148, tb_827, by decide +kernel, ⟨by decide +kernel, by decide +kernel⟩, by decide, fun h => by cases h⟩
theorem lm_174 : ll_M ll_mN ll_mC ll_mL ll_mR ll_mI 174 := by
  unfold ll_M
  rw [mN_174, mC_174, mL_174, mR_174, mI_174]
  exact ⟨tb_1149, tb_827, by decide +kernel, ⟨by decide +kernel, by decide +kernel⟩, by decide, fun h => by cases h⟩
theorem lm_175 : ll_M ll_mN ll_mC ll_mL ll_mR ll_mI 175 := by
  unfold ll_M
  rw [mN_175, mC_175, mL_175, mR_175, mI_175]
  exact ⟨tb_1150, tb_827, by decide +kernel, ⟨by decide +kernel, by decide +kernel⟩, by decide, fun h => by cases h⟩
theorem lm_176 : ll_M ll_mN ll_mC ll_mL ll_mR ll_mI 176 := by
  unfold ll_M
  rw [mN_176, mC_176, mL_176, mR_176, mI_176]
  exact ⟨tb_1151, tb_827, by decide +kernel, ⟨by decide +kernel, by decide +kernel⟩, by decide, fun h => by cases h⟩
theorem lm_177 : ll_M ll_mN ll_mC ll_mL ll_mR ll_mI 177 := by
  unfold ll_M
  rw [mN_177, mC_177, mL_177, mR_177, mI_177]
  exact ⟨tb_1152, tb_827, by decide +kernel, ⟨by decide +kernel, by decide +kernel⟩, by decide, fun h => by cases h⟩
theorem lm_178 : ll_M ll_mN ll_mC ll_mL ll_mR ll_mI 178 := by
  unfold ll_M
  rw [mN_178, mC_178, mL_178, mR_178, mI_178]
  exact ⟨tb_1153, tb_827, by decide +kernel, ⟨by decide +kernel, by decide +kernel⟩, by decide, fun h => by cases h⟩
theorem lm_179 : ll_M ll_mN ll_mC ll_mL ll_mR ll_mI 179 := by
  unfold ll_M
  rw [mN_179, mC_179, mL_179, mR_179, mI_179]
  exact ⟨tb_1154, tb_827, by decide +kernel, ⟨by decide +kernel, by decide +kernel⟩, by decide, fun h => by cases h⟩
theorem lm_180 : ll_M ll_mN ll_mC ll_mL ll_mR ll_mI 180 := by
  unfold ll_M
  rw [mN_180, mC_180, mL_180, mR_180, mI_180]
  exact ⟨tb_1155, tb_827, by decide +kernel, ⟨by decide +kernel, by decide +kernel⟩, by decide, fun h => by cases h⟩
theorem lm_181 : ll_M ll_mN ll_mC ll_mL ll_mR ll_mI 181 := by
  unfold ll_M
  rw [mN_181, mC_181, mL_181, mR_181, mI_181]
  exact ⟨tb_1156, tb_827, by decide +kernel, ⟨by decide +kernel, by decide +kernel⟩, by decide, fun h => by cases h⟩
theorem lm_182 : ll_M ll_mN ll_mC ll_mL ll_mR ll_mI 182 := by
  unfold ll_M
  rw [mN_182, mC_182, mL_182, mR_182, mI_182]
  exact ⟨tb_1157, tb_827, by decide +kernel, ⟨by decide +kernel, by decide +kernel⟩, by decide, fun h => by cases h⟩
theorem lm_183 : ll_M ll_mN ll_mC ll_mL ll_mR ll_mI 183 := by
  unfold ll_M
  rw [mN_183, mC_183, mL_183, mR_183, mI_183]
  exact ⟨tb_1158, tb_827, by decide +kernel, ⟨by decide +kernel, by decide +kernel⟩, by decide, fun h => by cases h⟩
theorem lm_184 : ll_M ll_mN ll_mC ll_mL ll_mR ll_mI 184 := by
  unfold ll_M
  rw [mN_184, mC_184, mL_184, mR_184, mI_184]
  exact ⟨tb_1159, tb_827, by decide +kernel, ⟨by decide +kernel, by decide +kernel⟩, by decide, fun h => by cases h⟩
theorem lm_185 : ll_M ll_mN ll_mC ll_mL ll_mR ll_mI 185 := by
  unfold ll_M
  rw [mN_185, mC_185, mL_185, mR_185, mI_185]
  exact ⟨tb_1160, tb_827, by decide +kernel, ⟨by decide +kernel, by decide +kernel⟩, by decide, fun h => by cases h⟩
theorem lm_186 : ll_M ll_mN ll_mC ll_mL ll_mR ll_mI 186 := by
  unfold ll_M
  rw [mN_186, mC_186, mL_186, mR_186, mI_186]
  exact ⟨tb_1161, tb_827, by decide +kernel, ⟨by decide +kernel, by decide +kernel⟩, by decide, fun h => by cases h⟩
theorem lm_187 : ll_M ll_mN ll_mC ll_mL ll_mR ll_mI 187 := by
  unfold ll_M
  rw [mN_187, mC_187, mL_187, mR_187, mI_187]
  exact ⟨tb_1162, tb_827, by decide +kernel, ⟨by decide +kernel, by decide +kernel⟩, by decide, fun h => by cases h⟩
theorem lm_188 : ll_M ll_mN ll_mC ll_mL ll_mR ll_mI 188 := by
  unfold ll_M
  rw [mN_188, mC_188, mL_188, mR_188, mI_188]
  exact ⟨tb_1163, tb_827, by decide +kernel, ⟨by decide +kernel, by decide +kernel⟩, by decide, fun h => by cases h⟩
theorem lm_189 : ll_M ll_mN ll_mC ll_mL ll_mR ll_mI 189 := by
  unfold ll_M
  rw [mN_189, mC_189, mL_189, mR_189, mI_189]
  exact ⟨tb_1164, tb_827, by decide +kernel, ⟨by decide +kernel, by decide +kernel⟩, by decide, fun h => by cases h⟩
theorem lm_190 : ll_M ll_mN ll_mC ll_mL ll_mR ll_mI 190 := by
  unfold ll_M
  rw [mN_190, mC_190, mL_190, mR_190, mI_190]
  exact ⟨tb_1165, tb_827, by decide +kernel, ⟨by decide +kernel, by decide +kernel⟩, by decide, fun h => by cases h⟩
theorem lm_191 : ll_M ll_mN ll_mC ll_mL ll_mR ll_mI 191 := by
  unfold ll_M
  rw [mN_191, mC_191, mL_191, mR_191, mI_191]
  exact ⟨tb_1166, tb_827, by decide +kernel, ⟨by decide +kernel, by decide +kernel⟩, by decide, fun h => by cases h⟩
theorem lm_192 : ll_M ll_mN ll_mC ll_mL ll_mR ll_mI 192 := by
  unfold ll_M
  rw [mN_192, mC_192, mL_192, mR_192, mI_192]
  exact ⟨tb_1167, tb_827, by decide +kernel, ⟨by decide +kernel, by decide +kernel⟩, by decide, fun h => by cases h⟩
theorem lm_193 : ll_M ll_mN ll_mC ll_mL ll_mR ll_mI 193 := by
  unfold ll_M
  rw [mN_193, mC_193, mL_193, mR_193, mI_193]
  exact ⟨tb_1168, tb_827, by decide +kernel, ⟨by decide +kernel, by decide +kernel⟩, by decide, fun h => by cases h⟩
theorem lm_194 : ll_M ll_mN ll_mC ll_mL ll_mR ll_mI 194 := by
  unfold ll_M
  rw [mN_194, mC_194, mL_194, mR_194, mI_194]
  exact ⟨tb_1169, tb_827, by decide +kernel, ⟨by decide +kernel, by decide +kernel⟩, by decide, fun h => by cases h⟩
theorem lm_195 : ll_M ll_mN ll_mC ll_mL ll_mR ll_mI 195 := by
  unfold ll_M
  rw [mN_195, mC_195, mL_195, mR_195, mI_195]
  exact ⟨tb_1170, tb_827, by decide +kernel, ⟨by decide +kernel, by decide +kernel⟩, by decide, fun h => by cases h⟩
theorem lm_196 : ll_M ll_mN ll_mC ll_mL ll_mR ll_mI 196 := by
  unfold ll_M
  rw [mN_196, mC_196, mL_196, mR_196, mI_196]
  exact ⟨tb_1171, tb_827, by decide +kernel, ⟨by decide +kernel, by decide +kernel⟩, by decide, fun h => by cases h⟩
theorem lm_197 : ll_M ll_mN ll_mC ll_mL ll_mR ll_mI 197 := by
  unfold ll_M
  rw [mN_197, mC_197, mL_197, mR_197, mI_197]
  exact ⟨tb_1172, tb_827, by decide +kernel, ⟨by decide +kernel, by decide +kernel⟩, by decide, fun h => by cases h⟩
theorem lm_198 : ll_M ll_mN ll_mC ll_mL ll_mR ll_mI 198 := by
  unfold ll_M
  rw [mN_198, mC_198, mL_198, mR_198, mI_198]
  exact ⟨tb_1173, tb_827, by decide +kernel, ⟨by decide +kernel, by decide +kernel⟩, by decide, fun h => by cases h⟩
theorem lm_199 : ll_M ll_mN ll_mC ll_mL ll_mR ll_mI 199 := by
  unfold ll_M
  rw [mN_199, mC_199, mL_199, mR_199, mI_199]
  exact ⟨tb_1174, tb_827, by decide +kernel, ⟨by decide +kernel, by decide +kernel⟩, by decide, fun h => by cases h⟩
theorem lm_200 : ll_M ll_mN ll_mC ll_mL ll_mR ll_mI 200 := by
  unfold ll_M
  rw [mN_200, mC_200, mL_200, mR_200, mI_200]
  exact ⟨tb_1175, tb_827, by decide +kernel, ⟨by decide +kernel, by decide +kernel⟩, by decide, fun h => by cases h⟩
theorem lm_201 : ll_M ll_mN ll_mC ll_mL ll_mR ll_mI 201 := by
  unfold ll_M
  rw [mN_201, mC_201, mL_201, mR_201, mI_201]
  exact ⟨tb_1176, tb_827, by decide +kernel, ⟨by decide +kernel, by decide +kernel⟩, by decide, fun h => by cases h⟩
theorem lm_202 : ll_M ll_mN ll_mC ll_mL ll_mR ll_mI 202 := by
  unfold ll_M
  rw [mN_202, mC_202, mL_202, mR_202, mI_202]
  exact ⟨tb_1177, tb_827, by decide +kernel, ⟨by decide +kernel, by decide +kernel⟩, by decide, fun h => by cases h⟩
theorem lm_203 : ll_M ll_mN ll_mC ll_mL ll_mR ll_mI 203 := by
  unfold ll_M
  rw [mN_203, mC_203, mL_203, mR_203, mI_203]
  exact ⟨tb_1178, tb_827, by decide +kernel, ⟨by decide +kernel, by decide +kernel⟩, by decide, fun h => by cases h⟩
theorem lm_204 : ll_M ll_mN ll_mC ll_mL ll_mR ll_mI 204 := by
  unfold ll_M
  rw [mN_204, mC_204, mL_204, mR_204, mI_204]
  exact ⟨tb_1179, tb_827, by decide +kernel, ⟨by decide +kernel, by decide +kernel⟩, by decide, fun h => by cases h⟩
theorem lm_205 : ll_M ll_mN ll_mC ll_mL ll_mR ll_mI 205 := by
  unfold ll_M
  rw [mN_205, mC_205, mL_205, mR_205, mI_205]
  exact ⟨tb_1180, tb_827, by decide +kernel, ⟨by decide +kernel, by decide +kernel⟩, by decide, fun h => by cases h⟩
theorem lm_206 : ll_M ll_mN ll_mC ll_mL ll_mR ll_mI 206 := by
  unfold ll_M
  rw [mN_206, mC_206, mL_206, mR_206, mI_206]
  exact ⟨tb_1181, tb_827, by decide +kernel, ⟨by decide +kernel, by decide +kernel⟩, by decide, fun h => by cases h⟩
theorem lm_207 : ll_M ll_mN ll_mC ll_mL ll_mR ll_mI 207 := by
  unfold ll_M
  rw [mN_207, mC_207, mL_207, mR_207, mI_207]
  exact ⟨tb_1182, tb_827, by decide +kernel, ⟨by decide +kernel, by decide +kernel⟩, by decide, fun h => by cases h⟩
theorem lm_208 : ll_M ll_mN ll_mC ll_mL ll_mR ll_mI 208 := by
  unfold ll_M
  rw [mN_208, mC_208, mL_208, mR_208, mI_208]
  exact ⟨tb_1183, tb_827, by decide +kernel, ⟨by decide +kernel, by decide +kernel⟩, by decide, fun h => by cases h⟩
theorem lm_209 : ll_M ll_mN ll_mC ll_mL ll_mR ll_mI 209 := by
  unfold ll_M
  rw [mN_209, mC_209, mL_209, mR_209, mI_209]
  exact ⟨tb_1184, tb_827, by decide +kernel, ⟨by decide +kernel, by decide +kernel⟩, by decide, fun h => by cases h⟩
theorem lm_210 : ll_M ll_mN ll_mC ll_mL ll_mR ll_mI 210 := by
  unfold ll_M
  rw [mN_210, mC_210, mL_210, mR_210, mI_210]
  exact ⟨tb_1185, tb_827, by decide +kernel, ⟨by decide +kernel, by decide +kernel⟩, by decide, fun h => by cases h⟩
theorem lm_211 : ll_M ll_mN ll_mC ll_mL ll_mR ll_mI 211 := by
  unfold ll_M
  rw [mN_211, mC_211, mL_211, mR_211, mI_211]
  exact ⟨tb_1186, tb_827, by decide +kernel, ⟨by decide +kernel, by decide +kernel⟩, by decide, fun h => by cases h⟩
theorem lm_212 : ll_M ll_mN ll_mC ll_mL ll_mR ll_mI 212 := by
  unfold ll_M
  rw [mN_212, mC_212, mL_212, mR_212, mI_212]
  exact ⟨tb_1187, tb_827, by decide +kernel, ⟨by decide +kernel, by decide +kernel⟩, by decide, fun h => by cases h⟩
theorem lm_213 : ll_M ll_mN ll_mC ll_mL ll_mR ll_mI 213 := by
  unfold ll_M
  rw [mN_213, mC_213, mL_213, mR_213, mI_213]
  exact ⟨tb_1188, tb_827, by decide +kernel, ⟨by decide +kernel, by decide +kernel⟩, by decide, fun h => by cases h⟩
theorem lm_214 : ll_M ll_mN ll_mC ll_mL ll_mR ll_mI 214 := by
  unfold ll_M
  rw [mN_214, mC_214, mL_214, mR_214, mI_214]
  exact ⟨tb_1189, tb_827, by decide +kernel, ⟨by decide +kernel, by decide +kernel⟩, by decide, fun h => by cases h⟩
theorem lm_215 : ll_M ll_mN ll_mC ll_mL ll_mR ll_mI 215 := by
  unfold ll_M
  rw [mN_215, mC_215, mL_215, mR_215, mI_215]
  exact ⟨tb_1190, tb_827, by decide +kernel, ⟨by decide +kernel, by decide +kernel⟩, by decide, fun h => by cases h⟩
theorem lm_216 : ll_M ll_mN ll_mC ll_mL ll_mR ll_mI 216 := by
  unfold ll_M
  rw [mN_216, mC_216, mL_216, mR_216, mI_216]
  exact ⟨tb_1191, tb_827, by decide +kernel, ⟨by decide +kernel, by decide +kernel⟩, by decide, fun h => by cases h⟩
theorem lm_217 : ll_M ll_mN ll_mC ll_mL ll_mR ll_mI 217 := by
  unfold ll_M
  rw [mN_217, mC_217, mL_217, mR_217, mI_217]
  exact ⟨tb_1192, tb_827, by decide +kernel, ⟨by decide +kernel, by decide +kernel⟩, by decide, fun h => by cases h⟩
theorem lm_218 : ll_M ll_mN ll_mC ll_mL ll_mR ll_mI 218 := by
  unfold ll_M
  rw [mN_218, mC_218, mL_218, mR_218, mI_218]
  exact ⟨tb_1193, tb_827, by decide +kernel, ⟨by decide +kernel, by decide +kernel⟩, by decide, fun h => by cases h⟩
theorem lm_219 : ll_M ll_mN ll_mC ll_mL ll_mR ll_mI 219 := by
  unfold ll_M
  rw [mN_219, mC_219, mL_219, mR_219, mI_219]
  exact ⟨tb_1194, tb_827, by decide +kernel, ⟨by decide +kernel, by decide +kernel⟩, by decide, fun h => by cases h⟩
theorem lm_220 : ll_M ll_mN ll_mC ll_mL ll_mR ll_mI 220 := by
  unfold ll_M
  rw [mN_220, mC_220, mL_220, mR_220, mI_220]
  exact ⟨tb_1195, tb_827, by decide +kernel, ⟨by decide +kernel, by decide +kernel⟩, by decide, fun h => by cases h⟩
theorem lm_221 : ll_M ll_mN ll_mC ll_mL ll_mR ll_mI 221 := by
  unfold ll_M
  rw [mN_221, mC_221, mL_221, mR_221, mI_221]
  exact ⟨tb_1196, tb_827, by decide +kernel, ⟨by decide +kernel, by decide +kernel⟩, by decide, fun h => by cases h⟩
theorem lm_222 : ll_M ll_mN ll_mC ll_mL ll_mR ll_mI 222 := by
  unfold ll_M
  rw [mN_222, mC_222, mL_222, mR_222, mI_222]
  exact ⟨tb_1197, tb_827, by decide +kernel, ⟨by decide +kernel, by decide +kernel⟩, by decide, fun h => by cases h⟩
theorem lm_223 : ll_M ll_mN ll_mC ll_mL ll_mR ll_mI 223 := by
  unfold ll_M
  rw [mN_223, mC_223, mL_223, mR_223, mI_223]
  exact ⟨tb_1198, tb_827, by decide +kernel, ⟨by decide +kernel, by decide +kernel⟩, by decide, fun h => by cases h⟩
theorem lm_224 : ll_M ll_mN ll_mC ll_mL ll_mR ll_mI 224 := by
  unfold ll_M
  rw [mN_224, mC_224, mL_224, mR_224, mI_224]
  exact ⟨tb_1199, tb_827, by decide +kernel, ⟨by decide +kernel, by decide +kernel⟩, by decide, fun h => by cases h⟩
theorem lm_225 : ll_M ll_mN ll_mC ll_mL ll_mR ll_mI 225 := by
  unfold ll_M
  rw [mN_225, mC_225, mL_225, mR_225, mI_225]
  exact ⟨tb_1200, tb_827, by decide +kernel, ⟨by decide +kernel, by decide +kernel⟩, by decide, fun h => by cases h⟩
theorem lm_226 : ll_M ll_mN ll_mC ll_mL ll_mR ll_mI 226 := by
  unfold ll_M
  rw [mN_226, mC_226, mL_226, mR_226, mI_226]
  exact ⟨tb_1201, tb_827, by decide +kernel, ⟨by decide +kernel, by decide +kernel⟩, by decide, fun h => by cases h⟩
theorem lm_227 : ll_M ll_mN ll_mC ll_mL ll_mR ll_mI 227 := by
  unfold ll_M
  rw [mN_227, mC_227, mL_227, mR_227, mI_227]
  exact ⟨tb_1202, tb_827, by decide +kernel, ⟨by decide +kernel, by decide +kernel⟩, by decide, fun h => by cases h⟩
theorem lm_228 : ll_M ll_mN ll_mC ll_mL ll_mR ll_mI 228 := by
  unfold ll_M
  rw [mN_228, mC_228, mL_228, mR_228, mI_228]
  exact ⟨tb_1203, tb_827, by decide +kernel, ⟨by decide +kernel, by decide +kernel⟩, by decide, fun h => by cases h⟩
theorem lm_229 : ll_M ll_mN ll_mC ll_mL ll_mR ll_mI 229 := by
  unfold ll_M
  rw [mN_229, mC_229, mL_229, mR_229, mI_229]
  exact ⟨tb_1204, tb_827, by decide +kernel, ⟨by decide +kernel, by decide +kernel⟩, by decide, fun h => by cases h⟩
theorem lm_230 : ll_M ll_mN ll_mC ll_mL ll_mR ll_mI 230 := by
  unfold ll_M
  rw [mN_230, mC_230, mL_230, mR_230, mI_230]
  exact ⟨tb_1205, tb_827, by decide +kernel, ⟨by decide +kernel, by decide +kernel⟩, by decide, fun h => by cases h⟩
theorem lm_231 : ll_M ll_mN ll_mC ll_mL ll_mR ll_mI 231 := by
  unfold ll_M
  rw [mN_231, mC_231, mL_231, mR_231, mI_231]
  exact ⟨tb_1206, tb_1207, by decide +kernel, ⟨by decide +kernel, by decide +kernel⟩, by decide, fun h => by cases h⟩
end
section
/-! CODE TABLES, and that each row is the machine's (written by wip/whole/gen.py) -/
/-- InclusionProver$Kernel.<init>.(LInclusionProver$Side;LInclusionProver$Side;LInclusionProver$Lines;)V -/
def cd_0 : List (Nat × ll_O) := [
  (0, .inl (lo_aload 1 0)),
  (1, .inl (lo_init 4)),
  (4, .inl (lo_aload 5 0)),
  (5, .inl (lo_push 7 (.int (-2)))),
  (7, .inl (lo_putf 10 0 3 0)),
  (10, .inl (lo_aload 11 0)),
  (11, .inl (lo_push 12 (.int (-1)))),
  (12, .inl (lo_putf 15 0 5 0)),
  (15, .inl (lo_aload 16 0)),
  (16, .inl (lo_push 17 (.int (-1)))),
  (17, .inl (lo_putf 20 0 6 0)),
  (20, .inl (lo_aload 21 0)),
  (21, .inl (lo_aload 22 1)),
  (22, .inl (lo_putf 25 0 0 2)),
  (25, .inl (lo_aload 26 0)),
  (26, .inl (lo_aload 27 2)),
  (27, .inl (lo_putf 30 0 1 2)),
  (30, .inl (lo_aload 31 0)),
  (31, .inl (lo_aload 32 3)),
  (32, .inl (lo_putf 35 0 2 2)),
  (35, .inr (.inr 0))]
theorem k_0_0 (L : Nat) (xs : Nat → Int32) : ll_OK1 cX0_init RX0 none true ll_mN ll_mR ll_mK ll_cnt L xs false 0 (.inl (lo_aload 1 0)) := lk_aload_n (k := 0) (by decide +kernel) rfl
theorem k_0_1 (L : Nat) (xs : Nat → Int32) : ll_OK1 cX0_init RX0 none true ll_mN ll_mR ll_mK ll_cnt L xs false 1 (.inl (lo_init 4)) := lk_init (ix := 3) (by decide +kernel) tb_0 tb_1 tb_2
theorem k_0_4 (L : Nat) (xs : Nat → Int32) : ll_OK1 cX0_init RX0 none true ll_mN ll_mR ll_mK ll_cnt L xs false 4 (.inl (lo_aload 5 0)) := lk_aload_n (k := 0) (by decide +kernel) rfl
theorem k_0_5 (L : Nat) (xs : Nat → Int32) : ll_OK1 cX0_init RX0 none true ll_mN ll_mR ll_mK ll_cnt L xs false 5 (.inl (lo_push 7 (.int (-2)))) := lk_bipush (n := (-2)) (by decide +kernel) (by decide)
theorem k_0_7 (L : Nat) (xs : Nat → Int32) : ll_OK1 cX0_init RX0 none true ll_mN ll_mR ll_mK ll_cnt L xs false 7 (.inl (lo_putf 10 0 3 0)) := lk_putf (ix := 9) (ci := 0) (k := 3) (C := RX0) (T := TX0) (N := 7) (ty0 := tyX0) (by decide +kernel) rfl in_0 tyX0_ok nmX0 (by decide) tb_3 (fun B adr v w h1 h2 => ll_fit_int (B := B) (adr := adr) h1 h2) (Or.inl rfl)
theorem k_0_10 (L : Nat) (xs : Nat → Int32) : ll_OK1 cX0_init RX0 none true ll_mN ll_mR ll_mK ll_cnt L xs false 10 (.inl (lo_aload 11 0)) := lk_aload_n (k := 0) (by decide +kernel) rfl
theorem k_0_11 (L : Nat) (xs : Nat → Int32) : ll_OK1 cX0_init RX0 none true ll_mN ll_mR ll_mK ll_cnt L xs false 11 (.inl (lo_push 12 (.int (-1)))) := lk_iconst (n := (-1)) (by decide +kernel) (by decide)
theorem k_0_12 (L : Nat) (xs : Nat → Int32) : ll_OK1 cX0_init RX0 none true ll_mN ll_mR ll_mK ll_cnt L xs false 12 (.inl (lo_putf 15 0 5 0)) := lk_putf (ix := 15) (ci := 0) (k := 5) (C := RX0) (T := TX0) (N := 7) (ty0 := tyX0) (by decide +kernel) rfl in_0 tyX0_ok nmX0 (by decide) tb_4 (fun B adr v w h1 h2 => ll_fit_int (B := B) (adr := adr) h1 h2) (Or.inl rfl)
theorem k_0_15 (L : Nat) (xs : Nat → Int32) : ll_OK1 cX0_init RX0 none true ll_mN ll_mR ll_mK ll_cnt L xs false 15 (.inl (lo_aload 16 0)) := lk_aload_n (k := 0) (by decide +kernel) rfl
theorem k_0_16 (L : Nat) (xs : Nat → Int32) : ll_OK1 cX0_init RX0 none true ll_mN ll_mR ll_mK ll_cnt L xs false 16 (.inl (lo_push 17 (.int (-1)))) := lk_iconst (n := (-1)) (by decide +kernel) (by decide)
theorem k_0_17 (L : Nat) (xs : Nat → Int32) : ll_OK1 cX0_init RX0 none true ll_mN ll_mR ll_mK ll_cnt L xs false 17 (.inl (lo_putf 20 0 6 0)) := lk_putf (ix := 18) (ci := 0) (k := 6) (C := RX0) (T := TX0) (N := 7) (ty0 := tyX0) (by decide +kernel) rfl in_0 tyX0_ok nmX0 (by decide) tb_5 (fun B adr v w h1 h2 => ll_fit_int (B := B) (adr := adr) h1 h2) (Or.inl rfl)
theorem k_0_20 (L : Nat) (xs : Nat → Int32) : ll_OK1 cX0_init RX0 none true ll_mN ll_mR ll_mK ll_cnt L xs false 20 (.inl (lo_aload 21 0)) := lk_aload_n (k := 0) (by decide +kernel) rfl
theorem k_0_21 (L : Nat) (xs : Nat → Int32) : ll_OK1 cX0_init RX0 none true ll_mN ll_mR ll_mK ll_cnt L xs false 21 (.inl (lo_aload 22 1)) := lk_aload_n (k := 1) (by decide +kernel) rfl
theorem k_0_22 (L : Nat) (xs : Nat → Int32) : ll_OK1 cX0_init RX0 none true ll_mN ll_mR ll_mK ll_cnt L xs false 22 (.inl (lo_putf 25 0 0 2)) := lk_putf (ix := 21) (ci := 0) (k := 0) (C := RX0) (T := TX0) (N := 7) (ty0 := tyX0) (by decide +kernel) rfl in_0 tyX0_ok nmX0 (by decide) tb_6 (fun B adr v w h1 h2 => ll_fit_obj (B := B) (adr := adr) h1 h2) (Or.inl rfl)
theorem k_0_25 (L : Nat) (xs : Nat → Int32) : ll_OK1 cX0_init RX0 none true ll_mN ll_mR ll_mK ll_cnt L xs false 25 (.inl (lo_aload 26 0)) := lk_aload_n (k := 0) (by decide +kernel) rfl
theorem k_0_26 (L : Nat) (xs : Nat → Int32) : ll_OK1 cX0_init RX0 none true ll_mN ll_mR ll_mK ll_cnt L xs false 26 (.inl (lo_aload 27 2)) := lk_aload_n (k := 2) (by decide +kernel) rfl
theorem k_0_27 (L : Nat) (xs : Nat → Int32) : ll_OK1 cX0_init RX0 none true ll_mN ll_mR ll_mK ll_cnt L xs false 27 (.inl (lo_putf 30 0 1 2)) := lk_putf (ix := 25) (ci := 0) (k := 1) (C := RX0) (T := TX0) (N := 7) (ty0 := tyX0) (by decide +kernel) rfl in_0 tyX0_ok nmX0 (by decide) tb_7 (fun B adr v w h1 h2 => ll_fit_obj (B := B) (adr := adr) h1 h2) (Or.inl rfl)
theorem k_0_30 (L : Nat) (xs : Nat → Int32) : ll_OK1 cX0_init RX0 none true ll_mN ll_mR ll_mK ll_cnt L xs false 30 (.inl (lo_aload 31 0)) := lk_aload_n (k := 0) (by decide +kernel) rfl
theorem k_0_31 (L : Nat) (xs : Nat → Int32) : ll_OK1 cX0_init RX0 none true ll_mN ll_mR ll_mK ll_cnt L xs false 31 (.inl (lo_aload 32 3)) := lk_aload_n (k := 3) (by decide +kernel) rfl
theorem k_0_32 (L : Nat) (xs : Nat → Int32) : ll_OK1 cX0_init RX0 none true ll_mN ll_mR ll_mK ll_cnt L xs false 32 (.inl (lo_putf 35 0 2 2)) := lk_putf (ix := 28) (ci := 0) (k := 2) (C := RX0) (T := TX0) (N := 7) (ty0 := tyX0) (by decide +kernel) rfl in_0 tyX0_ok nmX0 (by decide) tb_8 (fun B adr v w h1 h2 => ll_fit_obj (B := B) (adr := adr) h1 h2) (Or.inl rfl)
theorem k_0_35 (L : Nat) (xs : Nat → Int32) : ll_OK1 cX0_init RX0 none true ll_mN ll_mR ll_mK ll_cnt L xs false 35 (.inr (.inr 0)) := ⟨fun _ => ⟨(by decide +kernel), rfl⟩, (fun h => by cases h), fun h => by cases h⟩
theorem ok_0 (L : Nat) (xs : Nat → Int32) : ∀ q ∈ cd_0, ll_OK1 cX0_init RX0 none true ll_mN ll_mR ll_mK ll_cnt L xs false q.1 q.2 :=
  List.forall_mem_cons.mpr ⟨k_0_0 L xs, List.forall_mem_cons.mpr ⟨k_0_1 L xs, List.forall_mem_cons.mpr ⟨k_0_4 L xs, List.forall_mem_cons.mpr ⟨k_0_5 L xs, List.forall_mem_cons.mpr ⟨k_0_7 L xs, List.forall_mem_cons.mpr ⟨k_0_10 L xs, List.forall_mem_cons.mpr ⟨k_0_11 L xs, List.forall_mem_cons.mpr ⟨k_0_12 L xs, List.forall_mem_cons.mpr ⟨k_0_15 L xs, List.forall_mem_cons.mpr ⟨k_0_16 L xs, List.forall_mem_cons.mpr ⟨k_0_17 L xs, List.forall_mem_cons.mpr ⟨k_0_20 L xs, List.forall_mem_cons.mpr ⟨k_0_21 L xs, List.forall_mem_cons.mpr ⟨k_0_22 L xs, List.forall_mem_cons.mpr ⟨k_0_25 L xs, List.forall_mem_cons.mpr ⟨k_0_26 L xs, List.forall_mem_cons.mpr ⟨k_0_27 L xs, List.forall_mem_cons.mpr ⟨k_0_30 L xs, List.forall_mem_cons.mpr ⟨k_0_31 L xs, List.forall_mem_cons.mpr ⟨k_0_32 L xs, List.forall_mem_cons.mpr ⟨k_0_35 L xs, fun _ h => absurd h List.not_mem_nil⟩⟩⟩⟩⟩⟩⟩⟩⟩⟩⟩⟩⟩⟩⟩⟩⟩⟩⟩⟩⟩
/-- InclusionProver$Kernel.look.(LInclusionProver$Side;LInclusionProver$Side;LInclusionProver$Lines;)V -/
def cd_1 : List (Nat × ll_O) := [
  (0, .inl (lo_aload 1 0)),
  (1, .inl (lo_aload 2 1)),
  (2, .inl (lo_putf 5 0 0 2)),
  (5, .inl (lo_aload 6 0)),
  (6, .inl (lo_aload 7 2)),
  (7, .inl (lo_putf 10 0 1 2)),
  (10, .inl (lo_aload 11 0)),
  (11, .inl (lo_aload 12 3)),
  (12, .inl (lo_putf 15 0 2 2)),
  (15, .inl (lo_aload 16 0)),
  (16, .inl (lo_push 17 (.int (-1)))),
  (17, .inl (lo_putf 20 0 5 0)),
  (20, .inl (lo_aload 21 0)),
  (21, .inl (lo_push 22 (.int (-1)))),
  (22, .inl (lo_putf 25 0 6 0)),
  (25, .inl (lo_aload 26 0)),
  (26, .inl (lo_push 27 (.int 0))),
  (27, .inl (lo_putf 30 0 4 0)),
  (30, .inl (lo_aload 31 0)),
  (31, .inl (lo_aload 32 0)),
  (32, .inl (lo_getf 35 0 2)),
  (35, .inl (lo_getf 38 1 8)),
  (38, .inl (lo_if 46 41 (fun x => decide (¬ x = 0)))),
  (41, .inl (lo_push 43 (.int (-2)))),
  (43, .inl (lo_goto 47)),
  (46, .inl (lo_push 47 (.int (-1)))),
  (47, .inl (lo_putf 50 0 3 0)),
  (50, .inl (lo_push 51 (.int 0))),
  (51, .inl (lo_istore 53 4)),
  (53, .inl (lo_iload 55 4)),
  (55, .inl (lo_aload 56 0)),
  (56, .inl (lo_getf 59 0 2)),
  (59, .inl (lo_getf 62 1 8)),
  (62, .inl (lo_cmp 102 65 (fun x y => decide (y ≤ x)))),
  (65, .inl (lo_aload 66 0)),
  (66, .inl (lo_getf 69 0 3)),
  (69, .inl (lo_push 70 (.int (-1)))),
  (70, .inl (lo_cmp 102 73 (fun x y => decide (¬ x = y)))),
  (73, .inl (lo_aload 74 0)),
  (74, .inl (lo_aload 75 0)),
  (75, .inl (lo_iload 77 4)),
  (77, .inr (.inl (3, 2, 80))),
  (80, .inl (lo_putf 83 0 4 0)),
  (83, .inl (lo_aload 84 0)),
  (84, .inl (lo_getf 87 0 4)),
  (87, .inl (lo_if 96 90 (fun x => decide (x = 0)))),
  (90, .inl (lo_aload 91 0)),
  (91, .inl (lo_iload 93 4)),
  (93, .inl (lo_putf 96 0 3 0)),
  (96, .inl (lo_iinc 99 4 1)),
  (99, .inl (lo_goto 53)),
  (102, .inl (lo_aload 103 0)),
  (103, .inl (lo_getf 106 0 3)),
  (106, .inl (lo_push 107 (.int (-1)))),
  (107, .inl (lo_cmp 128 110 (fun x y => decide (¬ x = y)))),
  (110, .inl (lo_aload 111 0)),
  (111, .inr (.inl (2, 1, 114))),
  (114, .inl (lo_if 128 117 (fun x => decide (¬ x = 0)))),
  (117, .inl (lo_aload 118 0)),
  (118, .inl (lo_push 119 (.int 0))),
  (119, .inl (lo_putf 122 0 3 0)),
  (122, .inl (lo_aload 123 0)),
  (123, .inl (lo_push 125 (.int 6))),
  (125, .inl (lo_putf 128 0 4 0)),
  (128, .inr (.inr 0))]
theorem k_1_0 (L : Nat) (xs : Nat → Int32) : ll_OK1 cX0_look RX0 none false ll_mN ll_mR ll_mK ll_cnt L xs false 0 (.inl (lo_aload 1 0)) := lk_aload_n (k := 0) (by decide +kernel) rfl
theorem k_1_1 (L : Nat) (xs : Nat → Int32) : ll_OK1 cX0_look RX0 none false ll_mN ll_mR ll_mK ll_cnt L xs false 1 (.inl (lo_aload 2 1)) := lk_aload_n (k := 1) (by decide +kernel) rfl
theorem k_1_2 (L : Nat) (xs : Nat → Int32) : ll_OK1 cX0_look RX0 none false ll_mN ll_mR ll_mK ll_cnt L xs false 2 (.inl (lo_putf 5 0 0 2)) := lk_putf (ix := 21) (ci := 0) (k := 0) (C := RX0) (T := TX0) (N := 7) (ty0 := tyX0) (by decide +kernel) rfl in_0 tyX0_ok nmX0 (by decide) tb_6 (fun B adr v w h1 h2 => ll_fit_obj (B := B) (adr := adr) h1 h2) (Or.inl rfl)
theorem k_1_5 (L : Nat) (xs : Nat → Int32) : ll_OK1 cX0_look RX0 none false ll_mN ll_mR ll_mK ll_cnt L xs false 5 (.inl (lo_aload 6 0)) := lk_aload_n (k := 0) (by decide +kernel) rfl
theorem k_1_6 (L : Nat) (xs : Nat → Int32) : ll_OK1 cX0_look RX0 none false ll_mN ll_mR ll_mK ll_cnt L xs false 6 (.inl (lo_aload 7 2)) := lk_aload_n (k := 2) (by decide +kernel) rfl
theorem k_1_7 (L : Nat) (xs : Nat → Int32) : ll_OK1 cX0_look RX0 none false ll_mN ll_mR ll_mK ll_cnt L xs false 7 (.inl (lo_putf 10 0 1 2)) := lk_putf (ix := 25) (ci := 0) (k := 1) (C := RX0) (T := TX0) (N := 7) (ty0 := tyX0) (by decide +kernel) rfl in_0 tyX0_ok nmX0 (by decide) tb_7 (fun B adr v w h1 h2 => ll_fit_obj (B := B) (adr := adr) h1 h2) (Or.inl rfl)
theorem k_1_10 (L : Nat) (xs : Nat → Int32) : ll_OK1 cX0_look RX0 none false ll_mN ll_mR ll_mK ll_cnt L xs false 10 (.inl (lo_aload 11 0)) := lk_aload_n (k := 0) (by decide +kernel) rfl
theorem k_1_11 (L : Nat) (xs : Nat → Int32) : ll_OK1 cX0_look RX0 none false ll_mN ll_mR ll_mK ll_cnt L xs false 11 (.inl (lo_aload 12 3)) := lk_aload_n (k := 3) (by decide +kernel) rfl
theorem k_1_12 (L : Nat) (xs : Nat → Int32) : ll_OK1 cX0_look RX0 none false ll_mN ll_mR ll_mK ll_cnt L xs false 12 (.inl (lo_putf 15 0 2 2)) := lk_putf (ix := 28) (ci := 0) (k := 2) (C := RX0) (T := TX0) (N := 7) (ty0 := tyX0) (by decide +kernel) rfl in_0 tyX0_ok nmX0 (by decide) tb_8 (fun B adr v w h1 h2 => ll_fit_obj (B := B) (adr := adr) h1 h2) (Or.inl rfl)
theorem k_1_15 (L : Nat) (xs : Nat → Int32) : ll_OK1 cX0_look RX0 none false ll_mN ll_mR ll_mK ll_cnt L xs false 15 (.inl (lo_aload 16 0)) := lk_aload_n (k := 0) (by decide +kernel) rfl
theorem k_1_16 (L : Nat) (xs : Nat → Int32) : ll_OK1 cX0_look RX0 none false ll_mN ll_mR ll_mK ll_cnt L xs false 16 (.inl (lo_push 17 (.int (-1)))) := lk_iconst (n := (-1)) (by decide +kernel) (by decide)
theorem k_1_17 (L : Nat) (xs : Nat → Int32) : ll_OK1 cX0_look RX0 none false ll_mN ll_mR ll_mK ll_cnt L xs false 17 (.inl (lo_putf 20 0 5 0)) := lk_putf (ix := 15) (ci := 0) (k := 5) (C := RX0) (T := TX0) (N := 7) (ty0 := tyX0) (by decide +kernel) rfl in_0 tyX0_ok nmX0 (by decide) tb_4 (fun B adr v w h1 h2 => ll_fit_int (B := B) (adr := adr) h1 h2) (Or.inl rfl)
theorem k_1_20 (L : Nat) (xs : Nat → Int32) : ll_OK1 cX0_look RX0 none false ll_mN ll_mR ll_mK ll_cnt L xs false 20 (.inl (lo_aload 21 0)) := lk_aload_n (k := 0) (by decide +kernel) rfl
theorem k_1_21 (L : Nat) (xs : Nat → Int32) : ll_OK1 cX0_look RX0 none false ll_mN ll_mR ll_mK ll_cnt L xs false 21 (.inl (lo_push 22 (.int (-1)))) := lk_iconst (n := (-1)) (by decide +kernel) (by decide)
theorem k_1_22 (L : Nat) (xs : Nat → Int32) : ll_OK1 cX0_look RX0 none false ll_mN ll_mR ll_mK ll_cnt L xs false 22 (.inl (lo_putf 25 0 6 0)) := lk_putf (ix := 18) (ci := 0) (k := 6) (C := RX0) (T := TX0) (N := 7) (ty0 := tyX0) (by decide +kernel) rfl in_0 tyX0_ok nmX0 (by decide) tb_5 (fun B adr v w h1 h2 => ll_fit_int (B := B) (adr := adr) h1 h2) (Or.inl rfl)
theorem k_1_25 (L : Nat) (xs : Nat → Int32) : ll_OK1 cX0_look RX0 none false ll_mN ll_mR ll_mK ll_cnt L xs false 25 (.inl (lo_aload 26 0)) := lk_aload_n (k := 0) (by decide +kernel) rfl
theorem k_1_26 (L : Nat) (xs : Nat → Int32) : ll_OK1 cX0_look RX0 none false ll_mN ll_mR ll_mK ll_cnt L xs false 26 (.inl (lo_push 27 (.int 0))) := lk_iconst (n := 0) (by decide +kernel) (by decide)
theorem k_1_27 (L : Nat) (xs : Nat → Int32) : ll_OK1 cX0_look RX0 none false ll_mN ll_mR ll_mK ll_cnt L xs false 27 (.inl (lo_putf 30 0 4 0)) := lk_putf (ix := 32) (ci := 0) (k := 4) (C := RX0) (T := TX0) (N := 7) (ty0 := tyX0) (by decide +kernel) rfl in_0 tyX0_ok nmX0 (by decide) tb_9 (fun B adr v w h1 h2 => ll_fit_int (B := B) (adr := adr) h1 h2) (Or.inl rfl)
theorem k_1_30 (L : Nat) (xs : Nat → Int32) : ll_OK1 cX0_look RX0 none false ll_mN ll_mR ll_mK ll_cnt L xs false 30 (.inl (lo_aload 31 0)) := lk_aload_n (k := 0) (by decide +kernel) rfl
theorem k_1_31 (L : Nat) (xs : Nat → Int32) : ll_OK1 cX0_look RX0 none false ll_mN ll_mR ll_mK ll_cnt L xs false 31 (.inl (lo_aload 32 0)) := lk_aload_n (k := 0) (by decide +kernel) rfl
theorem k_1_32 (L : Nat) (xs : Nat → Int32) : ll_OK1 cX0_look RX0 none false ll_mN ll_mR ll_mK ll_cnt L xs false 32 (.inl (lo_getf 35 0 2)) := lk_getf (ix := 28) (ci := 0) (k := 2) (C := RX0) (T := TX0) (N := 7) (by decide +kernel) rfl in_0 (by decide) tb_8
theorem k_1_35 (L : Nat) (xs : Nat → Int32) : ll_OK1 cX0_look RX0 none false ll_mN ll_mR ll_mK ll_cnt L xs false 35 (.inl (lo_getf 38 1 8)) := lk_getf (ix := 35) (ci := 1) (k := 8) (C := RX1) (T := TX1) (N := 12) (by decide +kernel) rfl in_1 (by decide) tb_10
theorem k_1_38 (L : Nat) (xs : Nat → Int32) : ll_OK1 cX0_look RX0 none false ll_mN ll_mR ll_mK ll_cnt L xs false 38 (.inl (lo_if 46 41 (fun x => decide (¬ x = 0)))) := lk_if_ne (off := 8) (by decide +kernel) rfl
theorem k_1_41 (L : Nat) (xs : Nat → Int32) : ll_OK1 cX0_look RX0 none false ll_mN ll_mR ll_mK ll_cnt L xs false 41 (.inl (lo_push 43 (.int (-2)))) := lk_bipush (n := (-2)) (by decide +kernel) (by decide)
theorem k_1_43 (L : Nat) (xs : Nat → Int32) : ll_OK1 cX0_look RX0 none false ll_mN ll_mR ll_mK ll_cnt L xs false 43 (.inl (lo_goto 47)) := lk_goto (off := 4) (by decide +kernel) rfl
theorem k_1_46 (L : Nat) (xs : Nat → Int32) : ll_OK1 cX0_look RX0 none false ll_mN ll_mR ll_mK ll_cnt L xs false 46 (.inl (lo_push 47 (.int (-1)))) := lk_iconst (n := (-1)) (by decide +kernel) (by decide)
theorem k_1_47 (L : Nat) (xs : Nat → Int32) : ll_OK1 cX0_look RX0 none false ll_mN ll_mR ll_mK ll_cnt L xs false 47 (.inl (lo_putf 50 0 3 0)) := lk_putf (ix := 9) (ci := 0) (k := 3) (C := RX0) (T := TX0) (N := 7) (ty0 := tyX0) (by decide +kernel) rfl in_0 tyX0_ok nmX0 (by decide) tb_3 (fun B adr v w h1 h2 => ll_fit_int (B := B) (adr := adr) h1 h2) (Or.inl rfl)
theorem k_1_50 (L : Nat) (xs : Nat → Int32) : ll_OK1 cX0_look RX0 none false ll_mN ll_mR ll_mK ll_cnt L xs false 50 (.inl (lo_push 51 (.int 0))) := lk_iconst (n := 0) (by decide +kernel) (by decide)
theorem k_1_51 (L : Nat) (xs : Nat → Int32) : ll_OK1 cX0_look RX0 none false ll_mN ll_mR ll_mK ll_cnt L xs false 51 (.inl (lo_istore 53 4)) := lk_istore (by decide +kernel)
theorem k_1_53 (L : Nat) (xs : Nat → Int32) : ll_OK1 cX0_look RX0 none false ll_mN ll_mR ll_mK ll_cnt L xs false 53 (.inl (lo_iload 55 4)) := lk_iload (by decide +kernel)
theorem k_1_55 (L : Nat) (xs : Nat → Int32) : ll_OK1 cX0_look RX0 none false ll_mN ll_mR ll_mK ll_cnt L xs false 55 (.inl (lo_aload 56 0)) := lk_aload_n (k := 0) (by decide +kernel) rfl
theorem k_1_56 (L : Nat) (xs : Nat → Int32) : ll_OK1 cX0_look RX0 none false ll_mN ll_mR ll_mK ll_cnt L xs false 56 (.inl (lo_getf 59 0 2)) := lk_getf (ix := 28) (ci := 0) (k := 2) (C := RX0) (T := TX0) (N := 7) (by decide +kernel) rfl in_0 (by decide) tb_8
theorem k_1_59 (L : Nat) (xs : Nat → Int32) : ll_OK1 cX0_look RX0 none false ll_mN ll_mR ll_mK ll_cnt L xs false 59 (.inl (lo_getf 62 1 8)) := lk_getf (ix := 35) (ci := 1) (k := 8) (C := RX1) (T := TX1) (N := 12) (by decide +kernel) rfl in_1 (by decide) tb_10
theorem k_1_62 (L : Nat) (xs : Nat → Int32) : ll_OK1 cX0_look RX0 none false ll_mN ll_mR ll_mK ll_cnt L xs false 62 (.inl (lo_cmp 102 65 (fun x y => decide (y ≤ x)))) := lk_icmp_ge (off := 40) (by decide +kernel) rfl
theorem k_1_65 (L : Nat) (xs : Nat → Int32) : ll_OK1 cX0_look RX0 none false ll_mN ll_mR ll_mK ll_cnt L xs false 65 (.inl (lo_aload 66 0)) := lk_aload_n (k := 0) (by decide +kernel) rfl
theorem k_1_66 (L : Nat) (xs : Nat → Int32) : ll_OK1 cX0_look RX0 none false ll_mN ll_mR ll_mK ll_cnt L xs false 66 (.inl (lo_getf 69 0 3)) := lk_getf (ix := 9) (ci := 0) (k := 3) (C := RX0) (T := TX0) (N := 7) (by decide +kernel) rfl in_0 (by decide) tb_3
theorem k_1_69 (L : Nat) (xs : Nat → Int32) : ll_OK1 cX0_look RX0 none false ll_mN ll_mR ll_mK ll_cnt L xs false 69 (.inl (lo_push 70 (.int (-1)))) := lk_iconst (n := (-1)) (by decide +kernel) (by decide)
theorem k_1_70 (L : Nat) (xs : Nat → Int32) : ll_OK1 cX0_look RX0 none false ll_mN ll_mR ll_mK ll_cnt L xs false 70 (.inl (lo_cmp 102 73 (fun x y => decide (¬ x = y)))) := lk_icmp_ne (off := 32) (by decide +kernel) rfl
theorem k_1_73 (L : Nat) (xs : Nat → Int32) : ll_OK1 cX0_look RX0 none false ll_mN ll_mR ll_mK ll_cnt L xs false 73 (.inl (lo_aload 74 0)) := lk_aload_n (k := 0) (by decide +kernel) rfl
theorem k_1_74 (L : Nat) (xs : Nat → Int32) : ll_OK1 cX0_look RX0 none false ll_mN ll_mR ll_mK ll_cnt L xs false 74 (.inl (lo_aload 75 0)) := lk_aload_n (k := 0) (by decide +kernel) rfl
theorem k_1_75 (L : Nat) (xs : Nat → Int32) : ll_OK1 cX0_look RX0 none false ll_mN ll_mR ll_mK ll_cnt L xs false 75 (.inl (lo_iload 77 4)) := lk_iload (by decide +kernel)
theorem k_1_77 (L : Nat) (xs : Nat → Int32) : ll_OK1 cX0_look RX0 none false ll_mN ll_mR ll_mK ll_cnt L xs false 77 (.inr (.inl (3, 2, 80))) := ⟨rfl, by decide, by rw [mN_3, mK_3, mR_3]; exact lj_v 40 1 0 (RX0, TX0, 7) (by decide +kernel) tb_11 tb_12 tb_13 rfl rfl rfl rfl (by decide +kernel)⟩
theorem k_1_80 (L : Nat) (xs : Nat → Int32) : ll_OK1 cX0_look RX0 none false ll_mN ll_mR ll_mK ll_cnt L xs false 80 (.inl (lo_putf 83 0 4 0)) := lk_putf (ix := 32) (ci := 0) (k := 4) (C := RX0) (T := TX0) (N := 7) (ty0 := tyX0) (by decide +kernel) rfl in_0 tyX0_ok nmX0 (by decide) tb_9 (fun B adr v w h1 h2 => ll_fit_int (B := B) (adr := adr) h1 h2) (Or.inl rfl)
theorem k_1_83 (L : Nat) (xs : Nat → Int32) : ll_OK1 cX0_look RX0 none false ll_mN ll_mR ll_mK ll_cnt L xs false 83 (.inl (lo_aload 84 0)) := lk_aload_n (k := 0) (by decide +kernel) rfl
theorem k_1_84 (L : Nat) (xs : Nat → Int32) : ll_OK1 cX0_look RX0 none false ll_mN ll_mR ll_mK ll_cnt L xs false 84 (.inl (lo_getf 87 0 4)) := lk_getf (ix := 32) (ci := 0) (k := 4) (C := RX0) (T := TX0) (N := 7) (by decide +kernel) rfl in_0 (by decide) tb_9
theorem k_1_87 (L : Nat) (xs : Nat → Int32) : ll_OK1 cX0_look RX0 none false ll_mN ll_mR ll_mK ll_cnt L xs false 87 (.inl (lo_if 96 90 (fun x => decide (x = 0)))) := lk_if_eq (off := 9) (by decide +kernel) rfl
theorem k_1_90 (L : Nat) (xs : Nat → Int32) : ll_OK1 cX0_look RX0 none false ll_mN ll_mR ll_mK ll_cnt L xs false 90 (.inl (lo_aload 91 0)) := lk_aload_n (k := 0) (by decide +kernel) rfl
theorem k_1_91 (L : Nat) (xs : Nat → Int32) : ll_OK1 cX0_look RX0 none false ll_mN ll_mR ll_mK ll_cnt L xs false 91 (.inl (lo_iload 93 4)) := lk_iload (by decide +kernel)
theorem k_1_93 (L : Nat) (xs : Nat → Int32) : ll_OK1 cX0_look RX0 none false ll_mN ll_mR ll_mK ll_cnt L xs false 93 (.inl (lo_putf 96 0 3 0)) := lk_putf (ix := 9) (ci := 0) (k := 3) (C := RX0) (T := TX0) (N := 7) (ty0 := tyX0) (by decide +kernel) rfl in_0 tyX0_ok nmX0 (by decide) tb_3 (fun B adr v w h1 h2 => ll_fit_int (B := B) (adr := adr) h1 h2) (Or.inl rfl)
theorem k_1_96 (L : Nat) (xs : Nat → Int32) : ll_OK1 cX0_look RX0 none false ll_mN ll_mR ll_mK ll_cnt L xs false 96 (.inl (lo_iinc 99 4 1)) := lk_iinc (n := 1) (by decide +kernel) (by decide)
theorem k_1_99 (L : Nat) (xs : Nat → Int32) : ll_OK1 cX0_look RX0 none false ll_mN ll_mR ll_mK ll_cnt L xs false 99 (.inl (lo_goto 53)) := lk_goto (off := (-46)) (by decide +kernel) rfl
theorem k_1_102 (L : Nat) (xs : Nat → Int32) : ll_OK1 cX0_look RX0 none false ll_mN ll_mR ll_mK ll_cnt L xs false 102 (.inl (lo_aload 103 0)) := lk_aload_n (k := 0) (by decide +kernel) rfl
theorem k_1_103 (L : Nat) (xs : Nat → Int32) : ll_OK1 cX0_look RX0 none false ll_mN ll_mR ll_mK ll_cnt L xs false 103 (.inl (lo_getf 106 0 3)) := lk_getf (ix := 9) (ci := 0) (k := 3) (C := RX0) (T := TX0) (N := 7) (by decide +kernel) rfl in_0 (by decide) tb_3
theorem k_1_106 (L : Nat) (xs : Nat → Int32) : ll_OK1 cX0_look RX0 none false ll_mN ll_mR ll_mK ll_cnt L xs false 106 (.inl (lo_push 107 (.int (-1)))) := lk_iconst (n := (-1)) (by decide +kernel) (by decide)
theorem k_1_107 (L : Nat) (xs : Nat → Int32) : ll_OK1 cX0_look RX0 none false ll_mN ll_mR ll_mK ll_cnt L xs false 107 (.inl (lo_cmp 128 110 (fun x y => decide (¬ x = y)))) := lk_icmp_ne (off := 21) (by decide +kernel) rfl
theorem k_1_110 (L : Nat) (xs : Nat → Int32) : ll_OK1 cX0_look RX0 none false ll_mN ll_mR ll_mK ll_cnt L xs false 110 (.inl (lo_aload 111 0)) := lk_aload_n (k := 0) (by decide +kernel) rfl
theorem k_1_111 (L : Nat) (xs : Nat → Int32) : ll_OK1 cX0_look RX0 none false ll_mN ll_mR ll_mK ll_cnt L xs false 111 (.inr (.inl (2, 1, 114))) := ⟨rfl, by decide, by rw [mN_2, mK_2, mR_2]; exact lj_v 44 0 0 (RX0, TX0, 7) (by decide +kernel) tb_14 tb_15 tb_16 rfl rfl rfl rfl (by decide +kernel)⟩
theorem k_1_114 (L : Nat) (xs : Nat → Int32) : ll_OK1 cX0_look RX0 none false ll_mN ll_mR ll_mK ll_cnt L xs false 114 (.inl (lo_if 128 117 (fun x => decide (¬ x = 0)))) := lk_if_ne (off := 14) (by decide +kernel) rfl
theorem k_1_117 (L : Nat) (xs : Nat → Int32) : ll_OK1 cX0_look RX0 none false ll_mN ll_mR ll_mK ll_cnt L xs false 117 (.inl (lo_aload 118 0)) := lk_aload_n (k := 0) (by decide +kernel) rfl
theorem k_1_118 (L : Nat) (xs : Nat → Int32) : ll_OK1 cX0_look RX0 none false ll_mN ll_mR ll_mK ll_cnt L xs false 118 (.inl (lo_push 119 (.int 0))) := lk_iconst (n := 0) (by decide +kernel) (by decide)
theorem k_1_119 (L : Nat) (xs : Nat → Int32) : ll_OK1 cX0_look RX0 none false ll_mN ll_mR ll_mK ll_cnt L xs false 119 (.inl (lo_putf 122 0 3 0)) := lk_putf (ix := 9) (ci := 0) (k := 3) (C := RX0) (T := TX0) (N := 7) (ty0 := tyX0) (by decide +kernel) rfl in_0 tyX0_ok nmX0 (by decide) tb_3 (fun B adr v w h1 h2 => ll_fit_int (B := B) (adr := adr) h1 h2) (Or.inl rfl)
theorem k_1_122 (L : Nat) (xs : Nat → Int32) : ll_OK1 cX0_look RX0 none false ll_mN ll_mR ll_mK ll_cnt L xs false 122 (.inl (lo_aload 123 0)) := lk_aload_n (k := 0) (by decide +kernel) rfl
theorem k_1_123 (L : Nat) (xs : Nat → Int32) : ll_OK1 cX0_look RX0 none false ll_mN ll_mR ll_mK ll_cnt L xs false 123 (.inl (lo_push 125 (.int 6))) := lk_bipush (n := 6) (by decide +kernel) (by decide)
theorem k_1_125 (L : Nat) (xs : Nat → Int32) : ll_OK1 cX0_look RX0 none false ll_mN ll_mR ll_mK ll_cnt L xs false 125 (.inl (lo_putf 128 0 4 0)) := lk_putf (ix := 32) (ci := 0) (k := 4) (C := RX0) (T := TX0) (N := 7) (ty0 := tyX0) (by decide +kernel) rfl in_0 tyX0_ok nmX0 (by decide) tb_9 (fun B adr v w h1 h2 => ll_fit_int (B := B) (adr := adr) h1 h2) (Or.inl rfl)
theorem k_1_128 (L : Nat) (xs : Nat → Int32) : ll_OK1 cX0_look RX0 none false ll_mN ll_mR ll_mK ll_cnt L xs false 128 (.inr (.inr 0)) := ⟨fun _ => ⟨(by decide +kernel), rfl⟩, (fun h => by cases h), fun h => by cases h⟩
theorem ok_1 (L : Nat) (xs : Nat → Int32) : ∀ q ∈ cd_1, ll_OK1 cX0_look RX0 none false ll_mN ll_mR ll_mK ll_cnt L xs false q.1 q.2 :=
  List.forall_mem_cons.mpr ⟨k_1_0 L xs, List.forall_mem_cons.mpr ⟨k_1_1 L xs, List.forall_mem_cons.mpr ⟨k_1_2 L xs, List.forall_mem_cons.mpr ⟨k_1_5 L xs, List.forall_mem_cons.mpr ⟨k_1_6 L xs, List.forall_mem_cons.mpr ⟨k_1_7 L xs, List.forall_mem_cons.mpr ⟨k_1_10 L xs, List.forall_mem_cons.mpr ⟨k_1_11 L xs, List.forall_mem_cons.mpr ⟨k_1_12 L xs, List.forall_mem_cons.mpr ⟨k_1_15 L xs, List.forall_mem_cons.mpr ⟨k_1_16 L xs, List.forall_mem_cons.mpr ⟨k_1_17 L xs, List.forall_mem_cons.mpr ⟨k_1_20 L xs, List.forall_mem_cons.mpr ⟨k_1_21 L xs, List.forall_mem_cons.mpr ⟨k_1_22 L xs, List.forall_mem_cons.mpr ⟨k_1_25 L xs, List.forall_mem_cons.mpr ⟨k_1_26 L xs, List.forall_mem_cons.mpr ⟨k_1_27 L xs, List.forall_mem_cons.mpr ⟨k_1_30 L xs, List.forall_mem_cons.mpr ⟨k_1_31 L xs, List.forall_mem_cons.mpr ⟨k_1_32 L xs, List.forall_mem_cons.mpr ⟨k_1_35 L xs, List.forall_mem_cons.mpr ⟨k_1_38 L xs, List.forall_mem_cons.mpr ⟨k_1_41 L xs, List.forall_mem_cons.mpr ⟨k_1_43 L xs, List.forall_mem_cons.mpr ⟨k_1_46 L xs, List.forall_mem_cons.mpr ⟨k_1_47 L xs, List.forall_mem_cons.mpr ⟨k_1_50 L xs, List.forall_mem_cons.mpr ⟨k_1_51 L xs, List.forall_mem_cons.mpr ⟨k_1_53 L xs, List.forall_mem_cons.mpr ⟨k_1_55 L xs, List.forall_mem_cons.mpr ⟨k_1_56 L xs, List.forall_mem_cons.mpr ⟨k_1_59 L xs, List.forall_mem_cons.mpr ⟨k_1_62 L xs, List.forall_mem_cons.mpr ⟨k_1_65 L xs, List.forall_mem_cons.mpr ⟨k_1_66 L xs, List.forall_mem_cons.mpr ⟨k_1_69 L xs, List.forall_mem_cons.mpr ⟨k_1_70 L xs, List.forall_mem_cons.mpr ⟨k_1_73 L xs, List.forall_mem_cons.mpr ⟨k_1_74 L xs, List.forall_mem_cons.mpr ⟨k_1_75 L xs, List.forall_mem_cons.mpr ⟨k_1_77 L xs, List.forall_mem_cons.mpr ⟨k_1_80 L xs, List.forall_mem_cons.mpr ⟨k_1_83 L xs, List.forall_mem_cons.mpr ⟨k_1_84 L xs, List.forall_mem_cons.mpr ⟨k_1_87 L xs, List.forall_mem_cons.mpr ⟨k_1_90 L xs, List.forall_mem_cons.mpr ⟨k_1_91 L xs, List.forall_mem_cons.mpr ⟨k_1_93 L xs, List.forall_mem_cons.mpr ⟨k_1_96 L xs, List.forall_mem_cons.mpr ⟨k_1_99 L xs, List.forall_mem_cons.mpr ⟨k_1_102 L xs, List.forall_mem_cons.mpr ⟨k_1_103 L xs, List.forall_mem_cons.mpr ⟨k_1_106 L xs, List.forall_mem_cons.mpr ⟨k_1_107 L xs, List.forall_mem_cons.mpr ⟨k_1_110 L xs, List.forall_mem_cons.mpr ⟨k_1_111 L xs, List.forall_mem_cons.mpr ⟨k_1_114 L xs, List.forall_mem_cons.mpr ⟨k_1_117 L xs, List.forall_mem_cons.mpr ⟨k_1_118 L xs, List.forall_mem_cons.mpr ⟨k_1_119 L xs, List.forall_mem_cons.mpr ⟨k_1_122 L xs, List.forall_mem_cons.mpr ⟨k_1_123 L xs, List.forall_mem_cons.mpr ⟨k_1_125 L xs, List.forall_mem_cons.mpr ⟨k_1_128 L xs, fun _ h => absurd h List.not_mem_nil⟩⟩⟩⟩⟩⟩⟩⟩⟩⟩⟩⟩⟩⟩⟩⟩⟩⟩⟩⟩⟩⟩⟩⟩⟩⟩⟩⟩⟩⟩⟩⟩⟩⟩⟩⟩⟩⟩⟩⟩⟩⟩⟩⟩⟩⟩⟩⟩⟩⟩⟩⟩⟩⟩⟩⟩⟩⟩⟩⟩⟩⟩⟩⟩⟩
/-- InclusionProver$Kernel.startsWell.()Z -/
def cd_2 : List (Nat × ll_O) := [
  (0, .inl (lo_aload 1 0)),
  (1, .inl (lo_getf 4 0 2)),
  (4, .inl (lo_getf 7 1 0)),
  (7, .inl (lo_push 8 (.int 0))),
  (8, .inl (lo_ald 9 0)),
  (9, .inl (lo_if 41 12 (fun x => decide (¬ x = 0)))),
  (12, .inl (lo_aload 13 0)),
  (13, .inl (lo_getf 16 0 2)),
  (16, .inl (lo_getf 19 1 1)),
  (19, .inl (lo_push 20 (.int 0))),
  (20, .inl (lo_ald 21 0)),
  (21, .inl (lo_if 37 24 (fun x => decide (x = 0)))),
  (24, .inl (lo_aload 25 0)),
  (25, .inl (lo_getf 28 0 2)),
  (28, .inl (lo_getf 31 1 1)),
  (31, .inl (lo_push 32 (.int 0))),
  (32, .inl (lo_ald 33 0)),
  (33, .inl (lo_push 34 (.int 1))),
  (34, .inl (lo_cmp 41 37 (fun x y => decide (¬ x = y)))),
  (37, .inl (lo_push 38 (.int 1))),
  (38, .inl (lo_goto 42)),
  (41, .inl (lo_push 42 (.int 0))),
  (42, .inr (.inr 2))]
theorem k_2_0 (L : Nat) (xs : Nat → Int32) : ll_OK1 cX0_startsWell RX0 (some .boolean) false ll_mN ll_mR ll_mK ll_cnt L xs false 0 (.inl (lo_aload 1 0)) := lk_aload_n (k := 0) (by decide +kernel) rfl
theorem k_2_1 (L : Nat) (xs : Nat → Int32) : ll_OK1 cX0_startsWell RX0 (some .boolean) false ll_mN ll_mR ll_mK ll_cnt L xs false 1 (.inl (lo_getf 4 0 2)) := lk_getf (ix := 28) (ci := 0) (k := 2) (C := RX0) (T := TX0) (N := 7) (by decide +kernel) rfl in_0 (by decide) tb_8
theorem k_2_4 (L : Nat) (xs : Nat → Int32) : ll_OK1 cX0_startsWell RX0 (some .boolean) false ll_mN ll_mR ll_mK ll_cnt L xs false 4 (.inl (lo_getf 7 1 0)) := lk_getf (ix := 48) (ci := 1) (k := 0) (C := RX1) (T := TX1) (N := 12) (by decide +kernel) rfl in_1 (by decide) tb_17
theorem k_2_7 (L : Nat) (xs : Nat → Int32) : ll_OK1 cX0_startsWell RX0 (some .boolean) false ll_mN ll_mR ll_mK ll_cnt L xs false 7 (.inl (lo_push 8 (.int 0))) := lk_iconst (n := 0) (by decide +kernel) (by decide)
theorem k_2_8 (L : Nat) (xs : Nat → Int32) : ll_OK1 cX0_startsWell RX0 (some .boolean) false ll_mN ll_mR ll_mK ll_cnt L xs false 8 (.inl (lo_ald 9 0)) := lk_iald (by decide +kernel)
theorem k_2_9 (L : Nat) (xs : Nat → Int32) : ll_OK1 cX0_startsWell RX0 (some .boolean) false ll_mN ll_mR ll_mK ll_cnt L xs false 9 (.inl (lo_if 41 12 (fun x => decide (¬ x = 0)))) := lk_if_ne (off := 32) (by decide +kernel) rfl
theorem k_2_12 (L : Nat) (xs : Nat → Int32) : ll_OK1 cX0_startsWell RX0 (some .boolean) false ll_mN ll_mR ll_mK ll_cnt L xs false 12 (.inl (lo_aload 13 0)) := lk_aload_n (k := 0) (by decide +kernel) rfl
theorem k_2_13 (L : Nat) (xs : Nat → Int32) : ll_OK1 cX0_startsWell RX0 (some .boolean) false ll_mN ll_mR ll_mK ll_cnt L xs false 13 (.inl (lo_getf 16 0 2)) := lk_getf (ix := 28) (ci := 0) (k := 2) (C := RX0) (T := TX0) (N := 7) (by decide +kernel) rfl in_0 (by decide) tb_8
theorem k_2_16 (L : Nat) (xs : Nat → Int32) : ll_OK1 cX0_startsWell RX0 (some .boolean) false ll_mN ll_mR ll_mK ll_cnt L xs false 16 (.inl (lo_getf 19 1 1)) := lk_getf (ix := 52) (ci := 1) (k := 1) (C := RX1) (T := TX1) (N := 12) (by decide +kernel) rfl in_1 (by decide) tb_18
theorem k_2_19 (L : Nat) (xs : Nat → Int32) : ll_OK1 cX0_startsWell RX0 (some .boolean) false ll_mN ll_mR ll_mK ll_cnt L xs false 19 (.inl (lo_push 20 (.int 0))) := lk_iconst (n := 0) (by decide +kernel) (by decide)
theorem k_2_20 (L : Nat) (xs : Nat → Int32) : ll_OK1 cX0_startsWell RX0 (some .boolean) false ll_mN ll_mR ll_mK ll_cnt L xs false 20 (.inl (lo_ald 21 0)) := lk_iald (by decide +kernel)
theorem k_2_21 (L : Nat) (xs : Nat → Int32) : ll_OK1 cX0_startsWell RX0 (some .boolean) false ll_mN ll_mR ll_mK ll_cnt L xs false 21 (.inl (lo_if 37 24 (fun x => decide (x = 0)))) := lk_if_eq (off := 16) (by decide +kernel) rfl
theorem k_2_24 (L : Nat) (xs : Nat → Int32) : ll_OK1 cX0_startsWell RX0 (some .boolean) false ll_mN ll_mR ll_mK ll_cnt L xs false 24 (.inl (lo_aload 25 0)) := lk_aload_n (k := 0) (by decide +kernel) rfl
theorem k_2_25 (L : Nat) (xs : Nat → Int32) : ll_OK1 cX0_startsWell RX0 (some .boolean) false ll_mN ll_mR ll_mK ll_cnt L xs false 25 (.inl (lo_getf 28 0 2)) := lk_getf (ix := 28) (ci := 0) (k := 2) (C := RX0) (T := TX0) (N := 7) (by decide +kernel) rfl in_0 (by decide) tb_8
theorem k_2_28 (L : Nat) (xs : Nat → Int32) : ll_OK1 cX0_startsWell RX0 (some .boolean) false ll_mN ll_mR ll_mK ll_cnt L xs false 28 (.inl (lo_getf 31 1 1)) := lk_getf (ix := 52) (ci := 1) (k := 1) (C := RX1) (T := TX1) (N := 12) (by decide +kernel) rfl in_1 (by decide) tb_18
theorem k_2_31 (L : Nat) (xs : Nat → Int32) : ll_OK1 cX0_startsWell RX0 (some .boolean) false ll_mN ll_mR ll_mK ll_cnt L xs false 31 (.inl (lo_push 32 (.int 0))) := lk_iconst (n := 0) (by decide +kernel) (by decide)
theorem k_2_32 (L : Nat) (xs : Nat → Int32) : ll_OK1 cX0_startsWell RX0 (some .boolean) false ll_mN ll_mR ll_mK ll_cnt L xs false 32 (.inl (lo_ald 33 0)) := lk_iald (by decide +kernel)
theorem k_2_33 (L : Nat) (xs : Nat → Int32) : ll_OK1 cX0_startsWell RX0 (some .boolean) false ll_mN ll_mR ll_mK ll_cnt L xs false 33 (.inl (lo_push 34 (.int 1))) := lk_iconst (n := 1) (by decide +kernel) (by decide)
theorem k_2_34 (L : Nat) (xs : Nat → Int32) : ll_OK1 cX0_startsWell RX0 (some .boolean) false ll_mN ll_mR ll_mK ll_cnt L xs false 34 (.inl (lo_cmp 41 37 (fun x y => decide (¬ x = y)))) := lk_icmp_ne (off := 7) (by decide +kernel) rfl
theorem k_2_37 (L : Nat) (xs : Nat → Int32) : ll_OK1 cX0_startsWell RX0 (some .boolean) false ll_mN ll_mR ll_mK ll_cnt L xs false 37 (.inl (lo_push 38 (.int 1))) := lk_iconst (n := 1) (by decide +kernel) (by decide)
theorem k_2_38 (L : Nat) (xs : Nat → Int32) : ll_OK1 cX0_startsWell RX0 (some .boolean) false ll_mN ll_mR ll_mK ll_cnt L xs false 38 (.inl (lo_goto 42)) := lk_goto (off := 4) (by decide +kernel) rfl
theorem k_2_41 (L : Nat) (xs : Nat → Int32) : ll_OK1 cX0_startsWell RX0 (some .boolean) false ll_mN ll_mR ll_mK ll_cnt L xs false 41 (.inl (lo_push 42 (.int 0))) := lk_iconst (n := 0) (by decide +kernel) (by decide)
theorem k_2_42 (L : Nat) (xs : Nat → Int32) : ll_OK1 cX0_startsWell RX0 (some .boolean) false ll_mN ll_mR ll_mK ll_cnt L xs false 42 (.inr (.inr 2)) := ⟨(fun h => by cases h), (fun h => by cases h), fun _ => ⟨(by decide +kernel), rfl⟩⟩
theorem ok_2 (L : Nat) (xs : Nat → Int32) : ∀ q ∈ cd_2, ll_OK1 cX0_startsWell RX0 (some .boolean) false ll_mN ll_mR ll_mK ll_cnt L xs false q.1 q.2 :=
  List.forall_mem_cons.mpr ⟨k_2_0 L xs, List.forall_mem_cons.mpr ⟨k_2_1 L xs, List.forall_mem_cons.mpr ⟨k_2_4 L xs, List.forall_mem_cons.mpr ⟨k_2_7 L xs, List.forall_mem_cons.mpr ⟨k_2_8 L xs, List.forall_mem_cons.mpr ⟨k_2_9 L xs, List.forall_mem_cons.mpr ⟨k_2_12 L xs, List.forall_mem_cons.mpr ⟨k_2_13 L xs, List.forall_mem_cons.mpr ⟨k_2_16 L xs, List.forall_mem_cons.mpr ⟨k_2_19 L xs, List.forall_mem_cons.mpr ⟨k_2_20 L xs, List.forall_mem_cons.mpr ⟨k_2_21 L xs, List.forall_mem_cons.mpr ⟨k_2_24 L xs, List.forall_mem_cons.mpr ⟨k_2_25 L xs, List.forall_mem_cons.mpr ⟨k_2_28 L xs, List.forall_mem_cons.mpr ⟨k_2_31 L xs, List.forall_mem_cons.mpr ⟨k_2_32 L xs, List.forall_mem_cons.mpr ⟨k_2_33 L xs, List.forall_mem_cons.mpr ⟨k_2_34 L xs, List.forall_mem_cons.mpr ⟨k_2_37 L xs, List.forall_mem_cons.mpr ⟨k_2_38 L xs, List.forall_mem_cons.mpr ⟨k_2_41 L xs, List.forall_mem_cons.mpr ⟨k_2_42 L xs, fun _ h => absurd h List.not_mem_nil⟩⟩⟩⟩⟩⟩⟩⟩⟩⟩⟩⟩⟩⟩⟩⟩⟩⟩⟩⟩⟩⟩⟩
/-- InclusionProver$Kernel.reasonOf.(I)I -/
def cd_3 : List (Nat × ll_O) := [
  (0, .inl (lo_aload 1 0)),
  (1, .inl (lo_getf 4 0 2)),
  (4, .inl (lo_getf 7 1 0)),
  (7, .inl (lo_iload 8 1)),
  (8, .inl (lo_ald 9 0)),
  (9, .inl (lo_istore 10 2)),
  (10, .inl (lo_aload 11 0)),
  (11, .inl (lo_getf 14 0 2)),
  (14, .inl (lo_getf 17 1 1)),
  (17, .inl (lo_iload 18 1)),
  (18, .inl (lo_ald 19 0)),
  (19, .inl (lo_istore 20 3)),
  (20, .inl (lo_aload 21 0)),
  (21, .inl (lo_getf 24 0 2)),
  (24, .inl (lo_getf 27 1 2)),
  (27, .inl (lo_iload 28 1)),
  (28, .inl (lo_ald 29 0)),
  (29, .inl (lo_istore 31 4)),
  (31, .inl (lo_aload 32 0)),
  (32, .inl (lo_getf 35 0 0)),
  (35, .inl (lo_iload 36 2)),
  (36, .inr (.inl (45, 2, 39))),
  (39, .inl (lo_if 64 42 (fun x => decide (x = 0)))),
  (42, .inl (lo_aload 43 0)),
  (43, .inl (lo_getf 46 0 1)),
  (46, .inl (lo_iload 47 3)),
  (47, .inr (.inl (46, 2, 50))),
  (50, .inl (lo_if 64 53 (fun x => decide (x = 0)))),
  (53, .inl (lo_iload 55 4)),
  (55, .inl (lo_if 66 58 (fun x => decide (x = 0)))),
  (58, .inl (lo_iload 60 4)),
  (60, .inl (lo_push 61 (.int 1))),
  (61, .inl (lo_cmp 66 64 (fun x y => decide (x = y)))),
  (64, .inl (lo_push 65 (.int 1))),
  (65, .inr (.inr 1)),
  (66, .inl (lo_iload 68 4)),
  (68, .inl (lo_if 86 71 (fun x => decide (¬ x = 0)))),
  (71, .inl (lo_aload 72 0)),
  (72, .inl (lo_iload 73 2)),
  (73, .inl (lo_iload 74 3)),
  (74, .inr (.inl (4, 3, 77))),
  (77, .inl (lo_if 84 80 (fun x => decide (x = 0)))),
  (80, .inl (lo_push 81 (.int 0))),
  (81, .inl (lo_goto 85)),
  (84, .inl (lo_push 85 (.int 2))),
  (85, .inr (.inr 1)),
  (86, .inl (lo_aload 87 0)),
  (87, .inl (lo_getf 90 0 0)),
  (90, .inl (lo_push 91 (.int 1))),
  (91, .inl (lo_iload 92 2)),
  (92, .inl (lo_bin 93 (fun x y => x <<< (y &&& 31)))),
  (93, .inr (.inl (47, 2, 96))),
  (96, .inl (lo_if 112 99 (fun x => decide (x = 0)))),
  (99, .inl (lo_aload 100 0)),
  (100, .inl (lo_getf 103 0 1)),
  (103, .inl (lo_iload 104 3)),
  (104, .inr (.inl (47, 2, 107))),
  (107, .inl (lo_if 112 110 (fun x => decide (¬ x = 0)))),
  (110, .inl (lo_push 111 (.int 3))),
  (111, .inr (.inr 1)),
  (112, .inl (lo_aload 113 0)),
  (113, .inl (lo_iload 114 1)),
  (114, .inr (.inl (5, 2, 117))),
  (117, .inl (lo_if 122 120 (fun x => decide (¬ x = 0)))),
  (120, .inl (lo_push 121 (.int 4))),
  (121, .inr (.inr 1)),
  (122, .inl (lo_aload 123 0)),
  (123, .inl (lo_iload 124 1)),
  (124, .inl (lo_iload 125 2)),
  (125, .inl (lo_iload 126 3)),
  (126, .inr (.inl (6, 4, 129))),
  (129, .inl (lo_if 136 132 (fun x => decide (x = 0)))),
  (132, .inl (lo_push 133 (.int 0))),
  (133, .inl (lo_goto 137)),
  (136, .inl (lo_push 137 (.int 5))),
  (137, .inr (.inr 1))]
theorem k_3_0 (L : Nat) (xs : Nat → Int32) : ll_OK1 cX0_reasonOf RX0 (some .int) false ll_mN ll_mR ll_mK ll_cnt L xs false 0 (.inl (lo_aload 1 0)) := lk_aload_n (k := 0) (by decide +kernel) rfl
theorem k_3_1 (L : Nat) (xs : Nat → Int32) : ll_OK1 cX0_reasonOf RX0 (some .int) false ll_mN ll_mR ll_mK ll_cnt L xs false 1 (.inl (lo_getf 4 0 2)) := lk_getf (ix := 28) (ci := 0) (k := 2) (C := RX0) (T := TX0) (N := 7) (by decide +kernel) rfl in_0 (by decide) tb_8
theorem k_3_4 (L : Nat) (xs : Nat → Int32) : ll_OK1 cX0_reasonOf RX0 (some .int) false ll_mN ll_mR ll_mK ll_cnt L xs false 4 (.inl (lo_getf 7 1 0)) := lk_getf (ix := 48) (ci := 1) (k := 0) (C := RX1) (T := TX1) (N := 12) (by decide +kernel) rfl in_1 (by decide) tb_17
theorem k_3_7 (L : Nat) (xs : Nat → Int32) : ll_OK1 cX0_reasonOf RX0 (some .int) false ll_mN ll_mR ll_mK ll_cnt L xs false 7 (.inl (lo_iload 8 1)) := lk_iload_n (k := 1) (by decide +kernel) rfl
theorem k_3_8 (L : Nat) (xs : Nat → Int32) : ll_OK1 cX0_reasonOf RX0 (some .int) false ll_mN ll_mR ll_mK ll_cnt L xs false 8 (.inl (lo_ald 9 0)) := lk_iald (by decide +kernel)
theorem k_3_9 (L : Nat) (xs : Nat → Int32) : ll_OK1 cX0_reasonOf RX0 (some .int) false ll_mN ll_mR ll_mK ll_cnt L xs false 9 (.inl (lo_istore 10 2)) := lk_istore_n (k := 2) (by decide +kernel) rfl
theorem k_3_10 (L : Nat) (xs : Nat → Int32) : ll_OK1 cX0_reasonOf RX0 (some .int) false ll_mN ll_mR ll_mK ll_cnt L xs false 10 (.inl (lo_aload 11 0)) := lk_aload_n (k := 0) (by decide +kernel) rfl
theorem k_3_11 (L : Nat) (xs : Nat → Int32) : ll_OK1 cX0_reasonOf RX0 (some .int) false ll_mN ll_mR ll_mK ll_cnt L xs false 11 (.inl (lo_getf 14 0 2)) := lk_getf (ix := 28) (ci := 0) (k := 2) (C := RX0) (T := TX0) (N := 7) (by decide +kernel) rfl in_0 (by decide) tb_8
theorem k_3_14 (L : Nat) (xs : Nat → Int32) : ll_OK1 cX0_reasonOf RX0 (some .int) false ll_mN ll_mR ll_mK ll_cnt L xs false 14 (.inl (lo_getf 17 1 1)) := lk_getf (ix := 52) (ci := 1) (k := 1) (C := RX1) (T := TX1) (N := 12) (by decide +kernel) rfl in_1 (by decide) tb_18
theorem k_3_17 (L : Nat) (xs : Nat → Int32) : ll_OK1 cX0_reasonOf RX0 (some .int) false ll_mN ll_mR ll_mK ll_cnt L xs false 17 (.inl (lo_iload 18 1)) := lk_iload_n (k := 1) (by decide +kernel) rfl
theorem k_3_18 (L : Nat) (xs : Nat → Int32) : ll_OK1 cX0_reasonOf RX0 (some .int) false ll_mN ll_mR ll_mK ll_cnt L xs false 18 (.inl (lo_ald 19 0)) := lk_iald (by decide +kernel)
theorem k_3_19 (L : Nat) (xs : Nat → Int32) : ll_OK1 cX0_reasonOf RX0 (some .int) false ll_mN ll_mR ll_mK ll_cnt L xs false 19 (.inl (lo_istore 20 3)) := lk_istore_n (k := 3) (by decide +kernel) rfl
theorem k_3_20 (L : Nat) (xs : Nat → Int32) : ll_OK1 cX0_reasonOf RX0 (some .int) false ll_mN ll_mR ll_mK ll_cnt L xs false 20 (.inl (lo_aload 21 0)) := lk_aload_n (k := 0) (by decide +kernel) rfl
theorem k_3_21 (L : Nat) (xs : Nat → Int32) : ll_OK1 cX0_reasonOf RX0 (some .int) false ll_mN ll_mR ll_mK ll_cnt L xs false 21 (.inl (lo_getf 24 0 2)) := lk_getf (ix := 28) (ci := 0) (k := 2) (C := RX0) (T := TX0) (N := 7) (by decide +kernel) rfl in_0 (by decide) tb_8
theorem k_3_24 (L : Nat) (xs : Nat → Int32) : ll_OK1 cX0_reasonOf RX0 (some .int) false ll_mN ll_mR ll_mK ll_cnt L xs false 24 (.inl (lo_getf 27 1 2)) := lk_getf (ix := 55) (ci := 1) (k := 2) (C := RX1) (T := TX1) (N := 12) (by decide +kernel) rfl in_1 (by decide) tb_19
theorem k_3_27 (L : Nat) (xs : Nat → Int32) : ll_OK1 cX0_reasonOf RX0 (some .int) false ll_mN ll_mR ll_mK ll_cnt L xs false 27 (.inl (lo_iload 28 1)) := lk_iload_n (k := 1) (by decide +kernel) rfl
theorem k_3_28 (L : Nat) (xs : Nat → Int32) : ll_OK1 cX0_reasonOf RX0 (some .int) false ll_mN ll_mR ll_mK ll_cnt L xs false 28 (.inl (lo_ald 29 0)) := lk_iald (by decide +kernel)
theorem k_3_29 (L : Nat) (xs : Nat → Int32) : ll_OK1 cX0_reasonOf RX0 (some .int) false ll_mN ll_mR ll_mK ll_cnt L xs false 29 (.inl (lo_istore 31 4)) := lk_istore (by decide +kernel)
theorem k_3_31 (L : Nat) (xs : Nat → Int32) : ll_OK1 cX0_reasonOf RX0 (some .int) false ll_mN ll_mR ll_mK ll_cnt L xs false 31 (.inl (lo_aload 32 0)) := lk_aload_n (k := 0) (by decide +kernel) rfl
theorem k_3_32 (L : Nat) (xs : Nat → Int32) : ll_OK1 cX0_reasonOf RX0 (some .int) false ll_mN ll_mR ll_mK ll_cnt L xs false 32 (.inl (lo_getf 35 0 0)) := lk_getf (ix := 21) (ci := 0) (k := 0) (C := RX0) (T := TX0) (N := 7) (by decide +kernel) rfl in_0 (by decide) tb_6
theorem k_3_35 (L : Nat) (xs : Nat → Int32) : ll_OK1 cX0_reasonOf RX0 (some .int) false ll_mN ll_mR ll_mK ll_cnt L xs false 35 (.inl (lo_iload 36 2)) := lk_iload_n (k := 2) (by decide +kernel) rfl
theorem k_3_36 (L : Nat) (xs : Nat → Int32) : ll_OK1 cX0_reasonOf RX0 (some .int) false ll_mN ll_mR ll_mK ll_cnt L xs false 36 (.inr (.inl (45, 2, 39))) := ⟨rfl, by decide, by rw [mN_45, mK_45, mR_45]; exact lj_v 58 1 5 (RX5, TX5, 11) (by decide +kernel) tb_20 tb_21 tb_22 rfl rfl rfl rfl (by decide +kernel)⟩
theorem k_3_39 (L : Nat) (xs : Nat → Int32) : ll_OK1 cX0_reasonOf RX0 (some .int) false ll_mN ll_mR ll_mK ll_cnt L xs false 39 (.inl (lo_if 64 42 (fun x => decide (x = 0)))) := lk_if_eq (off := 25) (by decide +kernel) rfl
theorem k_3_42 (L : Nat) (xs : Nat → Int32) : ll_OK1 cX0_reasonOf RX0 (some .int) false ll_mN ll_mR ll_mK ll_cnt L xs false 42 (.inl (lo_aload 43 0)) := lk_aload_n (k := 0) (by decide +kernel) rfl
theorem k_3_43 (L : Nat) (xs : Nat → Int32) : ll_OK1 cX0_reasonOf RX0 (some .int) false ll_mN ll_mR ll_mK ll_cnt L xs false 43 (.inl (lo_getf 46 0 1)) := lk_getf (ix := 25) (ci := 0) (k := 1) (C := RX0) (T := TX0) (N := 7) (by decide +kernel) rfl in_0 (by decide) tb_7
theorem k_3_46 (L : Nat) (xs : Nat → Int32) : ll_OK1 cX0_reasonOf RX0 (some .int) false ll_mN ll_mR ll_mK ll_cnt L xs false 46 (.inl (lo_iload 47 3)) := lk_iload_n (k := 3) (by decide +kernel) rfl
theorem k_3_47 (L : Nat) (xs : Nat → Int32) : ll_OK1 cX0_reasonOf RX0 (some .int) false ll_mN ll_mR ll_mK ll_cnt L xs false 47 (.inr (.inl (46, 2, 50))) := ⟨rfl, by decide, by rw [mN_46, mK_46, mR_46]; exact lj_v 64 1 5 (RX5, TX5, 11) (by decide +kernel) tb_23 tb_24 tb_25 rfl rfl rfl rfl (by decide +kernel)⟩
theorem k_3_50 (L : Nat) (xs : Nat → Int32) : ll_OK1 cX0_reasonOf RX0 (some .int) false ll_mN ll_mR ll_mK ll_cnt L xs false 50 (.inl (lo_if 64 53 (fun x => decide (x = 0)))) := lk_if_eq (off := 14) (by decide +kernel) rfl
theorem k_3_53 (L : Nat) (xs : Nat → Int32) : ll_OK1 cX0_reasonOf RX0 (some .int) false ll_mN ll_mR ll_mK ll_cnt L xs false 53 (.inl (lo_iload 55 4)) := lk_iload (by decide +kernel)
theorem k_3_55 (L : Nat) (xs : Nat → Int32) : ll_OK1 cX0_reasonOf RX0 (some .int) false ll_mN ll_mR ll_mK ll_cnt L xs false 55 (.inl (lo_if 66 58 (fun x => decide (x = 0)))) := lk_if_eq (off := 11) (by decide +kernel) rfl
theorem k_3_58 (L : Nat) (xs : Nat → Int32) : ll_OK1 cX0_reasonOf RX0 (some .int) false ll_mN ll_mR ll_mK ll_cnt L xs false 58 (.inl (lo_iload 60 4)) := lk_iload (by decide +kernel)
theorem k_3_60 (L : Nat) (xs : Nat → Int32) : ll_OK1 cX0_reasonOf RX0 (some .int) false ll_mN ll_mR ll_mK ll_cnt L xs false 60 (.inl (lo_push 61 (.int 1))) := lk_iconst (n := 1) (by decide +kernel) (by decide)
theorem k_3_61 (L : Nat) (xs : Nat → Int32) : ll_OK1 cX0_reasonOf RX0 (some .int) false ll_mN ll_mR ll_mK ll_cnt L xs false 61 (.inl (lo_cmp 66 64 (fun x y => decide (x = y)))) := lk_icmp_eq (off := 5) (by decide +kernel) rfl
theorem k_3_64 (L : Nat) (xs : Nat → Int32) : ll_OK1 cX0_reasonOf RX0 (some .int) false ll_mN ll_mR ll_mK ll_cnt L xs false 64 (.inl (lo_push 65 (.int 1))) := lk_iconst (n := 1) (by decide +kernel) (by decide)
theorem k_3_65 (L : Nat) (xs : Nat → Int32) : ll_OK1 cX0_reasonOf RX0 (some .int) false ll_mN ll_mR ll_mK ll_cnt L xs false 65 (.inr (.inr 1)) := ⟨(fun h => by cases h), (fun _ => ⟨(by decide +kernel), rfl⟩), fun h => by cases h⟩
theorem k_3_66 (L : Nat) (xs : Nat → Int32) : ll_OK1 cX0_reasonOf RX0 (some .int) false ll_mN ll_mR ll_mK ll_cnt L xs false 66 (.inl (lo_iload 68 4)) := lk_iload (by decide +kernel)
theorem k_3_68 (L : Nat) (xs : Nat → Int32) : ll_OK1 cX0_reasonOf RX0 (some .int) false ll_mN ll_mR ll_mK ll_cnt L xs false 68 (.inl (lo_if 86 71 (fun x => decide (¬ x = 0)))) := lk_if_ne (off := 18) (by decide +kernel) rfl
theorem k_3_71 (L : Nat) (xs : Nat → Int32) : ll_OK1 cX0_reasonOf RX0 (some .int) false ll_mN ll_mR ll_mK ll_cnt L xs false 71 (.inl (lo_aload 72 0)) := lk_aload_n (k := 0) (by decide +kernel) rfl
theorem k_3_72 (L : Nat) (xs : Nat → Int32) : ll_OK1 cX0_reasonOf RX0 (some .int) false ll_mN ll_mR ll_mK ll_cnt L xs false 72 (.inl (lo_iload 73 2)) := lk_iload_n (k := 2) (by decide +kernel) rfl
theorem k_3_73 (L : Nat) (xs : Nat → Int32) : ll_OK1 cX0_reasonOf RX0 (some .int) false ll_mN ll_mR ll_mK ll_cnt L xs false 73 (.inl (lo_iload 74 3)) := lk_iload_n (k := 3) (by decide +kernel) rfl
theorem k_3_74 (L : Nat) (xs : Nat → Int32) : ll_OK1 cX0_reasonOf RX0 (some .int) false ll_mN ll_mR ll_mK ll_cnt L xs false 74 (.inr (.inl (4, 3, 77))) := ⟨rfl, by decide, by rw [mN_4, mK_4, mR_4]; exact lj_v 67 2 0 (RX0, TX0, 7) (by decide +kernel) tb_26 tb_27 tb_28 rfl rfl rfl rfl (by decide +kernel)⟩
theorem k_3_77 (L : Nat) (xs : Nat → Int32) : ll_OK1 cX0_reasonOf RX0 (some .int) false ll_mN ll_mR ll_mK ll_cnt L xs false 77 (.inl (lo_if 84 80 (fun x => decide (x = 0)))) := lk_if_eq (off := 7) (by decide +kernel) rfl
theorem k_3_80 (L : Nat) (xs : Nat → Int32) : ll_OK1 cX0_reasonOf RX0 (some .int) false ll_mN ll_mR ll_mK ll_cnt L xs false 80 (.inl (lo_push 81 (.int 0))) := lk_iconst (n := 0) (by decide +kernel) (by decide)
theorem k_3_81 (L : Nat) (xs : Nat → Int32) : ll_OK1 cX0_reasonOf RX0 (some .int) false ll_mN ll_mR ll_mK ll_cnt L xs false 81 (.inl (lo_goto 85)) := lk_goto (off := 4) (by decide +kernel) rfl
theorem k_3_84 (L : Nat) (xs : Nat → Int32) : ll_OK1 cX0_reasonOf RX0 (some .int) false ll_mN ll_mR ll_mK ll_cnt L xs false 84 (.inl (lo_push 85 (.int 2))) := lk_iconst (n := 2) (by decide +kernel) (by decide)
theorem k_3_85 (L : Nat) (xs : Nat → Int32) : ll_OK1 cX0_reasonOf RX0 (some .int) false ll_mN ll_mR ll_mK ll_cnt L xs false 85 (.inr (.inr 1)) := ⟨(fun h => by cases h), (fun _ => ⟨(by decide +kernel), rfl⟩), fun h => by cases h⟩
theorem k_3_86 (L : Nat) (xs : Nat → Int32) : ll_OK1 cX0_reasonOf RX0 (some .int) false ll_mN ll_mR ll_mK ll_cnt L xs false 86 (.inl (lo_aload 87 0)) := lk_aload_n (k := 0) (by decide +kernel) rfl
theorem k_3_87 (L : Nat) (xs : Nat → Int32) : ll_OK1 cX0_reasonOf RX0 (some .int) false ll_mN ll_mR ll_mK ll_cnt L xs false 87 (.inl (lo_getf 90 0 0)) := lk_getf (ix := 21) (ci := 0) (k := 0) (C := RX0) (T := TX0) (N := 7) (by decide +kernel) rfl in_0 (by decide) tb_6
theorem k_3_90 (L : Nat) (xs : Nat → Int32) : ll_OK1 cX0_reasonOf RX0 (some .int) false ll_mN ll_mR ll_mK ll_cnt L xs false 90 (.inl (lo_push 91 (.int 1))) := lk_iconst (n := 1) (by decide +kernel) (by decide)
theorem k_3_91 (L : Nat) (xs : Nat → Int32) : ll_OK1 cX0_reasonOf RX0 (some .int) false ll_mN ll_mR ll_mK ll_cnt L xs false 91 (.inl (lo_iload 92 2)) := lk_iload_n (k := 2) (by decide +kernel) rfl
theorem k_3_92 (L : Nat) (xs : Nat → Int32) : ll_OK1 cX0_reasonOf RX0 (some .int) false ll_mN ll_mR ll_mK ll_cnt L xs false 92 (.inl (lo_bin 93 (fun x y => x <<< (y &&& 31)))) := lk_ishl (by decide +kernel)
theorem k_3_93 (L : Nat) (xs : Nat → Int32) : ll_OK1 cX0_reasonOf RX0 (some .int) false ll_mN ll_mR ll_mK ll_cnt L xs false 93 (.inr (.inl (47, 2, 96))) := ⟨rfl, by decide, by rw [mN_47, mK_47, mR_47]; exact lj_v 71 1 5 (RX5, TX5, 11) (by decide +kernel) tb_29 tb_30 tb_31 rfl rfl rfl rfl (by decide +kernel)⟩
theorem k_3_96 (L : Nat) (xs : Nat → Int32) : ll_OK1 cX0_reasonOf RX0 (some .int) false ll_mN ll_mR ll_mK ll_cnt L xs false 96 (.inl (lo_if 112 99 (fun x => decide (x = 0)))) := lk_if_eq (off := 16) (by decide +kernel) rfl
theorem k_3_99 (L : Nat) (xs : Nat → Int32) : ll_OK1 cX0_reasonOf RX0 (some .int) false ll_mN ll_mR ll_mK ll_cnt L xs false 99 (.inl (lo_aload 100 0)) := lk_aload_n (k := 0) (by decide +kernel) rfl
theorem k_3_100 (L : Nat) (xs : Nat → Int32) : ll_OK1 cX0_reasonOf RX0 (some .int) false ll_mN ll_mR ll_mK ll_cnt L xs false 100 (.inl (lo_getf 103 0 1)) := lk_getf (ix := 25) (ci := 0) (k := 1) (C := RX0) (T := TX0) (N := 7) (by decide +kernel) rfl in_0 (by decide) tb_7
theorem k_3_103 (L : Nat) (xs : Nat → Int32) : ll_OK1 cX0_reasonOf RX0 (some .int) false ll_mN ll_mR ll_mK ll_cnt L xs false 103 (.inl (lo_iload 104 3)) := lk_iload_n (k := 3) (by decide +kernel) rfl
theorem k_3_104 (L : Nat) (xs : Nat → Int32) : ll_OK1 cX0_reasonOf RX0 (some .int) false ll_mN ll_mR ll_mK ll_cnt L xs false 104 (.inr (.inl (47, 2, 107))) := ⟨rfl, by decide, by rw [mN_47, mK_47, mR_47]; exact lj_v 71 1 5 (RX5, TX5, 11) (by decide +kernel) tb_29 tb_30 tb_31 rfl rfl rfl rfl (by decide +kernel)⟩
theorem k_3_107 (L : Nat) (xs : Nat → Int32) : ll_OK1 cX0_reasonOf RX0 (some .int) false ll_mN ll_mR ll_mK ll_cnt L xs false 107 (.inl (lo_if 112 110 (fun x => decide (¬ x = 0)))) := lk_if_ne (off := 5) (by decide +kernel) rfl
theorem k_3_110 (L : Nat) (xs : Nat → Int32) : ll_OK1 cX0_reasonOf RX0 (some .int) false ll_mN ll_mR ll_mK ll_cnt L xs false 110 (.inl (lo_push 111 (.int 3))) := lk_iconst (n := 3) (by decide +kernel) (by decide)
theorem k_3_111 (L : Nat) (xs : Nat → Int32) : ll_OK1 cX0_reasonOf RX0 (some .int) false ll_mN ll_mR ll_mK ll_cnt L xs false 111 (.inr (.inr 1)) := ⟨(fun h => by cases h), (fun _ => ⟨(by decide +kernel), rfl⟩), fun h => by cases h⟩
theorem k_3_112 (L : Nat) (xs : Nat → Int32) : ll_OK1 cX0_reasonOf RX0 (some .int) false ll_mN ll_mR ll_mK ll_cnt L xs false 112 (.inl (lo_aload 113 0)) := lk_aload_n (k := 0) (by decide +kernel) rfl
theorem k_3_113 (L : Nat) (xs : Nat → Int32) : ll_OK1 cX0_reasonOf RX0 (some .int) false ll_mN ll_mR ll_mK ll_cnt L xs false 113 (.inl (lo_iload 114 1)) := lk_iload_n (k := 1) (by decide +kernel) rfl
theorem k_3_114 (L : Nat) (xs : Nat → Int32) : ll_OK1 cX0_reasonOf RX0 (some .int) false ll_mN ll_mR ll_mK ll_cnt L xs false 114 (.inr (.inl (5, 2, 117))) := ⟨rfl, by decide, by rw [mN_5, mK_5, mR_5]; exact lj_v 74 1 0 (RX0, TX0, 7) (by decide +kernel) tb_32 tb_33 tb_34 rfl rfl rfl rfl (by decide +kernel)⟩
theorem k_3_117 (L : Nat) (xs : Nat → Int32) : ll_OK1 cX0_reasonOf RX0 (some .int) false ll_mN ll_mR ll_mK ll_cnt L xs false 117 (.inl (lo_if 122 120 (fun x => decide (¬ x = 0)))) := lk_if_ne (off := 5) (by decide +kernel) rfl
theorem k_3_120 (L : Nat) (xs : Nat → Int32) : ll_OK1 cX0_reasonOf RX0 (some .int) false ll_mN ll_mR ll_mK ll_cnt L xs false 120 (.inl (lo_push 121 (.int 4))) := lk_iconst (n := 4) (by decide +kernel) (by decide)
theorem k_3_121 (L : Nat) (xs : Nat → Int32) : ll_OK1 cX0_reasonOf RX0 (some .int) false ll_mN ll_mR ll_mK ll_cnt L xs false 121 (.inr (.inr 1)) := ⟨(fun h => by cases h), (fun _ => ⟨(by decide +kernel), rfl⟩), fun h => by cases h⟩
theorem k_3_122 (L : Nat) (xs : Nat → Int32) : ll_OK1 cX0_reasonOf RX0 (some .int) false ll_mN ll_mR ll_mK ll_cnt L xs false 122 (.inl (lo_aload 123 0)) := lk_aload_n (k := 0) (by decide +kernel) rfl
theorem k_3_123 (L : Nat) (xs : Nat → Int32) : ll_OK1 cX0_reasonOf RX0 (some .int) false ll_mN ll_mR ll_mK ll_cnt L xs false 123 (.inl (lo_iload 124 1)) := lk_iload_n (k := 1) (by decide +kernel) rfl
theorem k_3_124 (L : Nat) (xs : Nat → Int32) : ll_OK1 cX0_reasonOf RX0 (some .int) false ll_mN ll_mR ll_mK ll_cnt L xs false 124 (.inl (lo_iload 125 2)) := lk_iload_n (k := 2) (by decide +kernel) rfl
theorem k_3_125 (L : Nat) (xs : Nat → Int32) : ll_OK1 cX0_reasonOf RX0 (some .int) false ll_mN ll_mR ll_mK ll_cnt L xs false 125 (.inl (lo_iload 126 3)) := lk_iload_n (k := 3) (by decide +kernel) rfl
theorem k_3_126 (L : Nat) (xs : Nat → Int32) : ll_OK1 cX0_reasonOf RX0 (some .int) false ll_mN ll_mR ll_mK ll_cnt L xs false 126 (.inr (.inl (6, 4, 129))) := ⟨rfl, by decide, by rw [mN_6, mK_6, mR_6]; exact lj_v 77 3 0 (RX0, TX0, 7) (by decide +kernel) tb_35 tb_36 tb_37 rfl rfl rfl rfl (by decide +kernel)⟩
theorem k_3_129 (L : Nat) (xs : Nat → Int32) : ll_OK1 cX0_reasonOf RX0 (some .int) false ll_mN ll_mR ll_mK ll_cnt L xs false 129 (.inl (lo_if 136 132 (fun x => decide (x = 0)))) := lk_if_eq (off := 7) (by decide +kernel) rfl
theorem k_3_132 (L : Nat) (xs : Nat → Int32) : ll_OK1 cX0_reasonOf RX0 (some .int) false ll_mN ll_mR ll_mK ll_cnt L xs false 132 (.inl (lo_push 133 (.int 0))) := lk_iconst (n := 0) (by decide +kernel) (by decide)
theorem k_3_133 (L : Nat) (xs : Nat → Int32) : ll_OK1 cX0_reasonOf RX0 (some .int) false ll_mN ll_mR ll_mK ll_cnt L xs false 133 (.inl (lo_goto 137)) := lk_goto (off := 4) (by decide +kernel) rfl
theorem k_3_136 (L : Nat) (xs : Nat → Int32) : ll_OK1 cX0_reasonOf RX0 (some .int) false ll_mN ll_mR ll_mK ll_cnt L xs false 136 (.inl (lo_push 137 (.int 5))) := lk_iconst (n := 5) (by decide +kernel) (by decide)
theorem k_3_137 (L : Nat) (xs : Nat → Int32) : ll_OK1 cX0_reasonOf RX0 (some .int) false ll_mN ll_mR ll_mK ll_cnt L xs false 137 (.inr (.inr 1)) := ⟨(fun h => by cases h), (fun _ => ⟨(by decide +kernel), rfl⟩), fun h => by cases h⟩
theorem ok_3 (L : Nat) (xs : Nat → Int32) : ∀ q ∈ cd_3, ll_OK1 cX0_reasonOf RX0 (some .int) false ll_mN ll_mR ll_mK ll_cnt L xs false q.1 q.2 :=
  List.forall_mem_cons.mpr ⟨k_3_0 L xs, List.forall_mem_cons.mpr ⟨k_3_1 L xs, List.forall_mem_cons.mpr ⟨k_3_4 L xs, List.forall_mem_cons.mpr ⟨k_3_7 L xs, List.forall_mem_cons.mpr ⟨k_3_8 L xs, List.forall_mem_cons.mpr ⟨k_3_9 L xs, List.forall_mem_cons.mpr ⟨k_3_10 L xs, List.forall_mem_cons.mpr ⟨k_3_11 L xs, List.forall_mem_cons.mpr ⟨k_3_14 L xs, List.forall_mem_cons.mpr ⟨k_3_17 L xs, List.forall_mem_cons.mpr ⟨k_3_18 L xs, List.forall_mem_cons.mpr ⟨k_3_19 L xs, List.forall_mem_cons.mpr ⟨k_3_20 L xs, List.forall_mem_cons.mpr ⟨k_3_21 L xs, List.forall_mem_cons.mpr ⟨k_3_24 L xs, List.forall_mem_cons.mpr ⟨k_3_27 L xs, List.forall_mem_cons.mpr ⟨k_3_28 L xs, List.forall_mem_cons.mpr ⟨k_3_29 L xs, List.forall_mem_cons.mpr ⟨k_3_31 L xs, List.forall_mem_cons.mpr ⟨k_3_32 L xs, List.forall_mem_cons.mpr ⟨k_3_35 L xs, List.forall_mem_cons.mpr ⟨k_3_36 L xs, List.forall_mem_cons.mpr ⟨k_3_39 L xs, List.forall_mem_cons.mpr ⟨k_3_42 L xs, List.forall_mem_cons.mpr ⟨k_3_43 L xs, List.forall_mem_cons.mpr ⟨k_3_46 L xs, List.forall_mem_cons.mpr ⟨k_3_47 L xs, List.forall_mem_cons.mpr ⟨k_3_50 L xs, List.forall_mem_cons.mpr ⟨k_3_53 L xs, List.forall_mem_cons.mpr ⟨k_3_55 L xs, List.forall_mem_cons.mpr ⟨k_3_58 L xs, List.forall_mem_cons.mpr ⟨k_3_60 L xs, List.forall_mem_cons.mpr ⟨k_3_61 L xs, List.forall_mem_cons.mpr ⟨k_3_64 L xs, List.forall_mem_cons.mpr ⟨k_3_65 L xs, List.forall_mem_cons.mpr ⟨k_3_66 L xs, List.forall_mem_cons.mpr ⟨k_3_68 L xs, List.forall_mem_cons.mpr ⟨k_3_71 L xs, List.forall_mem_cons.mpr ⟨k_3_72 L xs, List.forall_mem_cons.mpr ⟨k_3_73 L xs, List.forall_mem_cons.mpr ⟨k_3_74 L xs, List.forall_mem_cons.mpr ⟨k_3_77 L xs, List.forall_mem_cons.mpr ⟨k_3_80 L xs, List.forall_mem_cons.mpr ⟨k_3_81 L xs, List.forall_mem_cons.mpr ⟨k_3_84 L xs, List.forall_mem_cons.mpr ⟨k_3_85 L xs, List.forall_mem_cons.mpr ⟨k_3_86 L xs, List.forall_mem_cons.mpr ⟨k_3_87 L xs, List.forall_mem_cons.mpr ⟨k_3_90 L xs, List.forall_mem_cons.mpr ⟨k_3_91 L xs, List.forall_mem_cons.mpr ⟨k_3_92 L xs, List.forall_mem_cons.mpr ⟨k_3_93 L xs, List.forall_mem_cons.mpr ⟨k_3_96 L xs, List.forall_mem_cons.mpr ⟨k_3_99 L xs, List.forall_mem_cons.mpr ⟨k_3_100 L xs, List.forall_mem_cons.mpr ⟨k_3_103 L xs, List.forall_mem_cons.mpr ⟨k_3_104 L xs, List.forall_mem_cons.mpr ⟨k_3_107 L xs, List.forall_mem_cons.mpr ⟨k_3_110 L xs, List.forall_mem_cons.mpr ⟨k_3_111 L xs, List.forall_mem_cons.mpr ⟨k_3_112 L xs, List.forall_mem_cons.mpr ⟨k_3_113 L xs, List.forall_mem_cons.mpr ⟨k_3_114 L xs, List.forall_mem_cons.mpr ⟨k_3_117 L xs, List.forall_mem_cons.mpr ⟨k_3_120 L xs, List.forall_mem_cons.mpr ⟨k_3_121 L xs, List.forall_mem_cons.mpr ⟨k_3_122 L xs, List.forall_mem_cons.mpr ⟨k_3_123 L xs, List.forall_mem_cons.mpr ⟨k_3_124 L xs, List.forall_mem_cons.mpr ⟨k_3_125 L xs, List.forall_mem_cons.mpr ⟨k_3_126 L xs, List.forall_mem_cons.mpr ⟨k_3_129 L xs, List.forall_mem_cons.mpr ⟨k_3_132 L xs, List.forall_mem_cons.mpr ⟨k_3_133 L xs, List.forall_mem_cons.mpr ⟨k_3_136 L xs, List.forall_mem_cons.mpr ⟨k_3_137 L xs, fun _ h => absurd h List.not_mem_nil⟩⟩⟩⟩⟩⟩⟩⟩⟩⟩⟩⟩⟩⟩⟩⟩⟩⟩⟩⟩⟩⟩⟩⟩⟩⟩⟩⟩⟩⟩⟩⟩⟩⟩⟩⟩⟩⟩⟩⟩⟩⟩⟩⟩⟩⟩⟩⟩⟩⟩⟩⟩⟩⟩⟩⟩⟩⟩⟩⟩⟩⟩⟩⟩⟩⟩⟩⟩⟩⟩⟩⟩⟩⟩⟩⟩
/-- InclusionProver$Kernel.isMember.(II)Z -/
def cd_4 : List (Nat × ll_O) := [
  (0, .inl (lo_aload 1 0)),
  (1, .inl (lo_getf 4 0 1)),
  (4, .inl (lo_aload 5 0)),
  (5, .inl (lo_getf 8 0 0)),
  (8, .inl (lo_iload 9 1)),
  (9, .inr (.inl (55, 3, 12))),
  (12, .inl (lo_istore 13 3)),
  (13, .inl (lo_iload 14 3)),
  (14, .inl (lo_push 15 (.int (-1)))),
  (15, .inl (lo_cmp 30 18 (fun x y => decide (x = y)))),
  (18, .inl (lo_iload 19 2)),
  (19, .inl (lo_iload 20 3)),
  (20, .inl (lo_bin 21 (fun x y => x >>> (y &&& 31)))),
  (21, .inl (lo_push 22 (.int 1))),
  (22, .inl (lo_bin 23 (fun x y => x &&& y))),
  (23, .inl (lo_if 30 26 (fun x => decide (x = 0)))),
  (26, .inl (lo_push 27 (.int 1))),
  (27, .inl (lo_goto 31)),
  (30, .inl (lo_push 31 (.int 0))),
  (31, .inr (.inr 2))]
theorem k_4_0 (L : Nat) (xs : Nat → Int32) : ll_OK1 cX0_isMember RX0 (some .boolean) false ll_mN ll_mR ll_mK ll_cnt L xs false 0 (.inl (lo_aload 1 0)) := lk_aload_n (k := 0) (by decide +kernel) rfl
theorem k_4_1 (L : Nat) (xs : Nat → Int32) : ll_OK1 cX0_isMember RX0 (some .boolean) false ll_mN ll_mR ll_mK ll_cnt L xs false 1 (.inl (lo_getf 4 0 1)) := lk_getf (ix := 25) (ci := 0) (k := 1) (C := RX0) (T := TX0) (N := 7) (by decide +kernel) rfl in_0 (by decide) tb_7
theorem k_4_4 (L : Nat) (xs : Nat → Int32) : ll_OK1 cX0_isMember RX0 (some .boolean) false ll_mN ll_mR ll_mK ll_cnt L xs false 4 (.inl (lo_aload 5 0)) := lk_aload_n (k := 0) (by decide +kernel) rfl
theorem k_4_5 (L : Nat) (xs : Nat → Int32) : ll_OK1 cX0_isMember RX0 (some .boolean) false ll_mN ll_mR ll_mK ll_cnt L xs false 5 (.inl (lo_getf 8 0 0)) := lk_getf (ix := 21) (ci := 0) (k := 0) (C := RX0) (T := TX0) (N := 7) (by decide +kernel) rfl in_0 (by decide) tb_6
theorem k_4_8 (L : Nat) (xs : Nat → Int32) : ll_OK1 cX0_isMember RX0 (some .boolean) false ll_mN ll_mR ll_mK ll_cnt L xs false 8 (.inl (lo_iload 9 1)) := lk_iload_n (k := 1) (by decide +kernel) rfl
theorem k_4_9 (L : Nat) (xs : Nat → Int32) : ll_OK1 cX0_isMember RX0 (some .boolean) false ll_mN ll_mR ll_mK ll_cnt L xs false 9 (.inr (.inl (55, 3, 12))) := ⟨rfl, by decide, by rw [mN_55, mK_55, mR_55]; exact lj_v 81 2 5 (RX5, TX5, 11) (by decide +kernel) tb_38 tb_39 tb_40 rfl rfl rfl rfl (by decide +kernel)⟩
theorem k_4_12 (L : Nat) (xs : Nat → Int32) : ll_OK1 cX0_isMember RX0 (some .boolean) false ll_mN ll_mR ll_mK ll_cnt L xs false 12 (.inl (lo_istore 13 3)) := lk_istore_n (k := 3) (by decide +kernel) rfl
theorem k_4_13 (L : Nat) (xs : Nat → Int32) : ll_OK1 cX0_isMember RX0 (some .boolean) false ll_mN ll_mR ll_mK ll_cnt L xs false 13 (.inl (lo_iload 14 3)) := lk_iload_n (k := 3) (by decide +kernel) rfl
theorem k_4_14 (L : Nat) (xs : Nat → Int32) : ll_OK1 cX0_isMember RX0 (some .boolean) false ll_mN ll_mR ll_mK ll_cnt L xs false 14 (.inl (lo_push 15 (.int (-1)))) := lk_iconst (n := (-1)) (by decide +kernel) (by decide)
theorem k_4_15 (L : Nat) (xs : Nat → Int32) : ll_OK1 cX0_isMember RX0 (some .boolean) false ll_mN ll_mR ll_mK ll_cnt L xs false 15 (.inl (lo_cmp 30 18 (fun x y => decide (x = y)))) := lk_icmp_eq (off := 15) (by decide +kernel) rfl
theorem k_4_18 (L : Nat) (xs : Nat → Int32) : ll_OK1 cX0_isMember RX0 (some .boolean) false ll_mN ll_mR ll_mK ll_cnt L xs false 18 (.inl (lo_iload 19 2)) := lk_iload_n (k := 2) (by decide +kernel) rfl
theorem k_4_19 (L : Nat) (xs : Nat → Int32) : ll_OK1 cX0_isMember RX0 (some .boolean) false ll_mN ll_mR ll_mK ll_cnt L xs false 19 (.inl (lo_iload 20 3)) := lk_iload_n (k := 3) (by decide +kernel) rfl
theorem k_4_20 (L : Nat) (xs : Nat → Int32) : ll_OK1 cX0_isMember RX0 (some .boolean) false ll_mN ll_mR ll_mK ll_cnt L xs false 20 (.inl (lo_bin 21 (fun x y => x >>> (y &&& 31)))) := lk_ishr (by decide +kernel)
theorem k_4_21 (L : Nat) (xs : Nat → Int32) : ll_OK1 cX0_isMember RX0 (some .boolean) false ll_mN ll_mR ll_mK ll_cnt L xs false 21 (.inl (lo_push 22 (.int 1))) := lk_iconst (n := 1) (by decide +kernel) (by decide)
theorem k_4_22 (L : Nat) (xs : Nat → Int32) : ll_OK1 cX0_isMember RX0 (some .boolean) false ll_mN ll_mR ll_mK ll_cnt L xs false 22 (.inl (lo_bin 23 (fun x y => x &&& y))) := lk_iand (by decide +kernel)
theorem k_4_23 (L : Nat) (xs : Nat → Int32) : ll_OK1 cX0_isMember RX0 (some .boolean) false ll_mN ll_mR ll_mK ll_cnt L xs false 23 (.inl (lo_if 30 26 (fun x => decide (x = 0)))) := lk_if_eq (off := 7) (by decide +kernel) rfl
theorem k_4_26 (L : Nat) (xs : Nat → Int32) : ll_OK1 cX0_isMember RX0 (some .boolean) false ll_mN ll_mR ll_mK ll_cnt L xs false 26 (.inl (lo_push 27 (.int 1))) := lk_iconst (n := 1) (by decide +kernel) (by decide)
theorem k_4_27 (L : Nat) (xs : Nat → Int32) : ll_OK1 cX0_isMember RX0 (some .boolean) false ll_mN ll_mR ll_mK ll_cnt L xs false 27 (.inl (lo_goto 31)) := lk_goto (off := 4) (by decide +kernel) rfl
theorem k_4_30 (L : Nat) (xs : Nat → Int32) : ll_OK1 cX0_isMember RX0 (some .boolean) false ll_mN ll_mR ll_mK ll_cnt L xs false 30 (.inl (lo_push 31 (.int 0))) := lk_iconst (n := 0) (by decide +kernel) (by decide)
theorem k_4_31 (L : Nat) (xs : Nat → Int32) : ll_OK1 cX0_isMember RX0 (some .boolean) false ll_mN ll_mR ll_mK ll_cnt L xs false 31 (.inr (.inr 2)) := ⟨(fun h => by cases h), (fun h => by cases h), fun _ => ⟨(by decide +kernel), rfl⟩⟩
theorem ok_4 (L : Nat) (xs : Nat → Int32) : ∀ q ∈ cd_4, ll_OK1 cX0_isMember RX0 (some .boolean) false ll_mN ll_mR ll_mK ll_cnt L xs false q.1 q.2 :=
  List.forall_mem_cons.mpr ⟨k_4_0 L xs, List.forall_mem_cons.mpr ⟨k_4_1 L xs, List.forall_mem_cons.mpr ⟨k_4_4 L xs, List.forall_mem_cons.mpr ⟨k_4_5 L xs, List.forall_mem_cons.mpr ⟨k_4_8 L xs, List.forall_mem_cons.mpr ⟨k_4_9 L xs, List.forall_mem_cons.mpr ⟨k_4_12 L xs, List.forall_mem_cons.mpr ⟨k_4_13 L xs, List.forall_mem_cons.mpr ⟨k_4_14 L xs, List.forall_mem_cons.mpr ⟨k_4_15 L xs, List.forall_mem_cons.mpr ⟨k_4_18 L xs, List.forall_mem_cons.mpr ⟨k_4_19 L xs, List.forall_mem_cons.mpr ⟨k_4_20 L xs, List.forall_mem_cons.mpr ⟨k_4_21 L xs, List.forall_mem_cons.mpr ⟨k_4_22 L xs, List.forall_mem_cons.mpr ⟨k_4_23 L xs, List.forall_mem_cons.mpr ⟨k_4_26 L xs, List.forall_mem_cons.mpr ⟨k_4_27 L xs, List.forall_mem_cons.mpr ⟨k_4_30 L xs, List.forall_mem_cons.mpr ⟨k_4_31 L xs, fun _ h => absurd h List.not_mem_nil⟩⟩⟩⟩⟩⟩⟩⟩⟩⟩⟩⟩⟩⟩⟩⟩⟩⟩⟩⟩
/-- InclusionProver$Kernel.premisesAreLines.(I)Z -/
def cd_5 : List (Nat × ll_O) := [
  (0, .inl (lo_push 1 (.int 0))),
  (1, .inl (lo_istore 2 2)),
  (2, .inl (lo_iload 3 2)),
  (3, .inl (lo_aload 4 0)),
  (4, .inl (lo_getf 7 0 2)),
  (7, .inl (lo_getf 10 1 4)),
  (10, .inl (lo_iload 11 1)),
  (11, .inl (lo_ald 12 0)),
  (12, .inl (lo_cmp 47 15 (fun x y => decide (y ≤ x)))),
  (15, .inl (lo_aload 16 0)),
  (16, .inl (lo_getf 19 0 2)),
  (19, .inl (lo_aload 20 0)),
  (20, .inl (lo_getf 23 0 2)),
  (23, .inl (lo_iload 24 1)),
  (24, .inl (lo_iload 25 2)),
  (25, .inr (.inl (12, 3, 28))),
  (28, .inr (.inl (10, 2, 31))),
  (31, .inl (lo_if 41 34 (fun x => decide (¬ x = 0)))),
  (34, .inl (lo_aload 35 0)),
  (35, .inl (lo_iload 36 2)),
  (36, .inl (lo_putf 39 0 6 0)),
  (39, .inl (lo_push 40 (.int 0))),
  (40, .inr (.inr 2)),
  (41, .inl (lo_iinc 44 2 1)),
  (44, .inl (lo_goto 2)),
  (47, .inl (lo_push 48 (.int 1))),
  (48, .inr (.inr 2))]
theorem k_5_0 (L : Nat) (xs : Nat → Int32) : ll_OK1 cX0_premisesAreLines RX0 (some .boolean) false ll_mN ll_mR ll_mK ll_cnt L xs false 0 (.inl (lo_push 1 (.int 0))) := lk_iconst (n := 0) (by decide +kernel) (by decide)
theorem k_5_1 (L : Nat) (xs : Nat → Int32) : ll_OK1 cX0_premisesAreLines RX0 (some .boolean) false ll_mN ll_mR ll_mK ll_cnt L xs false 1 (.inl (lo_istore 2 2)) := lk_istore_n (k := 2) (by decide +kernel) rfl
theorem k_5_2 (L : Nat) (xs : Nat → Int32) : ll_OK1 cX0_premisesAreLines RX0 (some .boolean) false ll_mN ll_mR ll_mK ll_cnt L xs false 2 (.inl (lo_iload 3 2)) := lk_iload_n (k := 2) (by decide +kernel) rfl
theorem k_5_3 (L : Nat) (xs : Nat → Int32) : ll_OK1 cX0_premisesAreLines RX0 (some .boolean) false ll_mN ll_mR ll_mK ll_cnt L xs false 3 (.inl (lo_aload 4 0)) := lk_aload_n (k := 0) (by decide +kernel) rfl
theorem k_5_4 (L : Nat) (xs : Nat → Int32) : ll_OK1 cX0_premisesAreLines RX0 (some .boolean) false ll_mN ll_mR ll_mK ll_cnt L xs false 4 (.inl (lo_getf 7 0 2)) := lk_getf (ix := 28) (ci := 0) (k := 2) (C := RX0) (T := TX0) (N := 7) (by decide +kernel) rfl in_0 (by decide) tb_8
theorem k_5_7 (L : Nat) (xs : Nat → Int32) : ll_OK1 cX0_premisesAreLines RX0 (some .boolean) false ll_mN ll_mR ll_mK ll_cnt L xs false 7 (.inl (lo_getf 10 1 4)) := lk_getf (ix := 85) (ci := 1) (k := 4) (C := RX1) (T := TX1) (N := 12) (by decide +kernel) rfl in_1 (by decide) tb_41
theorem k_5_10 (L : Nat) (xs : Nat → Int32) : ll_OK1 cX0_premisesAreLines RX0 (some .boolean) false ll_mN ll_mR ll_mK ll_cnt L xs false 10 (.inl (lo_iload 11 1)) := lk_iload_n (k := 1) (by decide +kernel) rfl
theorem k_5_11 (L : Nat) (xs : Nat → Int32) : ll_OK1 cX0_premisesAreLines RX0 (some .boolean) false ll_mN ll_mR ll_mK ll_cnt L xs false 11 (.inl (lo_ald 12 0)) := lk_iald (by decide +kernel)
theorem k_5_12 (L : Nat) (xs : Nat → Int32) : ll_OK1 cX0_premisesAreLines RX0 (some .boolean) false ll_mN ll_mR ll_mK ll_cnt L xs false 12 (.inl (lo_cmp 47 15 (fun x y => decide (y ≤ x)))) := lk_icmp_ge (off := 35) (by decide +kernel) rfl
theorem k_5_15 (L : Nat) (xs : Nat → Int32) : ll_OK1 cX0_premisesAreLines RX0 (some .boolean) false ll_mN ll_mR ll_mK ll_cnt L xs false 15 (.inl (lo_aload 16 0)) := lk_aload_n (k := 0) (by decide +kernel) rfl
theorem k_5_16 (L : Nat) (xs : Nat → Int32) : ll_OK1 cX0_premisesAreLines RX0 (some .boolean) false ll_mN ll_mR ll_mK ll_cnt L xs false 16 (.inl (lo_getf 19 0 2)) := lk_getf (ix := 28) (ci := 0) (k := 2) (C := RX0) (T := TX0) (N := 7) (by decide +kernel) rfl in_0 (by decide) tb_8
theorem k_5_19 (L : Nat) (xs : Nat → Int32) : ll_OK1 cX0_premisesAreLines RX0 (some .boolean) false ll_mN ll_mR ll_mK ll_cnt L xs false 19 (.inl (lo_aload 20 0)) := lk_aload_n (k := 0) (by decide +kernel) rfl
theorem k_5_20 (L : Nat) (xs : Nat → Int32) : ll_OK1 cX0_premisesAreLines RX0 (some .boolean) false ll_mN ll_mR ll_mK ll_cnt L xs false 20 (.inl (lo_getf 23 0 2)) := lk_getf (ix := 28) (ci := 0) (k := 2) (C := RX0) (T := TX0) (N := 7) (by decide +kernel) rfl in_0 (by decide) tb_8
theorem k_5_23 (L : Nat) (xs : Nat → Int32) : ll_OK1 cX0_premisesAreLines RX0 (some .boolean) false ll_mN ll_mR ll_mK ll_cnt L xs false 23 (.inl (lo_iload 24 1)) := lk_iload_n (k := 1) (by decide +kernel) rfl
theorem k_5_24 (L : Nat) (xs : Nat → Int32) : ll_OK1 cX0_premisesAreLines RX0 (some .boolean) false ll_mN ll_mR ll_mK ll_cnt L xs false 24 (.inl (lo_iload 25 2)) := lk_iload_n (k := 2) (by decide +kernel) rfl
theorem k_5_25 (L : Nat) (xs : Nat → Int32) : ll_OK1 cX0_premisesAreLines RX0 (some .boolean) false ll_mN ll_mR ll_mK ll_cnt L xs false 25 (.inr (.inl (12, 3, 28))) := ⟨rfl, by decide, by rw [mN_12, mK_12, mR_12]; exact lj_v 88 2 1 (RX1, TX1, 12) (by decide +kernel) tb_42 tb_43 tb_44 rfl rfl rfl rfl (by decide +kernel)⟩
theorem k_5_28 (L : Nat) (xs : Nat → Int32) : ll_OK1 cX0_premisesAreLines RX0 (some .boolean) false ll_mN ll_mR ll_mK ll_cnt L xs false 28 (.inr (.inl (10, 2, 31))) := ⟨rfl, by decide, by rw [mN_10, mK_10, mR_10]; exact lj_v 92 1 1 (RX1, TX1, 12) (by decide +kernel) tb_45 tb_46 tb_47 rfl rfl rfl rfl (by decide +kernel)⟩
theorem k_5_31 (L : Nat) (xs : Nat → Int32) : ll_OK1 cX0_premisesAreLines RX0 (some .boolean) false ll_mN ll_mR ll_mK ll_cnt L xs false 31 (.inl (lo_if 41 34 (fun x => decide (¬ x = 0)))) := lk_if_ne (off := 10) (by decide +kernel) rfl
theorem k_5_34 (L : Nat) (xs : Nat → Int32) : ll_OK1 cX0_premisesAreLines RX0 (some .boolean) false ll_mN ll_mR ll_mK ll_cnt L xs false 34 (.inl (lo_aload 35 0)) := lk_aload_n (k := 0) (by decide +kernel) rfl
theorem k_5_35 (L : Nat) (xs : Nat → Int32) : ll_OK1 cX0_premisesAreLines RX0 (some .boolean) false ll_mN ll_mR ll_mK ll_cnt L xs false 35 (.inl (lo_iload 36 2)) := lk_iload_n (k := 2) (by decide +kernel) rfl
theorem k_5_36 (L : Nat) (xs : Nat → Int32) : ll_OK1 cX0_premisesAreLines RX0 (some .boolean) false ll_mN ll_mR ll_mK ll_cnt L xs false 36 (.inl (lo_putf 39 0 6 0)) := lk_putf (ix := 18) (ci := 0) (k := 6) (C := RX0) (T := TX0) (N := 7) (ty0 := tyX0) (by decide +kernel) rfl in_0 tyX0_ok nmX0 (by decide) tb_5 (fun B adr v w h1 h2 => ll_fit_int (B := B) (adr := adr) h1 h2) (Or.inl rfl)
theorem k_5_39 (L : Nat) (xs : Nat → Int32) : ll_OK1 cX0_premisesAreLines RX0 (some .boolean) false ll_mN ll_mR ll_mK ll_cnt L xs false 39 (.inl (lo_push 40 (.int 0))) := lk_iconst (n := 0) (by decide +kernel) (by decide)
theorem k_5_40 (L : Nat) (xs : Nat → Int32) : ll_OK1 cX0_premisesAreLines RX0 (some .boolean) false ll_mN ll_mR ll_mK ll_cnt L xs false 40 (.inr (.inr 2)) := ⟨(fun h => by cases h), (fun h => by cases h), fun _ => ⟨(by decide +kernel), rfl⟩⟩
theorem k_5_41 (L : Nat) (xs : Nat → Int32) : ll_OK1 cX0_premisesAreLines RX0 (some .boolean) false ll_mN ll_mR ll_mK ll_cnt L xs false 41 (.inl (lo_iinc 44 2 1)) := lk_iinc (n := 1) (by decide +kernel) (by decide)
theorem k_5_44 (L : Nat) (xs : Nat → Int32) : ll_OK1 cX0_premisesAreLines RX0 (some .boolean) false ll_mN ll_mR ll_mK ll_cnt L xs false 44 (.inl (lo_goto 2)) := lk_goto (off := (-42)) (by decide +kernel) rfl
theorem k_5_47 (L : Nat) (xs : Nat → Int32) : ll_OK1 cX0_premisesAreLines RX0 (some .boolean) false ll_mN ll_mR ll_mK ll_cnt L xs false 47 (.inl (lo_push 48 (.int 1))) := lk_iconst (n := 1) (by decide +kernel) (by decide)
theorem k_5_48 (L : Nat) (xs : Nat → Int32) : ll_OK1 cX0_premisesAreLines RX0 (some .boolean) false ll_mN ll_mR ll_mK ll_cnt L xs false 48 (.inr (.inr 2)) := ⟨(fun h => by cases h), (fun h => by cases h), fun _ => ⟨(by decide +kernel), rfl⟩⟩
theorem ok_5 (L : Nat) (xs : Nat → Int32) : ∀ q ∈ cd_5, ll_OK1 cX0_premisesAreLines RX0 (some .boolean) false ll_mN ll_mR ll_mK ll_cnt L xs false q.1 q.2 :=
  List.forall_mem_cons.mpr ⟨k_5_0 L xs, List.forall_mem_cons.mpr ⟨k_5_1 L xs, List.forall_mem_cons.mpr ⟨k_5_2 L xs, List.forall_mem_cons.mpr ⟨k_5_3 L xs, List.forall_mem_cons.mpr ⟨k_5_4 L xs, List.forall_mem_cons.mpr ⟨k_5_7 L xs, List.forall_mem_cons.mpr ⟨k_5_10 L xs, List.forall_mem_cons.mpr ⟨k_5_11 L xs, List.forall_mem_cons.mpr ⟨k_5_12 L xs, List.forall_mem_cons.mpr ⟨k_5_15 L xs, List.forall_mem_cons.mpr ⟨k_5_16 L xs, List.forall_mem_cons.mpr ⟨k_5_19 L xs, List.forall_mem_cons.mpr ⟨k_5_20 L xs, List.forall_mem_cons.mpr ⟨k_5_23 L xs, List.forall_mem_cons.mpr ⟨k_5_24 L xs, List.forall_mem_cons.mpr ⟨k_5_25 L xs, List.forall_mem_cons.mpr ⟨k_5_28 L xs, List.forall_mem_cons.mpr ⟨k_5_31 L xs, List.forall_mem_cons.mpr ⟨k_5_34 L xs, List.forall_mem_cons.mpr ⟨k_5_35 L xs, List.forall_mem_cons.mpr ⟨k_5_36 L xs, List.forall_mem_cons.mpr ⟨k_5_39 L xs, List.forall_mem_cons.mpr ⟨k_5_40 L xs, List.forall_mem_cons.mpr ⟨k_5_41 L xs, List.forall_mem_cons.mpr ⟨k_5_44 L xs, List.forall_mem_cons.mpr ⟨k_5_47 L xs, List.forall_mem_cons.mpr ⟨k_5_48 L xs, fun _ h => absurd h List.not_mem_nil⟩⟩⟩⟩⟩⟩⟩⟩⟩⟩⟩⟩⟩⟩⟩⟩⟩⟩⟩⟩⟩⟩⟩⟩⟩⟩⟩
/-- InclusionProver$Kernel.partsAreProved.(III)Z -/
def cd_6 : List (Nat × ll_O) := [
  (0, .inl (lo_push 1 (.int 0))),
  (1, .inl (lo_istore 3 4)),
  (3, .inl (lo_iload 5 4)),
  (5, .inl (lo_push 6 (.int 3))),
  (6, .inl (lo_cmp 93 9 (fun x y => decide (y ≤ x)))),
  (9, .inl (lo_aload 10 0)),
  (10, .inl (lo_getf 13 0 1)),
  (13, .inl (lo_iload 14 3)),
  (14, .inl (lo_iload 16 4)),
  (16, .inr (.inl (54, 3, 19))),
  (19, .inl (lo_istore 21 5)),
  (21, .inl (lo_push 22 (.int 0))),
  (22, .inl (lo_istore 24 6)),
  (24, .inl (lo_iload 26 6)),
  (26, .inl (lo_aload 27 0)),
  (27, .inl (lo_getf 30 0 0)),
  (30, .inl (lo_iload 31 2)),
  (31, .inl (lo_iload 33 4)),
  (33, .inr (.inl (52, 3, 36))),
  (36, .inl (lo_cmp 87 39 (fun x y => decide (y ≤ x)))),
  (39, .inl (lo_aload 40 0)),
  (40, .inl (lo_getf 43 0 0)),
  (43, .inl (lo_iload 44 2)),
  (44, .inl (lo_iload 46 4)),
  (46, .inl (lo_iload 48 6)),
  (48, .inr (.inl (53, 4, 51))),
  (51, .inl (lo_istore 53 7)),
  (53, .inl (lo_aload 54 0)),
  (54, .inl (lo_iload 55 1)),
  (55, .inl (lo_iload 57 7)),
  (57, .inl (lo_iload 59 5)),
  (59, .inr (.inl (7, 4, 62))),
  (62, .inl (lo_if 81 65 (fun x => decide (¬ x = 0)))),
  (65, .inl (lo_aload 66 0)),
  (66, .inl (lo_iload 68 4)),
  (68, .inl (lo_push 69 (.int 1))),
  (69, .inl (lo_bin 70 (fun x y => x + y))),
  (70, .inl (lo_putf 73 0 5 0)),
  (73, .inl (lo_aload 74 0)),
  (74, .inl (lo_iload 76 7)),
  (76, .inl (lo_putf 79 0 6 0)),
  (79, .inl (lo_push 80 (.int 0))),
  (80, .inr (.inr 2)),
  (81, .inl (lo_iinc 84 6 1)),
  (84, .inl (lo_goto 24)),
  (87, .inl (lo_iinc 90 4 1)),
  (90, .inl (lo_goto 3)),
  (93, .inl (lo_push 94 (.int 1))),
  (94, .inr (.inr 2))]
theorem k_6_0 (L : Nat) (xs : Nat → Int32) : ll_OK1 cX0_partsAreProved RX0 (some .boolean) false ll_mN ll_mR ll_mK ll_cnt L xs false 0 (.inl (lo_push 1 (.int 0))) := lk_iconst (n := 0) (by decide +kernel) (by decide)
theorem k_6_1 (L : Nat) (xs : Nat → Int32) : ll_OK1 cX0_partsAreProved RX0 (some .boolean) false ll_mN ll_mR ll_mK ll_cnt L xs false 1 (.inl (lo_istore 3 4)) := lk_istore (by decide +kernel)
theorem k_6_3 (L : Nat) (xs : Nat → Int32) : ll_OK1 cX0_partsAreProved RX0 (some .boolean) false ll_mN ll_mR ll_mK ll_cnt L xs false 3 (.inl (lo_iload 5 4)) := lk_iload (by decide +kernel)
theorem k_6_5 (L : Nat) (xs : Nat → Int32) : ll_OK1 cX0_partsAreProved RX0 (some .boolean) false ll_mN ll_mR ll_mK ll_cnt L xs false 5 (.inl (lo_push 6 (.int 3))) := lk_iconst (n := 3) (by decide +kernel) (by decide)
theorem k_6_6 (L : Nat) (xs : Nat → Int32) : ll_OK1 cX0_partsAreProved RX0 (some .boolean) false ll_mN ll_mR ll_mK ll_cnt L xs false 6 (.inl (lo_cmp 93 9 (fun x y => decide (y ≤ x)))) := lk_icmp_ge (off := 87) (by decide +kernel) rfl
theorem k_6_9 (L : Nat) (xs : Nat → Int32) : ll_OK1 cX0_partsAreProved RX0 (some .boolean) false ll_mN ll_mR ll_mK ll_cnt L xs false 9 (.inl (lo_aload 10 0)) := lk_aload_n (k := 0) (by decide +kernel) rfl
theorem k_6_10 (L : Nat) (xs : Nat → Int32) : ll_OK1 cX0_partsAreProved RX0 (some .boolean) false ll_mN ll_mR ll_mK ll_cnt L xs false 10 (.inl (lo_getf 13 0 1)) := lk_getf (ix := 25) (ci := 0) (k := 1) (C := RX0) (T := TX0) (N := 7) (by decide +kernel) rfl in_0 (by decide) tb_7
theorem k_6_13 (L : Nat) (xs : Nat → Int32) : ll_OK1 cX0_partsAreProved RX0 (some .boolean) false ll_mN ll_mR ll_mK ll_cnt L xs false 13 (.inl (lo_iload 14 3)) := lk_iload_n (k := 3) (by decide +kernel) rfl
theorem k_6_14 (L : Nat) (xs : Nat → Int32) : ll_OK1 cX0_partsAreProved RX0 (some .boolean) false ll_mN ll_mR ll_mK ll_cnt L xs false 14 (.inl (lo_iload 16 4)) := lk_iload (by decide +kernel)
theorem k_6_16 (L : Nat) (xs : Nat → Int32) : ll_OK1 cX0_partsAreProved RX0 (some .boolean) false ll_mN ll_mR ll_mK ll_cnt L xs false 16 (.inr (.inl (54, 3, 19))) := ⟨rfl, by decide, by rw [mN_54, mK_54, mR_54]; exact lj_v 95 2 5 (RX5, TX5, 11) (by decide +kernel) tb_48 tb_49 tb_50 rfl rfl rfl rfl (by decide +kernel)⟩
theorem k_6_19 (L : Nat) (xs : Nat → Int32) : ll_OK1 cX0_partsAreProved RX0 (some .boolean) false ll_mN ll_mR ll_mK ll_cnt L xs false 19 (.inl (lo_istore 21 5)) := lk_istore (by decide +kernel)
theorem k_6_21 (L : Nat) (xs : Nat → Int32) : ll_OK1 cX0_partsAreProved RX0 (some .boolean) false ll_mN ll_mR ll_mK ll_cnt L xs false 21 (.inl (lo_push 22 (.int 0))) := lk_iconst (n := 0) (by decide +kernel) (by decide)
theorem k_6_22 (L : Nat) (xs : Nat → Int32) : ll_OK1 cX0_partsAreProved RX0 (some .boolean) false ll_mN ll_mR ll_mK ll_cnt L xs false 22 (.inl (lo_istore 24 6)) := lk_istore (by decide +kernel)
theorem k_6_24 (L : Nat) (xs : Nat → Int32) : ll_OK1 cX0_partsAreProved RX0 (some .boolean) false ll_mN ll_mR ll_mK ll_cnt L xs false 24 (.inl (lo_iload 26 6)) := lk_iload (by decide +kernel)
theorem k_6_26 (L : Nat) (xs : Nat → Int32) : ll_OK1 cX0_partsAreProved RX0 (some .boolean) false ll_mN ll_mR ll_mK ll_cnt L xs false 26 (.inl (lo_aload 27 0)) := lk_aload_n (k := 0) (by decide +kernel) rfl
theorem k_6_27 (L : Nat) (xs : Nat → Int32) : ll_OK1 cX0_partsAreProved RX0 (some .boolean) false ll_mN ll_mR ll_mK ll_cnt L xs false 27 (.inl (lo_getf 30 0 0)) := lk_getf (ix := 21) (ci := 0) (k := 0) (C := RX0) (T := TX0) (N := 7) (by decide +kernel) rfl in_0 (by decide) tb_6
theorem k_6_30 (L : Nat) (xs : Nat → Int32) : ll_OK1 cX0_partsAreProved RX0 (some .boolean) false ll_mN ll_mR ll_mK ll_cnt L xs false 30 (.inl (lo_iload 31 2)) := lk_iload_n (k := 2) (by decide +kernel) rfl
theorem k_6_31 (L : Nat) (xs : Nat → Int32) : ll_OK1 cX0_partsAreProved RX0 (some .boolean) false ll_mN ll_mR ll_mK ll_cnt L xs false 31 (.inl (lo_iload 33 4)) := lk_iload (by decide +kernel)
theorem k_6_33 (L : Nat) (xs : Nat → Int32) : ll_OK1 cX0_partsAreProved RX0 (some .boolean) false ll_mN ll_mR ll_mK ll_cnt L xs false 33 (.inr (.inl (52, 3, 36))) := ⟨rfl, by decide, by rw [mN_52, mK_52, mR_52]; exact lj_v 98 2 5 (RX5, TX5, 11) (by decide +kernel) tb_51 tb_52 tb_53 rfl rfl rfl rfl (by decide +kernel)⟩
theorem k_6_36 (L : Nat) (xs : Nat → Int32) : ll_OK1 cX0_partsAreProved RX0 (some .boolean) false ll_mN ll_mR ll_mK ll_cnt L xs false 36 (.inl (lo_cmp 87 39 (fun x y => decide (y ≤ x)))) := lk_icmp_ge (off := 51) (by decide +kernel) rfl
theorem k_6_39 (L : Nat) (xs : Nat → Int32) : ll_OK1 cX0_partsAreProved RX0 (some .boolean) false ll_mN ll_mR ll_mK ll_cnt L xs false 39 (.inl (lo_aload 40 0)) := lk_aload_n (k := 0) (by decide +kernel) rfl
theorem k_6_40 (L : Nat) (xs : Nat → Int32) : ll_OK1 cX0_partsAreProved RX0 (some .boolean) false ll_mN ll_mR ll_mK ll_cnt L xs false 40 (.inl (lo_getf 43 0 0)) := lk_getf (ix := 21) (ci := 0) (k := 0) (C := RX0) (T := TX0) (N := 7) (by decide +kernel) rfl in_0 (by decide) tb_6
theorem k_6_43 (L : Nat) (xs : Nat → Int32) : ll_OK1 cX0_partsAreProved RX0 (some .boolean) false ll_mN ll_mR ll_mK ll_cnt L xs false 43 (.inl (lo_iload 44 2)) := lk_iload_n (k := 2) (by decide +kernel) rfl
theorem k_6_44 (L : Nat) (xs : Nat → Int32) : ll_OK1 cX0_partsAreProved RX0 (some .boolean) false ll_mN ll_mR ll_mK ll_cnt L xs false 44 (.inl (lo_iload 46 4)) := lk_iload (by decide +kernel)
theorem k_6_46 (L : Nat) (xs : Nat → Int32) : ll_OK1 cX0_partsAreProved RX0 (some .boolean) false ll_mN ll_mR ll_mK ll_cnt L xs false 46 (.inl (lo_iload 48 6)) := lk_iload (by decide +kernel)
theorem k_6_48 (L : Nat) (xs : Nat → Int32) : ll_OK1 cX0_partsAreProved RX0 (some .boolean) false ll_mN ll_mR ll_mK ll_cnt L xs false 48 (.inr (.inl (53, 4, 51))) := ⟨rfl, by decide, by rw [mN_53, mK_53, mR_53]; exact lj_v 101 3 5 (RX5, TX5, 11) (by decide +kernel) tb_54 tb_55 tb_56 rfl rfl rfl rfl (by decide +kernel)⟩
theorem k_6_51 (L : Nat) (xs : Nat → Int32) : ll_OK1 cX0_partsAreProved RX0 (some .boolean) false ll_mN ll_mR ll_mK ll_cnt L xs false 51 (.inl (lo_istore 53 7)) := lk_istore (by decide +kernel)
theorem k_6_53 (L : Nat) (xs : Nat → Int32) : ll_OK1 cX0_partsAreProved RX0 (some .boolean) false ll_mN ll_mR ll_mK ll_cnt L xs false 53 (.inl (lo_aload 54 0)) := lk_aload_n (k := 0) (by decide +kernel) rfl
theorem k_6_54 (L : Nat) (xs : Nat → Int32) : ll_OK1 cX0_partsAreProved RX0 (some .boolean) false ll_mN ll_mR ll_mK ll_cnt L xs false 54 (.inl (lo_iload 55 1)) := lk_iload_n (k := 1) (by decide +kernel) rfl
theorem k_6_55 (L : Nat) (xs : Nat → Int32) : ll_OK1 cX0_partsAreProved RX0 (some .boolean) false ll_mN ll_mR ll_mK ll_cnt L xs false 55 (.inl (lo_iload 57 7)) := lk_iload (by decide +kernel)
theorem k_6_57 (L : Nat) (xs : Nat → Int32) : ll_OK1 cX0_partsAreProved RX0 (some .boolean) false ll_mN ll_mR ll_mK ll_cnt L xs false 57 (.inl (lo_iload 59 5)) := lk_iload (by decide +kernel)
theorem k_6_59 (L : Nat) (xs : Nat → Int32) : ll_OK1 cX0_partsAreProved RX0 (some .boolean) false ll_mN ll_mR ll_mK ll_cnt L xs false 59 (.inr (.inl (7, 4, 62))) := ⟨rfl, by decide, by rw [mN_7, mK_7, mR_7]; exact lj_v 105 3 0 (RX0, TX0, 7) (by decide +kernel) tb_57 tb_58 tb_59 rfl rfl rfl rfl (by decide +kernel)⟩
theorem k_6_62 (L : Nat) (xs : Nat → Int32) : ll_OK1 cX0_partsAreProved RX0 (some .boolean) false ll_mN ll_mR ll_mK ll_cnt L xs false 62 (.inl (lo_if 81 65 (fun x => decide (¬ x = 0)))) := lk_if_ne (off := 19) (by decide +kernel) rfl
theorem k_6_65 (L : Nat) (xs : Nat → Int32) : ll_OK1 cX0_partsAreProved RX0 (some .boolean) false ll_mN ll_mR ll_mK ll_cnt L xs false 65 (.inl (lo_aload 66 0)) := lk_aload_n (k := 0) (by decide +kernel) rfl
theorem k_6_66 (L : Nat) (xs : Nat → Int32) : ll_OK1 cX0_partsAreProved RX0 (some .boolean) false ll_mN ll_mR ll_mK ll_cnt L xs false 66 (.inl (lo_iload 68 4)) := lk_iload (by decide +kernel)
theorem k_6_68 (L : Nat) (xs : Nat → Int32) : ll_OK1 cX0_partsAreProved RX0 (some .boolean) false ll_mN ll_mR ll_mK ll_cnt L xs false 68 (.inl (lo_push 69 (.int 1))) := lk_iconst (n := 1) (by decide +kernel) (by decide)
theorem k_6_69 (L : Nat) (xs : Nat → Int32) : ll_OK1 cX0_partsAreProved RX0 (some .boolean) false ll_mN ll_mR ll_mK ll_cnt L xs false 69 (.inl (lo_bin 70 (fun x y => x + y))) := lk_iadd (by decide +kernel)
theorem k_6_70 (L : Nat) (xs : Nat → Int32) : ll_OK1 cX0_partsAreProved RX0 (some .boolean) false ll_mN ll_mR ll_mK ll_cnt L xs false 70 (.inl (lo_putf 73 0 5 0)) := lk_putf (ix := 15) (ci := 0) (k := 5) (C := RX0) (T := TX0) (N := 7) (ty0 := tyX0) (by decide +kernel) rfl in_0 tyX0_ok nmX0 (by decide) tb_4 (fun B adr v w h1 h2 => ll_fit_int (B := B) (adr := adr) h1 h2) (Or.inl rfl)
theorem k_6_73 (L : Nat) (xs : Nat → Int32) : ll_OK1 cX0_partsAreProved RX0 (some .boolean) false ll_mN ll_mR ll_mK ll_cnt L xs false 73 (.inl (lo_aload 74 0)) := lk_aload_n (k := 0) (by decide +kernel) rfl
theorem k_6_74 (L : Nat) (xs : Nat → Int32) : ll_OK1 cX0_partsAreProved RX0 (some .boolean) false ll_mN ll_mR ll_mK ll_cnt L xs false 74 (.inl (lo_iload 76 7)) := lk_iload (by decide +kernel)
theorem k_6_76 (L : Nat) (xs : Nat → Int32) : ll_OK1 cX0_partsAreProved RX0 (some .boolean) false ll_mN ll_mR ll_mK ll_cnt L xs false 76 (.inl (lo_putf 79 0 6 0)) := lk_putf (ix := 18) (ci := 0) (k := 6) (C := RX0) (T := TX0) (N := 7) (ty0 := tyX0) (by decide +kernel) rfl in_0 tyX0_ok nmX0 (by decide) tb_5 (fun B adr v w h1 h2 => ll_fit_int (B := B) (adr := adr) h1 h2) (Or.inl rfl)
theorem k_6_79 (L : Nat) (xs : Nat → Int32) : ll_OK1 cX0_partsAreProved RX0 (some .boolean) false ll_mN ll_mR ll_mK ll_cnt L xs false 79 (.inl (lo_push 80 (.int 0))) := lk_iconst (n := 0) (by decide +kernel) (by decide)
theorem k_6_80 (L : Nat) (xs : Nat → Int32) : ll_OK1 cX0_partsAreProved RX0 (some .boolean) false ll_mN ll_mR ll_mK ll_cnt L xs false 80 (.inr (.inr 2)) := ⟨(fun h => by cases h), (fun h => by cases h), fun _ => ⟨(by decide +kernel), rfl⟩⟩
theorem k_6_81 (L : Nat) (xs : Nat → Int32) : ll_OK1 cX0_partsAreProved RX0 (some .boolean) false ll_mN ll_mR ll_mK ll_cnt L xs false 81 (.inl (lo_iinc 84 6 1)) := lk_iinc (n := 1) (by decide +kernel) (by decide)
theorem k_6_84 (L : Nat) (xs : Nat → Int32) : ll_OK1 cX0_partsAreProved RX0 (some .boolean) false ll_mN ll_mR ll_mK ll_cnt L xs false 84 (.inl (lo_goto 24)) := lk_goto (off := (-60)) (by decide +kernel) rfl
theorem k_6_87 (L : Nat) (xs : Nat → Int32) : ll_OK1 cX0_partsAreProved RX0 (some .boolean) false ll_mN ll_mR ll_mK ll_cnt L xs false 87 (.inl (lo_iinc 90 4 1)) := lk_iinc (n := 1) (by decide +kernel) (by decide)
theorem k_6_90 (L : Nat) (xs : Nat → Int32) : ll_OK1 cX0_partsAreProved RX0 (some .boolean) false ll_mN ll_mR ll_mK ll_cnt L xs false 90 (.inl (lo_goto 3)) := lk_goto (off := (-87)) (by decide +kernel) rfl
theorem k_6_93 (L : Nat) (xs : Nat → Int32) : ll_OK1 cX0_partsAreProved RX0 (some .boolean) false ll_mN ll_mR ll_mK ll_cnt L xs false 93 (.inl (lo_push 94 (.int 1))) := lk_iconst (n := 1) (by decide +kernel) (by decide)
theorem k_6_94 (L : Nat) (xs : Nat → Int32) : ll_OK1 cX0_partsAreProved RX0 (some .boolean) false ll_mN ll_mR ll_mK ll_cnt L xs false 94 (.inr (.inr 2)) := ⟨(fun h => by cases h), (fun h => by cases h), fun _ => ⟨(by decide +kernel), rfl⟩⟩
theorem ok_6 (L : Nat) (xs : Nat → Int32) : ∀ q ∈ cd_6, ll_OK1 cX0_partsAreProved RX0 (some .boolean) false ll_mN ll_mR ll_mK ll_cnt L xs false q.1 q.2 :=
  List.forall_mem_cons.mpr ⟨k_6_0 L xs, List.forall_mem_cons.mpr ⟨k_6_1 L xs, List.forall_mem_cons.mpr ⟨k_6_3 L xs, List.forall_mem_cons.mpr ⟨k_6_5 L xs, List.forall_mem_cons.mpr ⟨k_6_6 L xs, List.forall_mem_cons.mpr ⟨k_6_9 L xs, List.forall_mem_cons.mpr ⟨k_6_10 L xs, List.forall_mem_cons.mpr ⟨k_6_13 L xs, List.forall_mem_cons.mpr ⟨k_6_14 L xs, List.forall_mem_cons.mpr ⟨k_6_16 L xs, List.forall_mem_cons.mpr ⟨k_6_19 L xs, List.forall_mem_cons.mpr ⟨k_6_21 L xs, List.forall_mem_cons.mpr ⟨k_6_22 L xs, List.forall_mem_cons.mpr ⟨k_6_24 L xs, List.forall_mem_cons.mpr ⟨k_6_26 L xs, List.forall_mem_cons.mpr ⟨k_6_27 L xs, List.forall_mem_cons.mpr ⟨k_6_30 L xs, List.forall_mem_cons.mpr ⟨k_6_31 L xs, List.forall_mem_cons.mpr ⟨k_6_33 L xs, List.forall_mem_cons.mpr ⟨k_6_36 L xs, List.forall_mem_cons.mpr ⟨k_6_39 L xs, List.forall_mem_cons.mpr ⟨k_6_40 L xs, List.forall_mem_cons.mpr ⟨k_6_43 L xs, List.forall_mem_cons.mpr ⟨k_6_44 L xs, List.forall_mem_cons.mpr ⟨k_6_46 L xs, List.forall_mem_cons.mpr ⟨k_6_48 L xs, List.forall_mem_cons.mpr ⟨k_6_51 L xs, List.forall_mem_cons.mpr ⟨k_6_53 L xs, List.forall_mem_cons.mpr ⟨k_6_54 L xs, List.forall_mem_cons.mpr ⟨k_6_55 L xs, List.forall_mem_cons.mpr ⟨k_6_57 L xs, List.forall_mem_cons.mpr ⟨k_6_59 L xs, List.forall_mem_cons.mpr ⟨k_6_62 L xs, List.forall_mem_cons.mpr ⟨k_6_65 L xs, List.forall_mem_cons.mpr ⟨k_6_66 L xs, List.forall_mem_cons.mpr ⟨k_6_68 L xs, List.forall_mem_cons.mpr ⟨k_6_69 L xs, List.forall_mem_cons.mpr ⟨k_6_70 L xs, List.forall_mem_cons.mpr ⟨k_6_73 L xs, List.forall_mem_cons.mpr ⟨k_6_74 L xs, List.forall_mem_cons.mpr ⟨k_6_76 L xs, List.forall_mem_cons.mpr ⟨k_6_79 L xs, List.forall_mem_cons.mpr ⟨k_6_80 L xs, List.forall_mem_cons.mpr ⟨k_6_81 L xs, List.forall_mem_cons.mpr ⟨k_6_84 L xs, List.forall_mem_cons.mpr ⟨k_6_87 L xs, List.forall_mem_cons.mpr ⟨k_6_90 L xs, List.forall_mem_cons.mpr ⟨k_6_93 L xs, List.forall_mem_cons.mpr ⟨k_6_94 L xs, fun _ h => absurd h List.not_mem_nil⟩⟩⟩⟩⟩⟩⟩⟩⟩⟩⟩⟩⟩⟩⟩⟩⟩⟩⟩⟩⟩⟩⟩⟩⟩⟩⟩⟩⟩⟩⟩⟩⟩⟩⟩⟩⟩⟩⟩⟩⟩⟩⟩⟩⟩⟩⟩⟩⟩
/-- InclusionProver$Kernel.hasPremiseFor.(III)Z -/
def cd_7 : List (Nat × ll_O) := [
  (0, .inl (lo_push 1 (.int 0))),
  (1, .inl (lo_istore 3 4)),
  (3, .inl (lo_iload 5 4)),
  (5, .inl (lo_aload 6 0)),
  (6, .inl (lo_getf 9 0 2)),
  (9, .inl (lo_getf 12 1 4)),
  (12, .inl (lo_iload 13 1)),
  (13, .inl (lo_ald 14 0)),
  (14, .inl (lo_cmp 80 17 (fun x y => decide (y ≤ x)))),
  (17, .inl (lo_aload 18 0)),
  (18, .inl (lo_getf 21 0 2)),
  (21, .inl (lo_iload 22 1)),
  (22, .inl (lo_iload 24 4)),
  (24, .inr (.inl (12, 3, 27))),
  (27, .inl (lo_istore 29 5)),
  (29, .inl (lo_aload 30 0)),
  (30, .inl (lo_getf 33 0 2)),
  (33, .inl (lo_iload 35 5)),
  (35, .inr (.inl (10, 2, 38))),
  (38, .inl (lo_if 74 41 (fun x => decide (x = 0)))),
  (41, .inl (lo_aload 42 0)),
  (42, .inl (lo_getf 45 0 2)),
  (45, .inl (lo_getf 48 1 0)),
  (48, .inl (lo_iload 50 5)),
  (50, .inl (lo_ald 51 0)),
  (51, .inl (lo_iload 52 2)),
  (52, .inl (lo_cmp 74 55 (fun x y => decide (¬ x = y)))),
  (55, .inl (lo_aload 56 0)),
  (56, .inl (lo_getf 59 0 2)),
  (59, .inl (lo_getf 62 1 1)),
  (62, .inl (lo_iload 64 5)),
  (64, .inl (lo_ald 65 0)),
  (65, .inl (lo_iload 66 3)),
  (66, .inl (lo_push 67 (.int (-1)))),
  (67, .inl (lo_bin 68 (fun x y => x ^^^ y))),
  (68, .inl (lo_bin 69 (fun x y => x &&& y))),
  (69, .inl (lo_if 74 72 (fun x => decide (¬ x = 0)))),
  (72, .inl (lo_push 73 (.int 1))),
  (73, .inr (.inr 2)),
  (74, .inl (lo_iinc 77 4 1)),
  (77, .inl (lo_goto 3)),
  (80, .inl (lo_push 81 (.int 0))),
  (81, .inr (.inr 2))]
theorem k_7_0 (L : Nat) (xs : Nat → Int32) : ll_OK1 cX0_hasPremiseFor RX0 (some .boolean) false ll_mN ll_mR ll_mK ll_cnt L xs false 0 (.inl (lo_push 1 (.int 0))) := lk_iconst (n := 0) (by decide +kernel) (by decide)
theorem k_7_1 (L : Nat) (xs : Nat → Int32) : ll_OK1 cX0_hasPremiseFor RX0 (some .boolean) false ll_mN ll_mR ll_mK ll_cnt L xs false 1 (.inl (lo_istore 3 4)) := lk_istore (by decide +kernel)
theorem k_7_3 (L : Nat) (xs : Nat → Int32) : ll_OK1 cX0_hasPremiseFor RX0 (some .boolean) false ll_mN ll_mR ll_mK ll_cnt L xs false 3 (.inl (lo_iload 5 4)) := lk_iload (by decide +kernel)
theorem k_7_5 (L : Nat) (xs : Nat → Int32) : ll_OK1 cX0_hasPremiseFor RX0 (some .boolean) false ll_mN ll_mR ll_mK ll_cnt L xs false 5 (.inl (lo_aload 6 0)) := lk_aload_n (k := 0) (by decide +kernel) rfl
theorem k_7_6 (L : Nat) (xs : Nat → Int32) : ll_OK1 cX0_hasPremiseFor RX0 (some .boolean) false ll_mN ll_mR ll_mK ll_cnt L xs false 6 (.inl (lo_getf 9 0 2)) := lk_getf (ix := 28) (ci := 0) (k := 2) (C := RX0) (T := TX0) (N := 7) (by decide +kernel) rfl in_0 (by decide) tb_8
theorem k_7_9 (L : Nat) (xs : Nat → Int32) : ll_OK1 cX0_hasPremiseFor RX0 (some .boolean) false ll_mN ll_mR ll_mK ll_cnt L xs false 9 (.inl (lo_getf 12 1 4)) := lk_getf (ix := 85) (ci := 1) (k := 4) (C := RX1) (T := TX1) (N := 12) (by decide +kernel) rfl in_1 (by decide) tb_41
theorem k_7_12 (L : Nat) (xs : Nat → Int32) : ll_OK1 cX0_hasPremiseFor RX0 (some .boolean) false ll_mN ll_mR ll_mK ll_cnt L xs false 12 (.inl (lo_iload 13 1)) := lk_iload_n (k := 1) (by decide +kernel) rfl
theorem k_7_13 (L : Nat) (xs : Nat → Int32) : ll_OK1 cX0_hasPremiseFor RX0 (some .boolean) false ll_mN ll_mR ll_mK ll_cnt L xs false 13 (.inl (lo_ald 14 0)) := lk_iald (by decide +kernel)
theorem k_7_14 (L : Nat) (xs : Nat → Int32) : ll_OK1 cX0_hasPremiseFor RX0 (some .boolean) false ll_mN ll_mR ll_mK ll_cnt L xs false 14 (.inl (lo_cmp 80 17 (fun x y => decide (y ≤ x)))) := lk_icmp_ge (off := 66) (by decide +kernel) rfl
theorem k_7_17 (L : Nat) (xs : Nat → Int32) : ll_OK1 cX0_hasPremiseFor RX0 (some .boolean) false ll_mN ll_mR ll_mK ll_cnt L xs false 17 (.inl (lo_aload 18 0)) := lk_aload_n (k := 0) (by decide +kernel) rfl
theorem k_7_18 (L : Nat) (xs : Nat → Int32) : ll_OK1 cX0_hasPremiseFor RX0 (some .boolean) false ll_mN ll_mR ll_mK ll_cnt L xs false 18 (.inl (lo_getf 21 0 2)) := lk_getf (ix := 28) (ci := 0) (k := 2) (C := RX0) (T := TX0) (N := 7) (by decide +kernel) rfl in_0 (by decide) tb_8
theorem k_7_21 (L : Nat) (xs : Nat → Int32) : ll_OK1 cX0_hasPremiseFor RX0 (some .boolean) false ll_mN ll_mR ll_mK ll_cnt L xs false 21 (.inl (lo_iload 22 1)) := lk_iload_n (k := 1) (by decide +kernel) rfl
theorem k_7_22 (L : Nat) (xs : Nat → Int32) : ll_OK1 cX0_hasPremiseFor RX0 (some .boolean) false ll_mN ll_mR ll_mK ll_cnt L xs false 22 (.inl (lo_iload 24 4)) := lk_iload (by decide +kernel)
theorem k_7_24 (L : Nat) (xs : Nat → Int32) : ll_OK1 cX0_hasPremiseFor RX0 (some .boolean) false ll_mN ll_mR ll_mK ll_cnt L xs false 24 (.inr (.inl (12, 3, 27))) := ⟨rfl, by decide, by rw [mN_12, mK_12, mR_12]; exact lj_v 88 2 1 (RX1, TX1, 12) (by decide +kernel) tb_42 tb_43 tb_44 rfl rfl rfl rfl (by decide +kernel)⟩
theorem k_7_27 (L : Nat) (xs : Nat → Int32) : ll_OK1 cX0_hasPremiseFor RX0 (some .boolean) false ll_mN ll_mR ll_mK ll_cnt L xs false 27 (.inl (lo_istore 29 5)) := lk_istore (by decide +kernel)
theorem k_7_29 (L : Nat) (xs : Nat → Int32) : ll_OK1 cX0_hasPremiseFor RX0 (some .boolean) false ll_mN ll_mR ll_mK ll_cnt L xs false 29 (.inl (lo_aload 30 0)) := lk_aload_n (k := 0) (by decide +kernel) rfl
theorem k_7_30 (L : Nat) (xs : Nat → Int32) : ll_OK1 cX0_hasPremiseFor RX0 (some .boolean) false ll_mN ll_mR ll_mK ll_cnt L xs false 30 (.inl (lo_getf 33 0 2)) := lk_getf (ix := 28) (ci := 0) (k := 2) (C := RX0) (T := TX0) (N := 7) (by decide +kernel) rfl in_0 (by decide) tb_8
theorem k_7_33 (L : Nat) (xs : Nat → Int32) : ll_OK1 cX0_hasPremiseFor RX0 (some .boolean) false ll_mN ll_mR ll_mK ll_cnt L xs false 33 (.inl (lo_iload 35 5)) := lk_iload (by decide +kernel)
theorem k_7_35 (L : Nat) (xs : Nat → Int32) : ll_OK1 cX0_hasPremiseFor RX0 (some .boolean) false ll_mN ll_mR ll_mK ll_cnt L xs false 35 (.inr (.inl (10, 2, 38))) := ⟨rfl, by decide, by rw [mN_10, mK_10, mR_10]; exact lj_v 92 1 1 (RX1, TX1, 12) (by decide +kernel) tb_45 tb_46 tb_47 rfl rfl rfl rfl (by decide +kernel)⟩
theorem k_7_38 (L : Nat) (xs : Nat → Int32) : ll_OK1 cX0_hasPremiseFor RX0 (some .boolean) false ll_mN ll_mR ll_mK ll_cnt L xs false 38 (.inl (lo_if 74 41 (fun x => decide (x = 0)))) := lk_if_eq (off := 36) (by decide +kernel) rfl
theorem k_7_41 (L : Nat) (xs : Nat → Int32) : ll_OK1 cX0_hasPremiseFor RX0 (some .boolean) false ll_mN ll_mR ll_mK ll_cnt L xs false 41 (.inl (lo_aload 42 0)) := lk_aload_n (k := 0) (by decide +kernel) rfl
theorem k_7_42 (L : Nat) (xs : Nat → Int32) : ll_OK1 cX0_hasPremiseFor RX0 (some .boolean) false ll_mN ll_mR ll_mK ll_cnt L xs false 42 (.inl (lo_getf 45 0 2)) := lk_getf (ix := 28) (ci := 0) (k := 2) (C := RX0) (T := TX0) (N := 7) (by decide +kernel) rfl in_0 (by decide) tb_8
theorem k_7_45 (L : Nat) (xs : Nat → Int32) : ll_OK1 cX0_hasPremiseFor RX0 (some .boolean) false ll_mN ll_mR ll_mK ll_cnt L xs false 45 (.inl (lo_getf 48 1 0)) := lk_getf (ix := 48) (ci := 1) (k := 0) (C := RX1) (T := TX1) (N := 12) (by decide +kernel) rfl in_1 (by decide) tb_17
theorem k_7_48 (L : Nat) (xs : Nat → Int32) : ll_OK1 cX0_hasPremiseFor RX0 (some .boolean) false ll_mN ll_mR ll_mK ll_cnt L xs false 48 (.inl (lo_iload 50 5)) := lk_iload (by decide +kernel)
theorem k_7_50 (L : Nat) (xs : Nat → Int32) : ll_OK1 cX0_hasPremiseFor RX0 (some .boolean) false ll_mN ll_mR ll_mK ll_cnt L xs false 50 (.inl (lo_ald 51 0)) := lk_iald (by decide +kernel)
theorem k_7_51 (L : Nat) (xs : Nat → Int32) : ll_OK1 cX0_hasPremiseFor RX0 (some .boolean) false ll_mN ll_mR ll_mK ll_cnt L xs false 51 (.inl (lo_iload 52 2)) := lk_iload_n (k := 2) (by decide +kernel) rfl
theorem k_7_52 (L : Nat) (xs : Nat → Int32) : ll_OK1 cX0_hasPremiseFor RX0 (some .boolean) false ll_mN ll_mR ll_mK ll_cnt L xs false 52 (.inl (lo_cmp 74 55 (fun x y => decide (¬ x = y)))) := lk_icmp_ne (off := 22) (by decide +kernel) rfl
theorem k_7_55 (L : Nat) (xs : Nat → Int32) : ll_OK1 cX0_hasPremiseFor RX0 (some .boolean) false ll_mN ll_mR ll_mK ll_cnt L xs false 55 (.inl (lo_aload 56 0)) := lk_aload_n (k := 0) (by decide +kernel) rfl
theorem k_7_56 (L : Nat) (xs : Nat → Int32) : ll_OK1 cX0_hasPremiseFor RX0 (some .boolean) false ll_mN ll_mR ll_mK ll_cnt L xs false 56 (.inl (lo_getf 59 0 2)) := lk_getf (ix := 28) (ci := 0) (k := 2) (C := RX0) (T := TX0) (N := 7) (by decide +kernel) rfl in_0 (by decide) tb_8
theorem k_7_59 (L : Nat) (xs : Nat → Int32) : ll_OK1 cX0_hasPremiseFor RX0 (some .boolean) false ll_mN ll_mR ll_mK ll_cnt L xs false 59 (.inl (lo_getf 62 1 1)) := lk_getf (ix := 52) (ci := 1) (k := 1) (C := RX1) (T := TX1) (N := 12) (by decide +kernel) rfl in_1 (by decide) tb_18
theorem k_7_62 (L : Nat) (xs : Nat → Int32) : ll_OK1 cX0_hasPremiseFor RX0 (some .boolean) false ll_mN ll_mR ll_mK ll_cnt L xs false 62 (.inl (lo_iload 64 5)) := lk_iload (by decide +kernel)
theorem k_7_64 (L : Nat) (xs : Nat → Int32) : ll_OK1 cX0_hasPremiseFor RX0 (some .boolean) false ll_mN ll_mR ll_mK ll_cnt L xs false 64 (.inl (lo_ald 65 0)) := lk_iald (by decide +kernel)
theorem k_7_65 (L : Nat) (xs : Nat → Int32) : ll_OK1 cX0_hasPremiseFor RX0 (some .boolean) false ll_mN ll_mR ll_mK ll_cnt L xs false 65 (.inl (lo_iload 66 3)) := lk_iload_n (k := 3) (by decide +kernel) rfl
theorem k_7_66 (L : Nat) (xs : Nat → Int32) : ll_OK1 cX0_hasPremiseFor RX0 (some .boolean) false ll_mN ll_mR ll_mK ll_cnt L xs false 66 (.inl (lo_push 67 (.int (-1)))) := lk_iconst (n := (-1)) (by decide +kernel) (by decide)
theorem k_7_67 (L : Nat) (xs : Nat → Int32) : ll_OK1 cX0_hasPremiseFor RX0 (some .boolean) false ll_mN ll_mR ll_mK ll_cnt L xs false 67 (.inl (lo_bin 68 (fun x y => x ^^^ y))) := lk_ixor (by decide +kernel)
theorem k_7_68 (L : Nat) (xs : Nat → Int32) : ll_OK1 cX0_hasPremiseFor RX0 (some .boolean) false ll_mN ll_mR ll_mK ll_cnt L xs false 68 (.inl (lo_bin 69 (fun x y => x &&& y))) := lk_iand (by decide +kernel)
theorem k_7_69 (L : Nat) (xs : Nat → Int32) : ll_OK1 cX0_hasPremiseFor RX0 (some .boolean) false ll_mN ll_mR ll_mK ll_cnt L xs false 69 (.inl (lo_if 74 72 (fun x => decide (¬ x = 0)))) := lk_if_ne (off := 5) (by decide +kernel) rfl
theorem k_7_72 (L : Nat) (xs : Nat → Int32) : ll_OK1 cX0_hasPremiseFor RX0 (some .boolean) false ll_mN ll_mR ll_mK ll_cnt L xs false 72 (.inl (lo_push 73 (.int 1))) := lk_iconst (n := 1) (by decide +kernel) (by decide)
theorem k_7_73 (L : Nat) (xs : Nat → Int32) : ll_OK1 cX0_hasPremiseFor RX0 (some .boolean) false ll_mN ll_mR ll_mK ll_cnt L xs false 73 (.inr (.inr 2)) := ⟨(fun h => by cases h), (fun h => by cases h), fun _ => ⟨(by decide +kernel), rfl⟩⟩
theorem k_7_74 (L : Nat) (xs : Nat → Int32) : ll_OK1 cX0_hasPremiseFor RX0 (some .boolean) false ll_mN ll_mR ll_mK ll_cnt L xs false 74 (.inl (lo_iinc 77 4 1)) := lk_iinc (n := 1) (by decide +kernel) (by decide)
theorem k_7_77 (L : Nat) (xs : Nat → Int32) : ll_OK1 cX0_hasPremiseFor RX0 (some .boolean) false ll_mN ll_mR ll_mK ll_cnt L xs false 77 (.inl (lo_goto 3)) := lk_goto (off := (-74)) (by decide +kernel) rfl
theorem k_7_80 (L : Nat) (xs : Nat → Int32) : ll_OK1 cX0_hasPremiseFor RX0 (some .boolean) false ll_mN ll_mR ll_mK ll_cnt L xs false 80 (.inl (lo_push 81 (.int 0))) := lk_iconst (n := 0) (by decide +kernel) (by decide)
theorem k_7_81 (L : Nat) (xs : Nat → Int32) : ll_OK1 cX0_hasPremiseFor RX0 (some .boolean) false ll_mN ll_mR ll_mK ll_cnt L xs false 81 (.inr (.inr 2)) := ⟨(fun h => by cases h), (fun h => by cases h), fun _ => ⟨(by decide +kernel), rfl⟩⟩
theorem ok_7 (L : Nat) (xs : Nat → Int32) : ∀ q ∈ cd_7, ll_OK1 cX0_hasPremiseFor RX0 (some .boolean) false ll_mN ll_mR ll_mK ll_cnt L xs false q.1 q.2 :=
  List.forall_mem_cons.mpr ⟨k_7_0 L xs, List.forall_mem_cons.mpr ⟨k_7_1 L xs, List.forall_mem_cons.mpr ⟨k_7_3 L xs, List.forall_mem_cons.mpr ⟨k_7_5 L xs, List.forall_mem_cons.mpr ⟨k_7_6 L xs, List.forall_mem_cons.mpr ⟨k_7_9 L xs, List.forall_mem_cons.mpr ⟨k_7_12 L xs, List.forall_mem_cons.mpr ⟨k_7_13 L xs, List.forall_mem_cons.mpr ⟨k_7_14 L xs, List.forall_mem_cons.mpr ⟨k_7_17 L xs, List.forall_mem_cons.mpr ⟨k_7_18 L xs, List.forall_mem_cons.mpr ⟨k_7_21 L xs, List.forall_mem_cons.mpr ⟨k_7_22 L xs, List.forall_mem_cons.mpr ⟨k_7_24 L xs, List.forall_mem_cons.mpr ⟨k_7_27 L xs, List.forall_mem_cons.mpr ⟨k_7_29 L xs, List.forall_mem_cons.mpr ⟨k_7_30 L xs, List.forall_mem_cons.mpr ⟨k_7_33 L xs, List.forall_mem_cons.mpr ⟨k_7_35 L xs, List.forall_mem_cons.mpr ⟨k_7_38 L xs, List.forall_mem_cons.mpr ⟨k_7_41 L xs, List.forall_mem_cons.mpr ⟨k_7_42 L xs, List.forall_mem_cons.mpr ⟨k_7_45 L xs, List.forall_mem_cons.mpr ⟨k_7_48 L xs, List.forall_mem_cons.mpr ⟨k_7_50 L xs, List.forall_mem_cons.mpr ⟨k_7_51 L xs, List.forall_mem_cons.mpr ⟨k_7_52 L xs, List.forall_mem_cons.mpr ⟨k_7_55 L xs, List.forall_mem_cons.mpr ⟨k_7_56 L xs, List.forall_mem_cons.mpr ⟨k_7_59 L xs, List.forall_mem_cons.mpr ⟨k_7_62 L xs, List.forall_mem_cons.mpr ⟨k_7_64 L xs, List.forall_mem_cons.mpr ⟨k_7_65 L xs, List.forall_mem_cons.mpr ⟨k_7_66 L xs, List.forall_mem_cons.mpr ⟨k_7_67 L xs, List.forall_mem_cons.mpr ⟨k_7_68 L xs, List.forall_mem_cons.mpr ⟨k_7_69 L xs, List.forall_mem_cons.mpr ⟨k_7_72 L xs, List.forall_mem_cons.mpr ⟨k_7_73 L xs, List.forall_mem_cons.mpr ⟨k_7_74 L xs, List.forall_mem_cons.mpr ⟨k_7_77 L xs, List.forall_mem_cons.mpr ⟨k_7_80 L xs, List.forall_mem_cons.mpr ⟨k_7_81 L xs, fun _ h => absurd h List.not_mem_nil⟩⟩⟩⟩⟩⟩⟩⟩⟩⟩⟩⟩⟩⟩⟩⟩⟩⟩⟩⟩⟩⟩⟩⟩⟩⟩⟩⟩⟩⟩⟩⟩⟩⟩⟩⟩⟩⟩⟩⟩⟩⟩⟩
/-- InclusionProver$Lines.<init>.()V -/
def cd_8 : List (Nat × ll_O) := [
  (0, .inl (lo_aload 1 0)),
  (1, .inl (lo_init 4)),
  (4, .inl (lo_aload 5 0)),
  (5, .inl (lo_push 8 (.int 300))),
  (8, .inl (lo_newa 10 0)),
  (10, .inl (lo_putf 13 1 0 2)),
  (13, .inl (lo_aload 14 0)),
  (14, .inl (lo_push 17 (.int 300))),
  (17, .inl (lo_newa 19 0)),
  (19, .inl (lo_putf 22 1 1 2)),
  (22, .inl (lo_aload 23 0)),
  (23, .inl (lo_push 26 (.int 300))),
  (26, .inl (lo_newa 28 0)),
  (28, .inl (lo_putf 31 1 2 2)),
  (31, .inl (lo_aload 32 0)),
  (32, .inl (lo_push 35 (.int 300))),
  (35, .inl (lo_newa 37 0)),
  (37, .inl (lo_putf 40 1 3 2)),
  (40, .inl (lo_aload 41 0)),
  (41, .inl (lo_push 44 (.int 300))),
  (44, .inl (lo_newa 46 0)),
  (46, .inl (lo_putf 49 1 4 2)),
  (49, .inl (lo_aload 50 0)),
  (50, .inl (lo_push 53 (.int 9300))),
  (53, .inl (lo_newa 55 0)),
  (55, .inl (lo_putf 58 1 5 2)),
  (58, .inl (lo_aload 59 0)),
  (59, .inl (lo_new 62 7 2 [.null, .int 0])),
  (62, .inl (lo_dup 63)),
  (63, .inl (lo_push 66 (.int 300))),
  (66, .inr (.inl (70, 2, 69))),
  (69, .inl (lo_putf 72 1 6 2)),
  (72, .inl (lo_aload 73 0)),
  (73, .inl (lo_push 76 (.int 300))),
  (76, .inl (lo_newa 78 0)),
  (78, .inl (lo_putf 81 1 7 2)),
  (81, .inr (.inr 0))]
theorem k_8_0 (L : Nat) (xs : Nat → Int32) : ll_OK1 cX1_init RX1 none true ll_mN ll_mR ll_mK ll_cnt L xs false 0 (.inl (lo_aload 1 0)) := lk_aload_n (k := 0) (by decide +kernel) rfl
theorem k_8_1 (L : Nat) (xs : Nat → Int32) : ll_OK1 cX1_init RX1 none true ll_mN ll_mR ll_mK ll_cnt L xs false 1 (.inl (lo_init 4)) := lk_init (ix := 3) (by decide +kernel) tb_60 tb_1 tb_2
theorem k_8_4 (L : Nat) (xs : Nat → Int32) : ll_OK1 cX1_init RX1 none true ll_mN ll_mR ll_mK ll_cnt L xs false 4 (.inl (lo_aload 5 0)) := lk_aload_n (k := 0) (by decide +kernel) rfl
theorem k_8_5 (L : Nat) (xs : Nat → Int32) : ll_OK1 cX1_init RX1 none true ll_mN ll_mR ll_mK ll_cnt L xs false 5 (.inl (lo_push 8 (.int 300))) := lk_sipush (n := 300) (by decide +kernel) (by decide)
theorem k_8_8 (L : Nat) (xs : Nat → Int32) : ll_OK1 cX1_init RX1 none true ll_mN ll_mR ll_mK ll_cnt L xs false 8 (.inl (lo_newa 10 0)) := lk_newa_int (by decide +kernel) tb_61
theorem k_8_10 (L : Nat) (xs : Nat → Int32) : ll_OK1 cX1_init RX1 none true ll_mN ll_mR ll_mK ll_cnt L xs false 10 (.inl (lo_putf 13 1 0 2)) := lk_putf (ix := 9) (ci := 1) (k := 0) (C := RX1) (T := TX1) (N := 12) (ty0 := tyX1) (by decide +kernel) rfl in_1 tyX1_ok nmX1 (by decide) tb_62 (fun B adr v w h1 h2 => ll_fit_arr (B := B) (adr := adr) h1 h2) (Or.inr ⟨rfl, rfl, rfl⟩)
theorem k_8_13 (L : Nat) (xs : Nat → Int32) : ll_OK1 cX1_init RX1 none true ll_mN ll_mR ll_mK ll_cnt L xs false 13 (.inl (lo_aload 14 0)) := lk_aload_n (k := 0) (by decide +kernel) rfl
theorem k_8_14 (L : Nat) (xs : Nat → Int32) : ll_OK1 cX1_init RX1 none true ll_mN ll_mR ll_mK ll_cnt L xs false 14 (.inl (lo_push 17 (.int 300))) := lk_sipush (n := 300) (by decide +kernel) (by decide)
theorem k_8_17 (L : Nat) (xs : Nat → Int32) : ll_OK1 cX1_init RX1 none true ll_mN ll_mR ll_mK ll_cnt L xs false 17 (.inl (lo_newa 19 0)) := lk_newa_int (by decide +kernel) tb_61
theorem k_8_19 (L : Nat) (xs : Nat → Int32) : ll_OK1 cX1_init RX1 none true ll_mN ll_mR ll_mK ll_cnt L xs false 19 (.inl (lo_putf 22 1 1 2)) := lk_putf (ix := 15) (ci := 1) (k := 1) (C := RX1) (T := TX1) (N := 12) (ty0 := tyX1) (by decide +kernel) rfl in_1 tyX1_ok nmX1 (by decide) tb_63 (fun B adr v w h1 h2 => ll_fit_arr (B := B) (adr := adr) h1 h2) (Or.inr ⟨rfl, rfl, rfl⟩)
theorem k_8_22 (L : Nat) (xs : Nat → Int32) : ll_OK1 cX1_init RX1 none true ll_mN ll_mR ll_mK ll_cnt L xs false 22 (.inl (lo_aload 23 0)) := lk_aload_n (k := 0) (by decide +kernel) rfl
theorem k_8_23 (L : Nat) (xs : Nat → Int32) : ll_OK1 cX1_init RX1 none true ll_mN ll_mR ll_mK ll_cnt L xs false 23 (.inl (lo_push 26 (.int 300))) := lk_sipush (n := 300) (by decide +kernel) (by decide)
theorem k_8_26 (L : Nat) (xs : Nat → Int32) : ll_OK1 cX1_init RX1 none true ll_mN ll_mR ll_mK ll_cnt L xs false 26 (.inl (lo_newa 28 0)) := lk_newa_int (by decide +kernel) tb_61
theorem k_8_28 (L : Nat) (xs : Nat → Int32) : ll_OK1 cX1_init RX1 none true ll_mN ll_mR ll_mK ll_cnt L xs false 28 (.inl (lo_putf 31 1 2 2)) := lk_putf (ix := 18) (ci := 1) (k := 2) (C := RX1) (T := TX1) (N := 12) (ty0 := tyX1) (by decide +kernel) rfl in_1 tyX1_ok nmX1 (by decide) tb_64 (fun B adr v w h1 h2 => ll_fit_arr (B := B) (adr := adr) h1 h2) (Or.inr ⟨rfl, rfl, rfl⟩)
theorem k_8_31 (L : Nat) (xs : Nat → Int32) : ll_OK1 cX1_init RX1 none true ll_mN ll_mR ll_mK ll_cnt L xs false 31 (.inl (lo_aload 32 0)) := lk_aload_n (k := 0) (by decide +kernel) rfl
theorem k_8_32 (L : Nat) (xs : Nat → Int32) : ll_OK1 cX1_init RX1 none true ll_mN ll_mR ll_mK ll_cnt L xs false 32 (.inl (lo_push 35 (.int 300))) := lk_sipush (n := 300) (by decide +kernel) (by decide)
theorem k_8_35 (L : Nat) (xs : Nat → Int32) : ll_OK1 cX1_init RX1 none true ll_mN ll_mR ll_mK ll_cnt L xs false 35 (.inl (lo_newa 37 0)) := lk_newa_int (by decide +kernel) tb_61
theorem k_8_37 (L : Nat) (xs : Nat → Int32) : ll_OK1 cX1_init RX1 none true ll_mN ll_mR ll_mK ll_cnt L xs false 37 (.inl (lo_putf 40 1 3 2)) := lk_putf (ix := 21) (ci := 1) (k := 3) (C := RX1) (T := TX1) (N := 12) (ty0 := tyX1) (by decide +kernel) rfl in_1 tyX1_ok nmX1 (by decide) tb_65 (fun B adr v w h1 h2 => ll_fit_arr (B := B) (adr := adr) h1 h2) (Or.inr ⟨rfl, rfl, rfl⟩)
theorem k_8_40 (L : Nat) (xs : Nat → Int32) : ll_OK1 cX1_init RX1 none true ll_mN ll_mR ll_mK ll_cnt L xs false 40 (.inl (lo_aload 41 0)) := lk_aload_n (k := 0) (by decide +kernel) rfl
theorem k_8_41 (L : Nat) (xs : Nat → Int32) : ll_OK1 cX1_init RX1 none true ll_mN ll_mR ll_mK ll_cnt L xs false 41 (.inl (lo_push 44 (.int 300))) := lk_sipush (n := 300) (by decide +kernel) (by decide)
theorem k_8_44 (L : Nat) (xs : Nat → Int32) : ll_OK1 cX1_init RX1 none true ll_mN ll_mR ll_mK ll_cnt L xs false 44 (.inl (lo_newa 46 0)) := lk_newa_int (by decide +kernel) tb_61
theorem k_8_46 (L : Nat) (xs : Nat → Int32) : ll_OK1 cX1_init RX1 none true ll_mN ll_mR ll_mK ll_cnt L xs false 46 (.inl (lo_putf 49 1 4 2)) := lk_putf (ix := 24) (ci := 1) (k := 4) (C := RX1) (T := TX1) (N := 12) (ty0 := tyX1) (by decide +kernel) rfl in_1 tyX1_ok nmX1 (by decide) tb_66 (fun B adr v w h1 h2 => ll_fit_arr (B := B) (adr := adr) h1 h2) (Or.inr ⟨rfl, rfl, rfl⟩)
theorem k_8_49 (L : Nat) (xs : Nat → Int32) : ll_OK1 cX1_init RX1 none true ll_mN ll_mR ll_mK ll_cnt L xs false 49 (.inl (lo_aload 50 0)) := lk_aload_n (k := 0) (by decide +kernel) rfl
theorem k_8_50 (L : Nat) (xs : Nat → Int32) : ll_OK1 cX1_init RX1 none true ll_mN ll_mR ll_mK ll_cnt L xs false 50 (.inl (lo_push 53 (.int 9300))) := lk_sipush (n := 9300) (by decide +kernel) (by decide)
theorem k_8_53 (L : Nat) (xs : Nat → Int32) : ll_OK1 cX1_init RX1 none true ll_mN ll_mR ll_mK ll_cnt L xs false 53 (.inl (lo_newa 55 0)) := lk_newa_int (by decide +kernel) tb_61
theorem k_8_55 (L : Nat) (xs : Nat → Int32) : ll_OK1 cX1_init RX1 none true ll_mN ll_mR ll_mK ll_cnt L xs false 55 (.inl (lo_putf 58 1 5 2)) := lk_putf (ix := 27) (ci := 1) (k := 5) (C := RX1) (T := TX1) (N := 12) (ty0 := tyX1) (by decide +kernel) rfl in_1 tyX1_ok nmX1 (by decide) tb_67 (fun B adr v w h1 h2 => ll_fit_arr (B := B) (adr := adr) h1 h2) (Or.inr ⟨rfl, rfl, rfl⟩)
theorem k_8_58 (L : Nat) (xs : Nat → Int32) : ll_OK1 cX1_init RX1 none true ll_mN ll_mR ll_mK ll_cnt L xs false 58 (.inl (lo_aload 59 0)) := lk_aload_n (k := 0) (by decide +kernel) rfl
theorem k_8_59 (L : Nat) (xs : Nat → Int32) : ll_OK1 cX1_init RX1 none true ll_mN ll_mR ll_mK ll_cnt L xs false 59 (.inl (lo_new 62 7 2 [.null, .int 0])) := lk_new (ix := 30) (ci := 7) (N := 2) (C := RX7) (T := TX7) (ty0 := tyX7) (by decide +kernel) rfl in_7 tyX7_ok tb_68 tb_69 tb_70 rfl (by decide +kernel) (by decide +kernel)
theorem k_8_62 (L : Nat) (xs : Nat → Int32) : ll_OK1 cX1_init RX1 none true ll_mN ll_mR ll_mK ll_cnt L xs false 62 (.inl (lo_dup 63)) := lk_dup (by decide +kernel)
theorem k_8_63 (L : Nat) (xs : Nat → Int32) : ll_OK1 cX1_init RX1 none true ll_mN ll_mR ll_mK ll_cnt L xs false 63 (.inl (lo_push 66 (.int 300))) := lk_sipush (n := 300) (by decide +kernel) (by decide)
theorem k_8_66 (L : Nat) (xs : Nat → Int32) : ll_OK1 cX1_init RX1 none true ll_mN ll_mR ll_mK ll_cnt L xs false 66 (.inr (.inl (70, 2, 69))) := ⟨rfl, by decide, by rw [mN_70, mK_70, mR_70]; exact lj_i 32 1 7 (by decide +kernel) (Or.inl tb_71) tb_72 rfl rfl rfl (by decide +kernel) rfl⟩
theorem k_8_69 (L : Nat) (xs : Nat → Int32) : ll_OK1 cX1_init RX1 none true ll_mN ll_mR ll_mK ll_cnt L xs false 69 (.inl (lo_putf 72 1 6 2)) := lk_putf (ix := 35) (ci := 1) (k := 6) (C := RX1) (T := TX1) (N := 12) (ty0 := tyX1) (by decide +kernel) rfl in_1 tyX1_ok nmX1 (by decide) tb_73 (fun B adr v w h1 h2 => ll_fit_obj (B := B) (adr := adr) h1 h2) (Or.inr ⟨rfl, rfl, rfl⟩)
theorem k_8_72 (L : Nat) (xs : Nat → Int32) : ll_OK1 cX1_init RX1 none true ll_mN ll_mR ll_mK ll_cnt L xs false 72 (.inl (lo_aload 73 0)) := lk_aload_n (k := 0) (by decide +kernel) rfl
theorem k_8_73 (L : Nat) (xs : Nat → Int32) : ll_OK1 cX1_init RX1 none true ll_mN ll_mR ll_mK ll_cnt L xs false 73 (.inl (lo_push 76 (.int 300))) := lk_sipush (n := 300) (by decide +kernel) (by decide)
theorem k_8_76 (L : Nat) (xs : Nat → Int32) : ll_OK1 cX1_init RX1 none true ll_mN ll_mR ll_mK ll_cnt L xs false 76 (.inl (lo_newa 78 0)) := lk_newa_int (by decide +kernel) tb_61
theorem k_8_78 (L : Nat) (xs : Nat → Int32) : ll_OK1 cX1_init RX1 none true ll_mN ll_mR ll_mK ll_cnt L xs false 78 (.inl (lo_putf 81 1 7 2)) := lk_putf (ix := 39) (ci := 1) (k := 7) (C := RX1) (T := TX1) (N := 12) (ty0 := tyX1) (by decide +kernel) rfl in_1 tyX1_ok nmX1 (by decide) tb_74 (fun B adr v w h1 h2 => ll_fit_arr (B := B) (adr := adr) h1 h2) (Or.inr ⟨rfl, rfl, rfl⟩)
theorem k_8_81 (L : Nat) (xs : Nat → Int32) : ll_OK1 cX1_init RX1 none true ll_mN ll_mR ll_mK ll_cnt L xs false 81 (.inr (.inr 0)) := ⟨fun _ => ⟨(by decide +kernel), rfl⟩, (fun h => by cases h), fun h => by cases h⟩
theorem ok_8 (L : Nat) (xs : Nat → Int32) : ∀ q ∈ cd_8, ll_OK1 cX1_init RX1 none true ll_mN ll_mR ll_mK ll_cnt L xs false q.1 q.2 :=
  List.forall_mem_cons.mpr ⟨k_8_0 L xs, List.forall_mem_cons.mpr ⟨k_8_1 L xs, List.forall_mem_cons.mpr ⟨k_8_4 L xs, List.forall_mem_cons.mpr ⟨k_8_5 L xs, List.forall_mem_cons.mpr ⟨k_8_8 L xs, List.forall_mem_cons.mpr ⟨k_8_10 L xs, List.forall_mem_cons.mpr ⟨k_8_13 L xs, List.forall_mem_cons.mpr ⟨k_8_14 L xs, List.forall_mem_cons.mpr ⟨k_8_17 L xs, List.forall_mem_cons.mpr ⟨k_8_19 L xs, List.forall_mem_cons.mpr ⟨k_8_22 L xs, List.forall_mem_cons.mpr ⟨k_8_23 L xs, List.forall_mem_cons.mpr ⟨k_8_26 L xs, List.forall_mem_cons.mpr ⟨k_8_28 L xs, List.forall_mem_cons.mpr ⟨k_8_31 L xs, List.forall_mem_cons.mpr ⟨k_8_32 L xs, List.forall_mem_cons.mpr ⟨k_8_35 L xs, List.forall_mem_cons.mpr ⟨k_8_37 L xs, List.forall_mem_cons.mpr ⟨k_8_40 L xs, List.forall_mem_cons.mpr ⟨k_8_41 L xs, List.forall_mem_cons.mpr ⟨k_8_44 L xs, List.forall_mem_cons.mpr ⟨k_8_46 L xs, List.forall_mem_cons.mpr ⟨k_8_49 L xs, List.forall_mem_cons.mpr ⟨k_8_50 L xs, List.forall_mem_cons.mpr ⟨k_8_53 L xs, List.forall_mem_cons.mpr ⟨k_8_55 L xs, List.forall_mem_cons.mpr ⟨k_8_58 L xs, List.forall_mem_cons.mpr ⟨k_8_59 L xs, List.forall_mem_cons.mpr ⟨k_8_62 L xs, List.forall_mem_cons.mpr ⟨k_8_63 L xs, List.forall_mem_cons.mpr ⟨k_8_66 L xs, List.forall_mem_cons.mpr ⟨k_8_69 L xs, List.forall_mem_cons.mpr ⟨k_8_72 L xs, List.forall_mem_cons.mpr ⟨k_8_73 L xs, List.forall_mem_cons.mpr ⟨k_8_76 L xs, List.forall_mem_cons.mpr ⟨k_8_78 L xs, List.forall_mem_cons.mpr ⟨k_8_81 L xs, fun _ h => absurd h List.not_mem_nil⟩⟩⟩⟩⟩⟩⟩⟩⟩⟩⟩⟩⟩⟩⟩⟩⟩⟩⟩⟩⟩⟩⟩⟩⟩⟩⟩⟩⟩⟩⟩⟩⟩⟩⟩⟩⟩
/-- InclusionProver$Lines.clear.()V -/
def cd_9 : List (Nat × ll_O) := [
  (0, .inl (lo_aload 1 0)),
  (1, .inl (lo_push 2 (.int 0))),
  (2, .inl (lo_putf 5 1 8 0)),
  (5, .inl (lo_aload 6 0)),
  (6, .inl (lo_push 7 (.int 0))),
  (7, .inl (lo_putf 10 1 9 0)),
  (10, .inl (lo_aload 11 0)),
  (11, .inl (lo_push 12 (.int 0))),
  (12, .inl (lo_putf 15 1 10 0)),
  (15, .inl (lo_aload 16 0)),
  (16, .inl (lo_push 17 (.int 0))),
  (17, .inl (lo_putf 20 1 11 1)),
  (20, .inl (lo_aload 21 0)),
  (21, .inl (lo_getf 24 1 6)),
  (24, .inr (.inl (71, 1, 27))),
  (27, .inr (.inr 0))]
theorem k_9_0 (L : Nat) (xs : Nat → Int32) : ll_OK1 cX1_clear RX1 none false ll_mN ll_mR ll_mK ll_cnt L xs false 0 (.inl (lo_aload 1 0)) := lk_aload_n (k := 0) (by decide +kernel) rfl
theorem k_9_1 (L : Nat) (xs : Nat → Int32) : ll_OK1 cX1_clear RX1 none false ll_mN ll_mR ll_mK ll_cnt L xs false 1 (.inl (lo_push 2 (.int 0))) := lk_iconst (n := 0) (by decide +kernel) (by decide)
theorem k_9_2 (L : Nat) (xs : Nat → Int32) : ll_OK1 cX1_clear RX1 none false ll_mN ll_mR ll_mK ll_cnt L xs false 2 (.inl (lo_putf 5 1 8 0)) := lk_putf (ix := 42) (ci := 1) (k := 8) (C := RX1) (T := TX1) (N := 12) (ty0 := tyX1) (by decide +kernel) rfl in_1 tyX1_ok nmX1 (by decide) tb_75 (fun B adr v w h1 h2 => ll_fit_int (B := B) (adr := adr) h1 h2) (Or.inl rfl)
theorem k_9_5 (L : Nat) (xs : Nat → Int32) : ll_OK1 cX1_clear RX1 none false ll_mN ll_mR ll_mK ll_cnt L xs false 5 (.inl (lo_aload 6 0)) := lk_aload_n (k := 0) (by decide +kernel) rfl
theorem k_9_6 (L : Nat) (xs : Nat → Int32) : ll_OK1 cX1_clear RX1 none false ll_mN ll_mR ll_mK ll_cnt L xs false 6 (.inl (lo_push 7 (.int 0))) := lk_iconst (n := 0) (by decide +kernel) (by decide)
theorem k_9_7 (L : Nat) (xs : Nat → Int32) : ll_OK1 cX1_clear RX1 none false ll_mN ll_mR ll_mK ll_cnt L xs false 7 (.inl (lo_putf 10 1 9 0)) := lk_putf (ix := 46) (ci := 1) (k := 9) (C := RX1) (T := TX1) (N := 12) (ty0 := tyX1) (by decide +kernel) rfl in_1 tyX1_ok nmX1 (by decide) tb_76 (fun B adr v w h1 h2 => ll_fit_int (B := B) (adr := adr) h1 h2) (Or.inl rfl)
theorem k_9_10 (L : Nat) (xs : Nat → Int32) : ll_OK1 cX1_clear RX1 none false ll_mN ll_mR ll_mK ll_cnt L xs false 10 (.inl (lo_aload 11 0)) := lk_aload_n (k := 0) (by decide +kernel) rfl
theorem k_9_11 (L : Nat) (xs : Nat → Int32) : ll_OK1 cX1_clear RX1 none false ll_mN ll_mR ll_mK ll_cnt L xs false 11 (.inl (lo_push 12 (.int 0))) := lk_iconst (n := 0) (by decide +kernel) (by decide)
theorem k_9_12 (L : Nat) (xs : Nat → Int32) : ll_OK1 cX1_clear RX1 none false ll_mN ll_mR ll_mK ll_cnt L xs false 12 (.inl (lo_putf 15 1 10 0)) := lk_putf (ix := 49) (ci := 1) (k := 10) (C := RX1) (T := TX1) (N := 12) (ty0 := tyX1) (by decide +kernel) rfl in_1 tyX1_ok nmX1 (by decide) tb_77 (fun B adr v w h1 h2 => ll_fit_int (B := B) (adr := adr) h1 h2) (Or.inl rfl)
theorem k_9_15 (L : Nat) (xs : Nat → Int32) : ll_OK1 cX1_clear RX1 none false ll_mN ll_mR ll_mK ll_cnt L xs false 15 (.inl (lo_aload 16 0)) := lk_aload_n (k := 0) (by decide +kernel) rfl
theorem k_9_16 (L : Nat) (xs : Nat → Int32) : ll_OK1 cX1_clear RX1 none false ll_mN ll_mR ll_mK ll_cnt L xs false 16 (.inl (lo_push 17 (.int 0))) := lk_iconst (n := 0) (by decide +kernel) (by decide)
theorem k_9_17 (L : Nat) (xs : Nat → Int32) : ll_OK1 cX1_clear RX1 none false ll_mN ll_mR ll_mK ll_cnt L xs false 17 (.inl (lo_putf 20 1 11 1)) := lk_putf (ix := 52) (ci := 1) (k := 11) (C := RX1) (T := TX1) (N := 12) (ty0 := tyX1) (by decide +kernel) rfl in_1 tyX1_ok nmX1 (by decide) tb_78 (fun B adr v w h1 h2 => ll_fit_bool (B := B) (adr := adr) h1 h2) (Or.inl rfl)
theorem k_9_20 (L : Nat) (xs : Nat → Int32) : ll_OK1 cX1_clear RX1 none false ll_mN ll_mR ll_mK ll_cnt L xs false 20 (.inl (lo_aload 21 0)) := lk_aload_n (k := 0) (by decide +kernel) rfl
theorem k_9_21 (L : Nat) (xs : Nat → Int32) : ll_OK1 cX1_clear RX1 none false ll_mN ll_mR ll_mK ll_cnt L xs false 21 (.inl (lo_getf 24 1 6)) := lk_getf (ix := 35) (ci := 1) (k := 6) (C := RX1) (T := TX1) (N := 12) (by decide +kernel) rfl in_1 (by decide) tb_73
theorem k_9_24 (L : Nat) (xs : Nat → Int32) : ll_OK1 cX1_clear RX1 none false ll_mN ll_mR ll_mK ll_cnt L xs false 24 (.inr (.inl (71, 1, 27))) := ⟨rfl, by decide, by rw [mN_71, mK_71, mR_71]; exact lj_v 56 0 7 (RX7, TX7, 2) (by decide +kernel) tb_79 tb_80 tb_81 rfl rfl rfl rfl (by decide +kernel)⟩
theorem k_9_27 (L : Nat) (xs : Nat → Int32) : ll_OK1 cX1_clear RX1 none false ll_mN ll_mR ll_mK ll_cnt L xs false 27 (.inr (.inr 0)) := ⟨fun _ => ⟨(by decide +kernel), rfl⟩, (fun h => by cases h), fun h => by cases h⟩
theorem ok_9 (L : Nat) (xs : Nat → Int32) : ∀ q ∈ cd_9, ll_OK1 cX1_clear RX1 none false ll_mN ll_mR ll_mK ll_cnt L xs false q.1 q.2 :=
  List.forall_mem_cons.mpr ⟨k_9_0 L xs, List.forall_mem_cons.mpr ⟨k_9_1 L xs, List.forall_mem_cons.mpr ⟨k_9_2 L xs, List.forall_mem_cons.mpr ⟨k_9_5 L xs, List.forall_mem_cons.mpr ⟨k_9_6 L xs, List.forall_mem_cons.mpr ⟨k_9_7 L xs, List.forall_mem_cons.mpr ⟨k_9_10 L xs, List.forall_mem_cons.mpr ⟨k_9_11 L xs, List.forall_mem_cons.mpr ⟨k_9_12 L xs, List.forall_mem_cons.mpr ⟨k_9_15 L xs, List.forall_mem_cons.mpr ⟨k_9_16 L xs, List.forall_mem_cons.mpr ⟨k_9_17 L xs, List.forall_mem_cons.mpr ⟨k_9_20 L xs, List.forall_mem_cons.mpr ⟨k_9_21 L xs, List.forall_mem_cons.mpr ⟨k_9_24 L xs, List.forall_mem_cons.mpr ⟨k_9_27 L xs, fun _ h => absurd h List.not_mem_nil⟩⟩⟩⟩⟩⟩⟩⟩⟩⟩⟩⟩⟩⟩⟩⟩
/-- InclusionProver$Lines.isLine.(I)Z -/
def cd_10 : List (Nat × ll_O) := [
  (0, .inl (lo_iload 1 1)),
  (1, .inl (lo_if 16 4 (fun x => decide (x < 0)))),
  (4, .inl (lo_iload 5 1)),
  (5, .inl (lo_aload 6 0)),
  (6, .inl (lo_getf 9 1 8)),
  (9, .inl (lo_cmp 16 12 (fun x y => decide (y ≤ x)))),
  (12, .inl (lo_push 13 (.int 1))),
  (13, .inl (lo_goto 17)),
  (16, .inl (lo_push 17 (.int 0))),
  (17, .inr (.inr 2))]
theorem k_10_0 (L : Nat) (xs : Nat → Int32) : ll_OK1 cX1_isLine RX1 (some .boolean) false ll_mN ll_mR ll_mK ll_cnt L xs false 0 (.inl (lo_iload 1 1)) := lk_iload_n (k := 1) (by decide +kernel) rfl
theorem k_10_1 (L : Nat) (xs : Nat → Int32) : ll_OK1 cX1_isLine RX1 (some .boolean) false ll_mN ll_mR ll_mK ll_cnt L xs false 1 (.inl (lo_if 16 4 (fun x => decide (x < 0)))) := lk_if_lt (off := 15) (by decide +kernel) rfl
theorem k_10_4 (L : Nat) (xs : Nat → Int32) : ll_OK1 cX1_isLine RX1 (some .boolean) false ll_mN ll_mR ll_mK ll_cnt L xs false 4 (.inl (lo_iload 5 1)) := lk_iload_n (k := 1) (by decide +kernel) rfl
theorem k_10_5 (L : Nat) (xs : Nat → Int32) : ll_OK1 cX1_isLine RX1 (some .boolean) false ll_mN ll_mR ll_mK ll_cnt L xs false 5 (.inl (lo_aload 6 0)) := lk_aload_n (k := 0) (by decide +kernel) rfl
theorem k_10_6 (L : Nat) (xs : Nat → Int32) : ll_OK1 cX1_isLine RX1 (some .boolean) false ll_mN ll_mR ll_mK ll_cnt L xs false 6 (.inl (lo_getf 9 1 8)) := lk_getf (ix := 42) (ci := 1) (k := 8) (C := RX1) (T := TX1) (N := 12) (by decide +kernel) rfl in_1 (by decide) tb_75
theorem k_10_9 (L : Nat) (xs : Nat → Int32) : ll_OK1 cX1_isLine RX1 (some .boolean) false ll_mN ll_mR ll_mK ll_cnt L xs false 9 (.inl (lo_cmp 16 12 (fun x y => decide (y ≤ x)))) := lk_icmp_ge (off := 7) (by decide +kernel) rfl
theorem k_10_12 (L : Nat) (xs : Nat → Int32) : ll_OK1 cX1_isLine RX1 (some .boolean) false ll_mN ll_mR ll_mK ll_cnt L xs false 12 (.inl (lo_push 13 (.int 1))) := lk_iconst (n := 1) (by decide +kernel) (by decide)
theorem k_10_13 (L : Nat) (xs : Nat → Int32) : ll_OK1 cX1_isLine RX1 (some .boolean) false ll_mN ll_mR ll_mK ll_cnt L xs false 13 (.inl (lo_goto 17)) := lk_goto (off := 4) (by decide +kernel) rfl
theorem k_10_16 (L : Nat) (xs : Nat → Int32) : ll_OK1 cX1_isLine RX1 (some .boolean) false ll_mN ll_mR ll_mK ll_cnt L xs false 16 (.inl (lo_push 17 (.int 0))) := lk_iconst (n := 0) (by decide +kernel) (by decide)
theorem k_10_17 (L : Nat) (xs : Nat → Int32) : ll_OK1 cX1_isLine RX1 (some .boolean) false ll_mN ll_mR ll_mK ll_cnt L xs false 17 (.inr (.inr 2)) := ⟨(fun h => by cases h), (fun h => by cases h), fun _ => ⟨(by decide +kernel), rfl⟩⟩
theorem ok_10 (L : Nat) (xs : Nat → Int32) : ∀ q ∈ cd_10, ll_OK1 cX1_isLine RX1 (some .boolean) false ll_mN ll_mR ll_mK ll_cnt L xs false q.1 q.2 :=
  List.forall_mem_cons.mpr ⟨k_10_0 L xs, List.forall_mem_cons.mpr ⟨k_10_1 L xs, List.forall_mem_cons.mpr ⟨k_10_4 L xs, List.forall_mem_cons.mpr ⟨k_10_5 L xs, List.forall_mem_cons.mpr ⟨k_10_6 L xs, List.forall_mem_cons.mpr ⟨k_10_9 L xs, List.forall_mem_cons.mpr ⟨k_10_12 L xs, List.forall_mem_cons.mpr ⟨k_10_13 L xs, List.forall_mem_cons.mpr ⟨k_10_16 L xs, List.forall_mem_cons.mpr ⟨k_10_17 L xs, fun _ h => absurd h List.not_mem_nil⟩⟩⟩⟩⟩⟩⟩⟩⟩⟩
/-- InclusionProver$Lines.isPremise.(II)Z -/
def cd_11 : List (Nat × ll_O) := [
  (0, .inl (lo_aload 1 0)),
  (1, .inl (lo_iload 2 1)),
  (2, .inr (.inl (10, 2, 5))),
  (5, .inl (lo_if 31 8 (fun x => decide (x = 0)))),
  (8, .inl (lo_iload 9 2)),
  (9, .inl (lo_push 11 (.int 10))),
  (11, .inl (lo_cmp 31 14 (fun x y => decide (x < y)))),
  (14, .inl (lo_iload 15 2)),
  (15, .inl (lo_push 17 (.int 10))),
  (17, .inl (lo_bin 18 (fun x y => x - y))),
  (18, .inl (lo_aload 19 0)),
  (19, .inl (lo_getf 22 1 4)),
  (22, .inl (lo_iload 23 1)),
  (23, .inl (lo_ald 24 0)),
  (24, .inl (lo_cmp 31 27 (fun x y => decide (y ≤ x)))),
  (27, .inl (lo_push 28 (.int 1))),
  (28, .inl (lo_goto 32)),
  (31, .inl (lo_push 32 (.int 0))),
  (32, .inr (.inr 2))]
theorem k_11_0 (L : Nat) (xs : Nat → Int32) : ll_OK1 cX1_isPremise RX1 (some .boolean) false ll_mN ll_mR ll_mK ll_cnt L xs false 0 (.inl (lo_aload 1 0)) := lk_aload_n (k := 0) (by decide +kernel) rfl
theorem k_11_1 (L : Nat) (xs : Nat → Int32) : ll_OK1 cX1_isPremise RX1 (some .boolean) false ll_mN ll_mR ll_mK ll_cnt L xs false 1 (.inl (lo_iload 2 1)) := lk_iload_n (k := 1) (by decide +kernel) rfl
theorem k_11_2 (L : Nat) (xs : Nat → Int32) : ll_OK1 cX1_isPremise RX1 (some .boolean) false ll_mN ll_mR ll_mK ll_cnt L xs false 2 (.inr (.inl (10, 2, 5))) := ⟨rfl, by decide, by rw [mN_10, mK_10, mR_10]; exact lj_v 59 1 1 (RX1, TX1, 12) (by decide +kernel) tb_82 tb_46 tb_47 rfl rfl rfl rfl (by decide +kernel)⟩
theorem k_11_5 (L : Nat) (xs : Nat → Int32) : ll_OK1 cX1_isPremise RX1 (some .boolean) false ll_mN ll_mR ll_mK ll_cnt L xs false 5 (.inl (lo_if 31 8 (fun x => decide (x = 0)))) := lk_if_eq (off := 26) (by decide +kernel) rfl
theorem k_11_8 (L : Nat) (xs : Nat → Int32) : ll_OK1 cX1_isPremise RX1 (some .boolean) false ll_mN ll_mR ll_mK ll_cnt L xs false 8 (.inl (lo_iload 9 2)) := lk_iload_n (k := 2) (by decide +kernel) rfl
theorem k_11_9 (L : Nat) (xs : Nat → Int32) : ll_OK1 cX1_isPremise RX1 (some .boolean) false ll_mN ll_mR ll_mK ll_cnt L xs false 9 (.inl (lo_push 11 (.int 10))) := lk_bipush (n := 10) (by decide +kernel) (by decide)
theorem k_11_11 (L : Nat) (xs : Nat → Int32) : ll_OK1 cX1_isPremise RX1 (some .boolean) false ll_mN ll_mR ll_mK ll_cnt L xs false 11 (.inl (lo_cmp 31 14 (fun x y => decide (x < y)))) := lk_icmp_lt (off := 20) (by decide +kernel) rfl
theorem k_11_14 (L : Nat) (xs : Nat → Int32) : ll_OK1 cX1_isPremise RX1 (some .boolean) false ll_mN ll_mR ll_mK ll_cnt L xs false 14 (.inl (lo_iload 15 2)) := lk_iload_n (k := 2) (by decide +kernel) rfl
theorem k_11_15 (L : Nat) (xs : Nat → Int32) : ll_OK1 cX1_isPremise RX1 (some .boolean) false ll_mN ll_mR ll_mK ll_cnt L xs false 15 (.inl (lo_push 17 (.int 10))) := lk_bipush (n := 10) (by decide +kernel) (by decide)
theorem k_11_17 (L : Nat) (xs : Nat → Int32) : ll_OK1 cX1_isPremise RX1 (some .boolean) false ll_mN ll_mR ll_mK ll_cnt L xs false 17 (.inl (lo_bin 18 (fun x y => x - y))) := lk_isub (by decide +kernel)
theorem k_11_18 (L : Nat) (xs : Nat → Int32) : ll_OK1 cX1_isPremise RX1 (some .boolean) false ll_mN ll_mR ll_mK ll_cnt L xs false 18 (.inl (lo_aload 19 0)) := lk_aload_n (k := 0) (by decide +kernel) rfl
theorem k_11_19 (L : Nat) (xs : Nat → Int32) : ll_OK1 cX1_isPremise RX1 (some .boolean) false ll_mN ll_mR ll_mK ll_cnt L xs false 19 (.inl (lo_getf 22 1 4)) := lk_getf (ix := 24) (ci := 1) (k := 4) (C := RX1) (T := TX1) (N := 12) (by decide +kernel) rfl in_1 (by decide) tb_66
theorem k_11_22 (L : Nat) (xs : Nat → Int32) : ll_OK1 cX1_isPremise RX1 (some .boolean) false ll_mN ll_mR ll_mK ll_cnt L xs false 22 (.inl (lo_iload 23 1)) := lk_iload_n (k := 1) (by decide +kernel) rfl
theorem k_11_23 (L : Nat) (xs : Nat → Int32) : ll_OK1 cX1_isPremise RX1 (some .boolean) false ll_mN ll_mR ll_mK ll_cnt L xs false 23 (.inl (lo_ald 24 0)) := lk_iald (by decide +kernel)
theorem k_11_24 (L : Nat) (xs : Nat → Int32) : ll_OK1 cX1_isPremise RX1 (some .boolean) false ll_mN ll_mR ll_mK ll_cnt L xs false 24 (.inl (lo_cmp 31 27 (fun x y => decide (y ≤ x)))) := lk_icmp_ge (off := 7) (by decide +kernel) rfl
theorem k_11_27 (L : Nat) (xs : Nat → Int32) : ll_OK1 cX1_isPremise RX1 (some .boolean) false ll_mN ll_mR ll_mK ll_cnt L xs false 27 (.inl (lo_push 28 (.int 1))) := lk_iconst (n := 1) (by decide +kernel) (by decide)
theorem k_11_28 (L : Nat) (xs : Nat → Int32) : ll_OK1 cX1_isPremise RX1 (some .boolean) false ll_mN ll_mR ll_mK ll_cnt L xs false 28 (.inl (lo_goto 32)) := lk_goto (off := 4) (by decide +kernel) rfl
theorem k_11_31 (L : Nat) (xs : Nat → Int32) : ll_OK1 cX1_isPremise RX1 (some .boolean) false ll_mN ll_mR ll_mK ll_cnt L xs false 31 (.inl (lo_push 32 (.int 0))) := lk_iconst (n := 0) (by decide +kernel) (by decide)
theorem k_11_32 (L : Nat) (xs : Nat → Int32) : ll_OK1 cX1_isPremise RX1 (some .boolean) false ll_mN ll_mR ll_mK ll_cnt L xs false 32 (.inr (.inr 2)) := ⟨(fun h => by cases h), (fun h => by cases h), fun _ => ⟨(by decide +kernel), rfl⟩⟩
theorem ok_11 (L : Nat) (xs : Nat → Int32) : ∀ q ∈ cd_11, ll_OK1 cX1_isPremise RX1 (some .boolean) false ll_mN ll_mR ll_mK ll_cnt L xs false q.1 q.2 :=
  List.forall_mem_cons.mpr ⟨k_11_0 L xs, List.forall_mem_cons.mpr ⟨k_11_1 L xs, List.forall_mem_cons.mpr ⟨k_11_2 L xs, List.forall_mem_cons.mpr ⟨k_11_5 L xs, List.forall_mem_cons.mpr ⟨k_11_8 L xs, List.forall_mem_cons.mpr ⟨k_11_9 L xs, List.forall_mem_cons.mpr ⟨k_11_11 L xs, List.forall_mem_cons.mpr ⟨k_11_14 L xs, List.forall_mem_cons.mpr ⟨k_11_15 L xs, List.forall_mem_cons.mpr ⟨k_11_17 L xs, List.forall_mem_cons.mpr ⟨k_11_18 L xs, List.forall_mem_cons.mpr ⟨k_11_19 L xs, List.forall_mem_cons.mpr ⟨k_11_22 L xs, List.forall_mem_cons.mpr ⟨k_11_23 L xs, List.forall_mem_cons.mpr ⟨k_11_24 L xs, List.forall_mem_cons.mpr ⟨k_11_27 L xs, List.forall_mem_cons.mpr ⟨k_11_28 L xs, List.forall_mem_cons.mpr ⟨k_11_31 L xs, List.forall_mem_cons.mpr ⟨k_11_32 L xs, fun _ h => absurd h List.not_mem_nil⟩⟩⟩⟩⟩⟩⟩⟩⟩⟩⟩⟩⟩⟩⟩⟩⟩⟩⟩
/-- InclusionProver$Lines.premiseOf.(II)I -/
def cd_12 : List (Nat × ll_O) := [
  (0, .inl (lo_aload 1 0)),
  (1, .inl (lo_iload 2 1)),
  (2, .inr (.inl (10, 2, 5))),
  (5, .inl (lo_if 38 8 (fun x => decide (x = 0)))),
  (8, .inl (lo_iload 9 2)),
  (9, .inl (lo_if 38 12 (fun x => decide (x < 0)))),
  (12, .inl (lo_iload 13 2)),
  (13, .inl (lo_aload 14 0)),
  (14, .inl (lo_getf 17 1 4)),
  (17, .inl (lo_iload 18 1)),
  (18, .inl (lo_ald 19 0)),
  (19, .inl (lo_cmp 38 22 (fun x y => decide (y ≤ x)))),
  (22, .inl (lo_aload 23 0)),
  (23, .inl (lo_getf 26 1 5)),
  (26, .inl (lo_aload 27 0)),
  (27, .inl (lo_getf 30 1 3)),
  (30, .inl (lo_iload 31 1)),
  (31, .inl (lo_ald 32 0)),
  (32, .inl (lo_iload 33 2)),
  (33, .inl (lo_bin 34 (fun x y => x + y))),
  (34, .inl (lo_ald 35 0)),
  (35, .inl (lo_goto 39)),
  (38, .inl (lo_push 39 (.int (-1)))),
  (39, .inr (.inr 1))]
theorem k_12_0 (L : Nat) (xs : Nat → Int32) : ll_OK1 cX1_premiseOf RX1 (some .int) false ll_mN ll_mR ll_mK ll_cnt L xs false 0 (.inl (lo_aload 1 0)) := lk_aload_n (k := 0) (by decide +kernel) rfl
theorem k_12_1 (L : Nat) (xs : Nat → Int32) : ll_OK1 cX1_premiseOf RX1 (some .int) false ll_mN ll_mR ll_mK ll_cnt L xs false 1 (.inl (lo_iload 2 1)) := lk_iload_n (k := 1) (by decide +kernel) rfl
theorem k_12_2 (L : Nat) (xs : Nat → Int32) : ll_OK1 cX1_premiseOf RX1 (some .int) false ll_mN ll_mR ll_mK ll_cnt L xs false 2 (.inr (.inl (10, 2, 5))) := ⟨rfl, by decide, by rw [mN_10, mK_10, mR_10]; exact lj_v 59 1 1 (RX1, TX1, 12) (by decide +kernel) tb_82 tb_46 tb_47 rfl rfl rfl rfl (by decide +kernel)⟩
theorem k_12_5 (L : Nat) (xs : Nat → Int32) : ll_OK1 cX1_premiseOf RX1 (some .int) false ll_mN ll_mR ll_mK ll_cnt L xs false 5 (.inl (lo_if 38 8 (fun x => decide (x = 0)))) := lk_if_eq (off := 33) (by decide +kernel) rfl
theorem k_12_8 (L : Nat) (xs : Nat → Int32) : ll_OK1 cX1_premiseOf RX1 (some .int) false ll_mN ll_mR ll_mK ll_cnt L xs false 8 (.inl (lo_iload 9 2)) := lk_iload_n (k := 2) (by decide +kernel) rfl
theorem k_12_9 (L : Nat) (xs : Nat → Int32) : ll_OK1 cX1_premiseOf RX1 (some .int) false ll_mN ll_mR ll_mK ll_cnt L xs false 9 (.inl (lo_if 38 12 (fun x => decide (x < 0)))) := lk_if_lt (off := 29) (by decide +kernel) rfl
theorem k_12_12 (L : Nat) (xs : Nat → Int32) : ll_OK1 cX1_premiseOf RX1 (some .int) false ll_mN ll_mR ll_mK ll_cnt L xs false 12 (.inl (lo_iload 13 2)) := lk_iload_n (k := 2) (by decide +kernel) rfl
theorem k_12_13 (L : Nat) (xs : Nat → Int32) : ll_OK1 cX1_premiseOf RX1 (some .int) false ll_mN ll_mR ll_mK ll_cnt L xs false 13 (.inl (lo_aload 14 0)) := lk_aload_n (k := 0) (by decide +kernel) rfl
theorem k_12_14 (L : Nat) (xs : Nat → Int32) : ll_OK1 cX1_premiseOf RX1 (some .int) false ll_mN ll_mR ll_mK ll_cnt L xs false 14 (.inl (lo_getf 17 1 4)) := lk_getf (ix := 24) (ci := 1) (k := 4) (C := RX1) (T := TX1) (N := 12) (by decide +kernel) rfl in_1 (by decide) tb_66
theorem k_12_17 (L : Nat) (xs : Nat → Int32) : ll_OK1 cX1_premiseOf RX1 (some .int) false ll_mN ll_mR ll_mK ll_cnt L xs false 17 (.inl (lo_iload 18 1)) := lk_iload_n (k := 1) (by decide +kernel) rfl
theorem k_12_18 (L : Nat) (xs : Nat → Int32) : ll_OK1 cX1_premiseOf RX1 (some .int) false ll_mN ll_mR ll_mK ll_cnt L xs false 18 (.inl (lo_ald 19 0)) := lk_iald (by decide +kernel)
theorem k_12_19 (L : Nat) (xs : Nat → Int32) : ll_OK1 cX1_premiseOf RX1 (some .int) false ll_mN ll_mR ll_mK ll_cnt L xs false 19 (.inl (lo_cmp 38 22 (fun x y => decide (y ≤ x)))) := lk_icmp_ge (off := 19) (by decide +kernel) rfl
theorem k_12_22 (L : Nat) (xs : Nat → Int32) : ll_OK1 cX1_premiseOf RX1 (some .int) false ll_mN ll_mR ll_mK ll_cnt L xs false 22 (.inl (lo_aload 23 0)) := lk_aload_n (k := 0) (by decide +kernel) rfl
theorem k_12_23 (L : Nat) (xs : Nat → Int32) : ll_OK1 cX1_premiseOf RX1 (some .int) false ll_mN ll_mR ll_mK ll_cnt L xs false 23 (.inl (lo_getf 26 1 5)) := lk_getf (ix := 27) (ci := 1) (k := 5) (C := RX1) (T := TX1) (N := 12) (by decide +kernel) rfl in_1 (by decide) tb_67
theorem k_12_26 (L : Nat) (xs : Nat → Int32) : ll_OK1 cX1_premiseOf RX1 (some .int) false ll_mN ll_mR ll_mK ll_cnt L xs false 26 (.inl (lo_aload 27 0)) := lk_aload_n (k := 0) (by decide +kernel) rfl
theorem k_12_27 (L : Nat) (xs : Nat → Int32) : ll_OK1 cX1_premiseOf RX1 (some .int) false ll_mN ll_mR ll_mK ll_cnt L xs false 27 (.inl (lo_getf 30 1 3)) := lk_getf (ix := 21) (ci := 1) (k := 3) (C := RX1) (T := TX1) (N := 12) (by decide +kernel) rfl in_1 (by decide) tb_65
theorem k_12_30 (L : Nat) (xs : Nat → Int32) : ll_OK1 cX1_premiseOf RX1 (some .int) false ll_mN ll_mR ll_mK ll_cnt L xs false 30 (.inl (lo_iload 31 1)) := lk_iload_n (k := 1) (by decide +kernel) rfl
theorem k_12_31 (L : Nat) (xs : Nat → Int32) : ll_OK1 cX1_premiseOf RX1 (some .int) false ll_mN ll_mR ll_mK ll_cnt L xs false 31 (.inl (lo_ald 32 0)) := lk_iald (by decide +kernel)
theorem k_12_32 (L : Nat) (xs : Nat → Int32) : ll_OK1 cX1_premiseOf RX1 (some .int) false ll_mN ll_mR ll_mK ll_cnt L xs false 32 (.inl (lo_iload 33 2)) := lk_iload_n (k := 2) (by decide +kernel) rfl
theorem k_12_33 (L : Nat) (xs : Nat → Int32) : ll_OK1 cX1_premiseOf RX1 (some .int) false ll_mN ll_mR ll_mK ll_cnt L xs false 33 (.inl (lo_bin 34 (fun x y => x + y))) := lk_iadd (by decide +kernel)
theorem k_12_34 (L : Nat) (xs : Nat → Int32) : ll_OK1 cX1_premiseOf RX1 (some .int) false ll_mN ll_mR ll_mK ll_cnt L xs false 34 (.inl (lo_ald 35 0)) := lk_iald (by decide +kernel)
theorem k_12_35 (L : Nat) (xs : Nat → Int32) : ll_OK1 cX1_premiseOf RX1 (some .int) false ll_mN ll_mR ll_mK ll_cnt L xs false 35 (.inl (lo_goto 39)) := lk_goto (off := 4) (by decide +kernel) rfl
theorem k_12_38 (L : Nat) (xs : Nat → Int32) : ll_OK1 cX1_premiseOf RX1 (some .int) false ll_mN ll_mR ll_mK ll_cnt L xs false 38 (.inl (lo_push 39 (.int (-1)))) := lk_iconst (n := (-1)) (by decide +kernel) (by decide)
theorem k_12_39 (L : Nat) (xs : Nat → Int32) : ll_OK1 cX1_premiseOf RX1 (some .int) false ll_mN ll_mR ll_mK ll_cnt L xs false 39 (.inr (.inr 1)) := ⟨(fun h => by cases h), (fun _ => ⟨(by decide +kernel), rfl⟩), fun h => by cases h⟩
theorem ok_12 (L : Nat) (xs : Nat → Int32) : ∀ q ∈ cd_12, ll_OK1 cX1_premiseOf RX1 (some .int) false ll_mN ll_mR ll_mK ll_cnt L xs false q.1 q.2 :=
  List.forall_mem_cons.mpr ⟨k_12_0 L xs, List.forall_mem_cons.mpr ⟨k_12_1 L xs, List.forall_mem_cons.mpr ⟨k_12_2 L xs, List.forall_mem_cons.mpr ⟨k_12_5 L xs, List.forall_mem_cons.mpr ⟨k_12_8 L xs, List.forall_mem_cons.mpr ⟨k_12_9 L xs, List.forall_mem_cons.mpr ⟨k_12_12 L xs, List.forall_mem_cons.mpr ⟨k_12_13 L xs, List.forall_mem_cons.mpr ⟨k_12_14 L xs, List.forall_mem_cons.mpr ⟨k_12_17 L xs, List.forall_mem_cons.mpr ⟨k_12_18 L xs, List.forall_mem_cons.mpr ⟨k_12_19 L xs, List.forall_mem_cons.mpr ⟨k_12_22 L xs, List.forall_mem_cons.mpr ⟨k_12_23 L xs, List.forall_mem_cons.mpr ⟨k_12_26 L xs, List.forall_mem_cons.mpr ⟨k_12_27 L xs, List.forall_mem_cons.mpr ⟨k_12_30 L xs, List.forall_mem_cons.mpr ⟨k_12_31 L xs, List.forall_mem_cons.mpr ⟨k_12_32 L xs, List.forall_mem_cons.mpr ⟨k_12_33 L xs, List.forall_mem_cons.mpr ⟨k_12_34 L xs, List.forall_mem_cons.mpr ⟨k_12_35 L xs, List.forall_mem_cons.mpr ⟨k_12_38 L xs, List.forall_mem_cons.mpr ⟨k_12_39 L xs, fun _ h => absurd h List.not_mem_nil⟩⟩⟩⟩⟩⟩⟩⟩⟩⟩⟩⟩⟩⟩⟩⟩⟩⟩⟩⟩⟩⟩⟩⟩
/-- InclusionProver$Lines.addLine.(II)I -/
def cd_13 : List (Nat × ll_O) := [
  (0, .inl (lo_aload 1 0)),
  (1, .inl (lo_getf 4 1 8)),
  (4, .inl (lo_push 7 (.int 300))),
  (7, .inl (lo_cmp 12 10 (fun x y => decide (x < y)))),
  (10, .inl (lo_push 11 (.int (-1)))),
  (11, .inr (.inr 1)),
  (12, .inl (lo_aload 13 0)),
  (13, .inl (lo_getf 16 1 8)),
  (16, .inl (lo_istore 17 3)),
  (17, .inl (lo_aload 18 0)),
  (18, .inl (lo_dup 19)),
  (19, .inl (lo_getf 22 1 8)),
  (22, .inl (lo_push 23 (.int 1))),
  (23, .inl (lo_bin 24 (fun x y => x + y))),
  (24, .inl (lo_putf 27 1 8 0)),
  (27, .inl (lo_aload 28 0)),
  (28, .inl (lo_getf 31 1 0)),
  (31, .inl (lo_iload 32 3)),
  (32, .inl (lo_iload 33 1)),
  (33, .inl (lo_ast 34 0)),
  (34, .inl (lo_aload 35 0)),
  (35, .inl (lo_getf 38 1 1)),
  (38, .inl (lo_iload 39 3)),
  (39, .inl (lo_iload 40 2)),
  (40, .inl (lo_ast 41 0)),
  (41, .inl (lo_aload 42 0)),
  (42, .inl (lo_getf 45 1 2)),
  (45, .inl (lo_iload 46 3)),
  (46, .inl (lo_push 47 (.int (-1)))),
  (47, .inl (lo_ast 48 0)),
  (48, .inl (lo_aload 49 0)),
  (49, .inl (lo_getf 52 1 3)),
  (52, .inl (lo_iload 53 3)),
  (53, .inl (lo_push 54 (.int 0))),
  (54, .inl (lo_ast 55 0)),
  (55, .inl (lo_aload 56 0)),
  (56, .inl (lo_getf 59 1 4)),
  (59, .inl (lo_iload 60 3)),
  (60, .inl (lo_push 61 (.int 0))),
  (61, .inl (lo_ast 62 0)),
  (62, .inl (lo_iload 63 3)),
  (63, .inr (.inr 1))]
theorem k_13_0 (L : Nat) (xs : Nat → Int32) : ll_OK1 cX1_addLine RX1 (some .int) false ll_mN ll_mR ll_mK ll_cnt L xs false 0 (.inl (lo_aload 1 0)) := lk_aload_n (k := 0) (by decide +kernel) rfl
theorem k_13_1 (L : Nat) (xs : Nat → Int32) : ll_OK1 cX1_addLine RX1 (some .int) false ll_mN ll_mR ll_mK ll_cnt L xs false 1 (.inl (lo_getf 4 1 8)) := lk_getf (ix := 42) (ci := 1) (k := 8) (C := RX1) (T := TX1) (N := 12) (by decide +kernel) rfl in_1 (by decide) tb_75
theorem k_13_4 (L : Nat) (xs : Nat → Int32) : ll_OK1 cX1_addLine RX1 (some .int) false ll_mN ll_mR ll_mK ll_cnt L xs false 4 (.inl (lo_push 7 (.int 300))) := lk_sipush (n := 300) (by decide +kernel) (by decide)
theorem k_13_7 (L : Nat) (xs : Nat → Int32) : ll_OK1 cX1_addLine RX1 (some .int) false ll_mN ll_mR ll_mK ll_cnt L xs false 7 (.inl (lo_cmp 12 10 (fun x y => decide (x < y)))) := lk_icmp_lt (off := 5) (by decide +kernel) rfl
theorem k_13_10 (L : Nat) (xs : Nat → Int32) : ll_OK1 cX1_addLine RX1 (some .int) false ll_mN ll_mR ll_mK ll_cnt L xs false 10 (.inl (lo_push 11 (.int (-1)))) := lk_iconst (n := (-1)) (by decide +kernel) (by decide)
theorem k_13_11 (L : Nat) (xs : Nat → Int32) : ll_OK1 cX1_addLine RX1 (some .int) false ll_mN ll_mR ll_mK ll_cnt L xs false 11 (.inr (.inr 1)) := ⟨(fun h => by cases h), (fun _ => ⟨(by decide +kernel), rfl⟩), fun h => by cases h⟩
theorem k_13_12 (L : Nat) (xs : Nat → Int32) : ll_OK1 cX1_addLine RX1 (some .int) false ll_mN ll_mR ll_mK ll_cnt L xs false 12 (.inl (lo_aload 13 0)) := lk_aload_n (k := 0) (by decide +kernel) rfl
theorem k_13_13 (L : Nat) (xs : Nat → Int32) : ll_OK1 cX1_addLine RX1 (some .int) false ll_mN ll_mR ll_mK ll_cnt L xs false 13 (.inl (lo_getf 16 1 8)) := lk_getf (ix := 42) (ci := 1) (k := 8) (C := RX1) (T := TX1) (N := 12) (by decide +kernel) rfl in_1 (by decide) tb_75
theorem k_13_16 (L : Nat) (xs : Nat → Int32) : ll_OK1 cX1_addLine RX1 (some .int) false ll_mN ll_mR ll_mK ll_cnt L xs false 16 (.inl (lo_istore 17 3)) := lk_istore_n (k := 3) (by decide +kernel) rfl
theorem k_13_17 (L : Nat) (xs : Nat → Int32) : ll_OK1 cX1_addLine RX1 (some .int) false ll_mN ll_mR ll_mK ll_cnt L xs false 17 (.inl (lo_aload 18 0)) := lk_aload_n (k := 0) (by decide +kernel) rfl
theorem k_13_18 (L : Nat) (xs : Nat → Int32) : ll_OK1 cX1_addLine RX1 (some .int) false ll_mN ll_mR ll_mK ll_cnt L xs false 18 (.inl (lo_dup 19)) := lk_dup (by decide +kernel)
theorem k_13_19 (L : Nat) (xs : Nat → Int32) : ll_OK1 cX1_addLine RX1 (some .int) false ll_mN ll_mR ll_mK ll_cnt L xs false 19 (.inl (lo_getf 22 1 8)) := lk_getf (ix := 42) (ci := 1) (k := 8) (C := RX1) (T := TX1) (N := 12) (by decide +kernel) rfl in_1 (by decide) tb_75
theorem k_13_22 (L : Nat) (xs : Nat → Int32) : ll_OK1 cX1_addLine RX1 (some .int) false ll_mN ll_mR ll_mK ll_cnt L xs false 22 (.inl (lo_push 23 (.int 1))) := lk_iconst (n := 1) (by decide +kernel) (by decide)
theorem k_13_23 (L : Nat) (xs : Nat → Int32) : ll_OK1 cX1_addLine RX1 (some .int) false ll_mN ll_mR ll_mK ll_cnt L xs false 23 (.inl (lo_bin 24 (fun x y => x + y))) := lk_iadd (by decide +kernel)
theorem k_13_24 (L : Nat) (xs : Nat → Int32) : ll_OK1 cX1_addLine RX1 (some .int) false ll_mN ll_mR ll_mK ll_cnt L xs false 24 (.inl (lo_putf 27 1 8 0)) := lk_putf (ix := 42) (ci := 1) (k := 8) (C := RX1) (T := TX1) (N := 12) (ty0 := tyX1) (by decide +kernel) rfl in_1 tyX1_ok nmX1 (by decide) tb_75 (fun B adr v w h1 h2 => ll_fit_int (B := B) (adr := adr) h1 h2) (Or.inl rfl)
theorem k_13_27 (L : Nat) (xs : Nat → Int32) : ll_OK1 cX1_addLine RX1 (some .int) false ll_mN ll_mR ll_mK ll_cnt L xs false 27 (.inl (lo_aload 28 0)) := lk_aload_n (k := 0) (by decide +kernel) rfl
theorem k_13_28 (L : Nat) (xs : Nat → Int32) : ll_OK1 cX1_addLine RX1 (some .int) false ll_mN ll_mR ll_mK ll_cnt L xs false 28 (.inl (lo_getf 31 1 0)) := lk_getf (ix := 9) (ci := 1) (k := 0) (C := RX1) (T := TX1) (N := 12) (by decide +kernel) rfl in_1 (by decide) tb_62
theorem k_13_31 (L : Nat) (xs : Nat → Int32) : ll_OK1 cX1_addLine RX1 (some .int) false ll_mN ll_mR ll_mK ll_cnt L xs false 31 (.inl (lo_iload 32 3)) := lk_iload_n (k := 3) (by decide +kernel) rfl
theorem k_13_32 (L : Nat) (xs : Nat → Int32) : ll_OK1 cX1_addLine RX1 (some .int) false ll_mN ll_mR ll_mK ll_cnt L xs false 32 (.inl (lo_iload 33 1)) := lk_iload_n (k := 1) (by decide +kernel) rfl
theorem k_13_33 (L : Nat) (xs : Nat → Int32) : ll_OK1 cX1_addLine RX1 (some .int) false ll_mN ll_mR ll_mK ll_cnt L xs false 33 (.inl (lo_ast 34 0)) := lk_iast (by decide +kernel)
theorem k_13_34 (L : Nat) (xs : Nat → Int32) : ll_OK1 cX1_addLine RX1 (some .int) false ll_mN ll_mR ll_mK ll_cnt L xs false 34 (.inl (lo_aload 35 0)) := lk_aload_n (k := 0) (by decide +kernel) rfl
theorem k_13_35 (L : Nat) (xs : Nat → Int32) : ll_OK1 cX1_addLine RX1 (some .int) false ll_mN ll_mR ll_mK ll_cnt L xs false 35 (.inl (lo_getf 38 1 1)) := lk_getf (ix := 15) (ci := 1) (k := 1) (C := RX1) (T := TX1) (N := 12) (by decide +kernel) rfl in_1 (by decide) tb_63
theorem k_13_38 (L : Nat) (xs : Nat → Int32) : ll_OK1 cX1_addLine RX1 (some .int) false ll_mN ll_mR ll_mK ll_cnt L xs false 38 (.inl (lo_iload 39 3)) := lk_iload_n (k := 3) (by decide +kernel) rfl
theorem k_13_39 (L : Nat) (xs : Nat → Int32) : ll_OK1 cX1_addLine RX1 (some .int) false ll_mN ll_mR ll_mK ll_cnt L xs false 39 (.inl (lo_iload 40 2)) := lk_iload_n (k := 2) (by decide +kernel) rfl
theorem k_13_40 (L : Nat) (xs : Nat → Int32) : ll_OK1 cX1_addLine RX1 (some .int) false ll_mN ll_mR ll_mK ll_cnt L xs false 40 (.inl (lo_ast 41 0)) := lk_iast (by decide +kernel)
theorem k_13_41 (L : Nat) (xs : Nat → Int32) : ll_OK1 cX1_addLine RX1 (some .int) false ll_mN ll_mR ll_mK ll_cnt L xs false 41 (.inl (lo_aload 42 0)) := lk_aload_n (k := 0) (by decide +kernel) rfl
theorem k_13_42 (L : Nat) (xs : Nat → Int32) : ll_OK1 cX1_addLine RX1 (some .int) false ll_mN ll_mR ll_mK ll_cnt L xs false 42 (.inl (lo_getf 45 1 2)) := lk_getf (ix := 18) (ci := 1) (k := 2) (C := RX1) (T := TX1) (N := 12) (by decide +kernel) rfl in_1 (by decide) tb_64
theorem k_13_45 (L : Nat) (xs : Nat → Int32) : ll_OK1 cX1_addLine RX1 (some .int) false ll_mN ll_mR ll_mK ll_cnt L xs false 45 (.inl (lo_iload 46 3)) := lk_iload_n (k := 3) (by decide +kernel) rfl
theorem k_13_46 (L : Nat) (xs : Nat → Int32) : ll_OK1 cX1_addLine RX1 (some .int) false ll_mN ll_mR ll_mK ll_cnt L xs false 46 (.inl (lo_push 47 (.int (-1)))) := lk_iconst (n := (-1)) (by decide +kernel) (by decide)
theorem k_13_47 (L : Nat) (xs : Nat → Int32) : ll_OK1 cX1_addLine RX1 (some .int) false ll_mN ll_mR ll_mK ll_cnt L xs false 47 (.inl (lo_ast 48 0)) := lk_iast (by decide +kernel)
theorem k_13_48 (L : Nat) (xs : Nat → Int32) : ll_OK1 cX1_addLine RX1 (some .int) false ll_mN ll_mR ll_mK ll_cnt L xs false 48 (.inl (lo_aload 49 0)) := lk_aload_n (k := 0) (by decide +kernel) rfl
theorem k_13_49 (L : Nat) (xs : Nat → Int32) : ll_OK1 cX1_addLine RX1 (some .int) false ll_mN ll_mR ll_mK ll_cnt L xs false 49 (.inl (lo_getf 52 1 3)) := lk_getf (ix := 21) (ci := 1) (k := 3) (C := RX1) (T := TX1) (N := 12) (by decide +kernel) rfl in_1 (by decide) tb_65
theorem k_13_52 (L : Nat) (xs : Nat → Int32) : ll_OK1 cX1_addLine RX1 (some .int) false ll_mN ll_mR ll_mK ll_cnt L xs false 52 (.inl (lo_iload 53 3)) := lk_iload_n (k := 3) (by decide +kernel) rfl
theorem k_13_53 (L : Nat) (xs : Nat → Int32) : ll_OK1 cX1_addLine RX1 (some .int) false ll_mN ll_mR ll_mK ll_cnt L xs false 53 (.inl (lo_push 54 (.int 0))) := lk_iconst (n := 0) (by decide +kernel) (by decide)
theorem k_13_54 (L : Nat) (xs : Nat → Int32) : ll_OK1 cX1_addLine RX1 (some .int) false ll_mN ll_mR ll_mK ll_cnt L xs false 54 (.inl (lo_ast 55 0)) := lk_iast (by decide +kernel)
theorem k_13_55 (L : Nat) (xs : Nat → Int32) : ll_OK1 cX1_addLine RX1 (some .int) false ll_mN ll_mR ll_mK ll_cnt L xs false 55 (.inl (lo_aload 56 0)) := lk_aload_n (k := 0) (by decide +kernel) rfl
theorem k_13_56 (L : Nat) (xs : Nat → Int32) : ll_OK1 cX1_addLine RX1 (some .int) false ll_mN ll_mR ll_mK ll_cnt L xs false 56 (.inl (lo_getf 59 1 4)) := lk_getf (ix := 24) (ci := 1) (k := 4) (C := RX1) (T := TX1) (N := 12) (by decide +kernel) rfl in_1 (by decide) tb_66
theorem k_13_59 (L : Nat) (xs : Nat → Int32) : ll_OK1 cX1_addLine RX1 (some .int) false ll_mN ll_mR ll_mK ll_cnt L xs false 59 (.inl (lo_iload 60 3)) := lk_iload_n (k := 3) (by decide +kernel) rfl
theorem k_13_60 (L : Nat) (xs : Nat → Int32) : ll_OK1 cX1_addLine RX1 (some .int) false ll_mN ll_mR ll_mK ll_cnt L xs false 60 (.inl (lo_push 61 (.int 0))) := lk_iconst (n := 0) (by decide +kernel) (by decide)
theorem k_13_61 (L : Nat) (xs : Nat → Int32) : ll_OK1 cX1_addLine RX1 (some .int) false ll_mN ll_mR ll_mK ll_cnt L xs false 61 (.inl (lo_ast 62 0)) := lk_iast (by decide +kernel)
theorem k_13_62 (L : Nat) (xs : Nat → Int32) : ll_OK1 cX1_addLine RX1 (some .int) false ll_mN ll_mR ll_mK ll_cnt L xs false 62 (.inl (lo_iload 63 3)) := lk_iload_n (k := 3) (by decide +kernel) rfl
theorem k_13_63 (L : Nat) (xs : Nat → Int32) : ll_OK1 cX1_addLine RX1 (some .int) false ll_mN ll_mR ll_mK ll_cnt L xs false 63 (.inr (.inr 1)) := ⟨(fun h => by cases h), (fun _ => ⟨(by decide +kernel), rfl⟩), fun h => by cases h⟩
theorem ok_13 (L : Nat) (xs : Nat → Int32) : ∀ q ∈ cd_13, ll_OK1 cX1_addLine RX1 (some .int) false ll_mN ll_mR ll_mK ll_cnt L xs false q.1 q.2 :=
  List.forall_mem_cons.mpr ⟨k_13_0 L xs, List.forall_mem_cons.mpr ⟨k_13_1 L xs, List.forall_mem_cons.mpr ⟨k_13_4 L xs, List.forall_mem_cons.mpr ⟨k_13_7 L xs, List.forall_mem_cons.mpr ⟨k_13_10 L xs, List.forall_mem_cons.mpr ⟨k_13_11 L xs, List.forall_mem_cons.mpr ⟨k_13_12 L xs, List.forall_mem_cons.mpr ⟨k_13_13 L xs, List.forall_mem_cons.mpr ⟨k_13_16 L xs, List.forall_mem_cons.mpr ⟨k_13_17 L xs, List.forall_mem_cons.mpr ⟨k_13_18 L xs, List.forall_mem_cons.mpr ⟨k_13_19 L xs, List.forall_mem_cons.mpr ⟨k_13_22 L xs, List.forall_mem_cons.mpr ⟨k_13_23 L xs, List.forall_mem_cons.mpr ⟨k_13_24 L xs, List.forall_mem_cons.mpr ⟨k_13_27 L xs, List.forall_mem_cons.mpr ⟨k_13_28 L xs, List.forall_mem_cons.mpr ⟨k_13_31 L xs, List.forall_mem_cons.mpr ⟨k_13_32 L xs, List.forall_mem_cons.mpr ⟨k_13_33 L xs, List.forall_mem_cons.mpr ⟨k_13_34 L xs, List.forall_mem_cons.mpr ⟨k_13_35 L xs, List.forall_mem_cons.mpr ⟨k_13_38 L xs, List.forall_mem_cons.mpr ⟨k_13_39 L xs, List.forall_mem_cons.mpr ⟨k_13_40 L xs, List.forall_mem_cons.mpr ⟨k_13_41 L xs, List.forall_mem_cons.mpr ⟨k_13_42 L xs, List.forall_mem_cons.mpr ⟨k_13_45 L xs, List.forall_mem_cons.mpr ⟨k_13_46 L xs, List.forall_mem_cons.mpr ⟨k_13_47 L xs, List.forall_mem_cons.mpr ⟨k_13_48 L xs, List.forall_mem_cons.mpr ⟨k_13_49 L xs, List.forall_mem_cons.mpr ⟨k_13_52 L xs, List.forall_mem_cons.mpr ⟨k_13_53 L xs, List.forall_mem_cons.mpr ⟨k_13_54 L xs, List.forall_mem_cons.mpr ⟨k_13_55 L xs, List.forall_mem_cons.mpr ⟨k_13_56 L xs, List.forall_mem_cons.mpr ⟨k_13_59 L xs, List.forall_mem_cons.mpr ⟨k_13_60 L xs, List.forall_mem_cons.mpr ⟨k_13_61 L xs, List.forall_mem_cons.mpr ⟨k_13_62 L xs, List.forall_mem_cons.mpr ⟨k_13_63 L xs, fun _ h => absurd h List.not_mem_nil⟩⟩⟩⟩⟩⟩⟩⟩⟩⟩⟩⟩⟩⟩⟩⟩⟩⟩⟩⟩⟩⟩⟩⟩⟩⟩⟩⟩⟩⟩⟩⟩⟩⟩⟩⟩⟩⟩⟩⟩⟩⟩
/-- InclusionProver$Lines.openPremises.(I)V -/
def cd_14 : List (Nat × ll_O) := [
  (0, .inl (lo_aload 1 0)),
  (1, .inl (lo_getf 4 1 3)),
  (4, .inl (lo_iload 5 1)),
  (5, .inl (lo_aload 6 0)),
  (6, .inl (lo_getf 9 1 9)),
  (9, .inl (lo_ast 10 0)),
  (10, .inl (lo_aload 11 0)),
  (11, .inl (lo_getf 14 1 4)),
  (14, .inl (lo_iload 15 1)),
  (15, .inl (lo_push 16 (.int 0))),
  (16, .inl (lo_ast 17 0)),
  (17, .inr (.inr 0))]
theorem k_14_0 (L : Nat) (xs : Nat → Int32) : ll_OK1 cX1_openPremises RX1 none false ll_mN ll_mR ll_mK ll_cnt L xs false 0 (.inl (lo_aload 1 0)) := lk_aload_n (k := 0) (by decide +kernel) rfl
theorem k_14_1 (L : Nat) (xs : Nat → Int32) : ll_OK1 cX1_openPremises RX1 none false ll_mN ll_mR ll_mK ll_cnt L xs false 1 (.inl (lo_getf 4 1 3)) := lk_getf (ix := 21) (ci := 1) (k := 3) (C := RX1) (T := TX1) (N := 12) (by decide +kernel) rfl in_1 (by decide) tb_65
theorem k_14_4 (L : Nat) (xs : Nat → Int32) : ll_OK1 cX1_openPremises RX1 none false ll_mN ll_mR ll_mK ll_cnt L xs false 4 (.inl (lo_iload 5 1)) := lk_iload_n (k := 1) (by decide +kernel) rfl
theorem k_14_5 (L : Nat) (xs : Nat → Int32) : ll_OK1 cX1_openPremises RX1 none false ll_mN ll_mR ll_mK ll_cnt L xs false 5 (.inl (lo_aload 6 0)) := lk_aload_n (k := 0) (by decide +kernel) rfl
theorem k_14_6 (L : Nat) (xs : Nat → Int32) : ll_OK1 cX1_openPremises RX1 none false ll_mN ll_mR ll_mK ll_cnt L xs false 6 (.inl (lo_getf 9 1 9)) := lk_getf (ix := 46) (ci := 1) (k := 9) (C := RX1) (T := TX1) (N := 12) (by decide +kernel) rfl in_1 (by decide) tb_76
theorem k_14_9 (L : Nat) (xs : Nat → Int32) : ll_OK1 cX1_openPremises RX1 none false ll_mN ll_mR ll_mK ll_cnt L xs false 9 (.inl (lo_ast 10 0)) := lk_iast (by decide +kernel)
theorem k_14_10 (L : Nat) (xs : Nat → Int32) : ll_OK1 cX1_openPremises RX1 none false ll_mN ll_mR ll_mK ll_cnt L xs false 10 (.inl (lo_aload 11 0)) := lk_aload_n (k := 0) (by decide +kernel) rfl
theorem k_14_11 (L : Nat) (xs : Nat → Int32) : ll_OK1 cX1_openPremises RX1 none false ll_mN ll_mR ll_mK ll_cnt L xs false 11 (.inl (lo_getf 14 1 4)) := lk_getf (ix := 24) (ci := 1) (k := 4) (C := RX1) (T := TX1) (N := 12) (by decide +kernel) rfl in_1 (by decide) tb_66
theorem k_14_14 (L : Nat) (xs : Nat → Int32) : ll_OK1 cX1_openPremises RX1 none false ll_mN ll_mR ll_mK ll_cnt L xs false 14 (.inl (lo_iload 15 1)) := lk_iload_n (k := 1) (by decide +kernel) rfl
theorem k_14_15 (L : Nat) (xs : Nat → Int32) : ll_OK1 cX1_openPremises RX1 none false ll_mN ll_mR ll_mK ll_cnt L xs false 15 (.inl (lo_push 16 (.int 0))) := lk_iconst (n := 0) (by decide +kernel) (by decide)
theorem k_14_16 (L : Nat) (xs : Nat → Int32) : ll_OK1 cX1_openPremises RX1 none false ll_mN ll_mR ll_mK ll_cnt L xs false 16 (.inl (lo_ast 17 0)) := lk_iast (by decide +kernel)
theorem k_14_17 (L : Nat) (xs : Nat → Int32) : ll_OK1 cX1_openPremises RX1 none false ll_mN ll_mR ll_mK ll_cnt L xs false 17 (.inr (.inr 0)) := ⟨fun _ => ⟨(by decide +kernel), rfl⟩, (fun h => by cases h), fun h => by cases h⟩
theorem ok_14 (L : Nat) (xs : Nat → Int32) : ∀ q ∈ cd_14, ll_OK1 cX1_openPremises RX1 none false ll_mN ll_mR ll_mK ll_cnt L xs false q.1 q.2 :=
  List.forall_mem_cons.mpr ⟨k_14_0 L xs, List.forall_mem_cons.mpr ⟨k_14_1 L xs, List.forall_mem_cons.mpr ⟨k_14_4 L xs, List.forall_mem_cons.mpr ⟨k_14_5 L xs, List.forall_mem_cons.mpr ⟨k_14_6 L xs, List.forall_mem_cons.mpr ⟨k_14_9 L xs, List.forall_mem_cons.mpr ⟨k_14_10 L xs, List.forall_mem_cons.mpr ⟨k_14_11 L xs, List.forall_mem_cons.mpr ⟨k_14_14 L xs, List.forall_mem_cons.mpr ⟨k_14_15 L xs, List.forall_mem_cons.mpr ⟨k_14_16 L xs, List.forall_mem_cons.mpr ⟨k_14_17 L xs, fun _ h => absurd h List.not_mem_nil⟩⟩⟩⟩⟩⟩⟩⟩⟩⟩⟩⟩
/-- InclusionProver$Lines.addPremise.(II)V -/
def cd_15 : List (Nat × ll_O) := [
  (0, .inl (lo_aload 1 0)),
  (1, .inl (lo_getf 4 1 9)),
  (4, .inl (lo_push 7 (.int 9300))),
  (7, .inl (lo_cmp 40 10 (fun x y => decide (y ≤ x)))),
  (10, .inl (lo_aload 11 0)),
  (11, .inl (lo_getf 14 1 5)),
  (14, .inl (lo_aload 15 0)),
  (15, .inl (lo_getf 18 1 9)),
  (18, .inl (lo_iload 19 2)),
  (19, .inl (lo_ast 20 0)),
  (20, .inl (lo_aload 21 0)),
  (21, .inl (lo_dup 22)),
  (22, .inl (lo_getf 25 1 9)),
  (25, .inl (lo_push 26 (.int 1))),
  (26, .inl (lo_bin 27 (fun x y => x + y))),
  (27, .inl (lo_putf 30 1 9 0)),
  (30, .inl (lo_aload 31 0)),
  (31, .inl (lo_getf 34 1 4)),
  (34, .inl (lo_iload 35 1)),
  (35, .inl (lo_dup2 36)),
  (36, .inl (lo_ald 37 0)),
  (37, .inl (lo_push 38 (.int 1))),
  (38, .inl (lo_bin 39 (fun x y => x + y))),
  (39, .inl (lo_ast 40 0)),
  (40, .inr (.inr 0))]
theorem k_15_0 (L : Nat) (xs : Nat → Int32) : ll_OK1 cX1_addPremise RX1 none false ll_mN ll_mR ll_mK ll_cnt L xs false 0 (.inl (lo_aload 1 0)) := lk_aload_n (k := 0) (by decide +kernel) rfl
theorem k_15_1 (L : Nat) (xs : Nat → Int32) : ll_OK1 cX1_addPremise RX1 none false ll_mN ll_mR ll_mK ll_cnt L xs false 1 (.inl (lo_getf 4 1 9)) := lk_getf (ix := 46) (ci := 1) (k := 9) (C := RX1) (T := TX1) (N := 12) (by decide +kernel) rfl in_1 (by decide) tb_76
theorem k_15_4 (L : Nat) (xs : Nat → Int32) : ll_OK1 cX1_addPremise RX1 none false ll_mN ll_mR ll_mK ll_cnt L xs false 4 (.inl (lo_push 7 (.int 9300))) := lk_sipush (n := 9300) (by decide +kernel) (by decide)
theorem k_15_7 (L : Nat) (xs : Nat → Int32) : ll_OK1 cX1_addPremise RX1 none false ll_mN ll_mR ll_mK ll_cnt L xs false 7 (.inl (lo_cmp 40 10 (fun x y => decide (y ≤ x)))) := lk_icmp_ge (off := 33) (by decide +kernel) rfl
theorem k_15_10 (L : Nat) (xs : Nat → Int32) : ll_OK1 cX1_addPremise RX1 none false ll_mN ll_mR ll_mK ll_cnt L xs false 10 (.inl (lo_aload 11 0)) := lk_aload_n (k := 0) (by decide +kernel) rfl
theorem k_15_11 (L : Nat) (xs : Nat → Int32) : ll_OK1 cX1_addPremise RX1 none false ll_mN ll_mR ll_mK ll_cnt L xs false 11 (.inl (lo_getf 14 1 5)) := lk_getf (ix := 27) (ci := 1) (k := 5) (C := RX1) (T := TX1) (N := 12) (by decide +kernel) rfl in_1 (by decide) tb_67
theorem k_15_14 (L : Nat) (xs : Nat → Int32) : ll_OK1 cX1_addPremise RX1 none false ll_mN ll_mR ll_mK ll_cnt L xs false 14 (.inl (lo_aload 15 0)) := lk_aload_n (k := 0) (by decide +kernel) rfl
theorem k_15_15 (L : Nat) (xs : Nat → Int32) : ll_OK1 cX1_addPremise RX1 none false ll_mN ll_mR ll_mK ll_cnt L xs false 15 (.inl (lo_getf 18 1 9)) := lk_getf (ix := 46) (ci := 1) (k := 9) (C := RX1) (T := TX1) (N := 12) (by decide +kernel) rfl in_1 (by decide) tb_76
theorem k_15_18 (L : Nat) (xs : Nat → Int32) : ll_OK1 cX1_addPremise RX1 none false ll_mN ll_mR ll_mK ll_cnt L xs false 18 (.inl (lo_iload 19 2)) := lk_iload_n (k := 2) (by decide +kernel) rfl
theorem k_15_19 (L : Nat) (xs : Nat → Int32) : ll_OK1 cX1_addPremise RX1 none false ll_mN ll_mR ll_mK ll_cnt L xs false 19 (.inl (lo_ast 20 0)) := lk_iast (by decide +kernel)
theorem k_15_20 (L : Nat) (xs : Nat → Int32) : ll_OK1 cX1_addPremise RX1 none false ll_mN ll_mR ll_mK ll_cnt L xs false 20 (.inl (lo_aload 21 0)) := lk_aload_n (k := 0) (by decide +kernel) rfl
theorem k_15_21 (L : Nat) (xs : Nat → Int32) : ll_OK1 cX1_addPremise RX1 none false ll_mN ll_mR ll_mK ll_cnt L xs false 21 (.inl (lo_dup 22)) := lk_dup (by decide +kernel)
theorem k_15_22 (L : Nat) (xs : Nat → Int32) : ll_OK1 cX1_addPremise RX1 none false ll_mN ll_mR ll_mK ll_cnt L xs false 22 (.inl (lo_getf 25 1 9)) := lk_getf (ix := 46) (ci := 1) (k := 9) (C := RX1) (T := TX1) (N := 12) (by decide +kernel) rfl in_1 (by decide) tb_76
theorem k_15_25 (L : Nat) (xs : Nat → Int32) : ll_OK1 cX1_addPremise RX1 none false ll_mN ll_mR ll_mK ll_cnt L xs false 25 (.inl (lo_push 26 (.int 1))) := lk_iconst (n := 1) (by decide +kernel) (by decide)
theorem k_15_26 (L : Nat) (xs : Nat → Int32) : ll_OK1 cX1_addPremise RX1 none false ll_mN ll_mR ll_mK ll_cnt L xs false 26 (.inl (lo_bin 27 (fun x y => x + y))) := lk_iadd (by decide +kernel)
theorem k_15_27 (L : Nat) (xs : Nat → Int32) : ll_OK1 cX1_addPremise RX1 none false ll_mN ll_mR ll_mK ll_cnt L xs false 27 (.inl (lo_putf 30 1 9 0)) := lk_putf (ix := 46) (ci := 1) (k := 9) (C := RX1) (T := TX1) (N := 12) (ty0 := tyX1) (by decide +kernel) rfl in_1 tyX1_ok nmX1 (by decide) tb_76 (fun B adr v w h1 h2 => ll_fit_int (B := B) (adr := adr) h1 h2) (Or.inl rfl)
theorem k_15_30 (L : Nat) (xs : Nat → Int32) : ll_OK1 cX1_addPremise RX1 none false ll_mN ll_mR ll_mK ll_cnt L xs false 30 (.inl (lo_aload 31 0)) := lk_aload_n (k := 0) (by decide +kernel) rfl
theorem k_15_31 (L : Nat) (xs : Nat → Int32) : ll_OK1 cX1_addPremise RX1 none false ll_mN ll_mR ll_mK ll_cnt L xs false 31 (.inl (lo_getf 34 1 4)) := lk_getf (ix := 24) (ci := 1) (k := 4) (C := RX1) (T := TX1) (N := 12) (by decide +kernel) rfl in_1 (by decide) tb_66
theorem k_15_34 (L : Nat) (xs : Nat → Int32) : ll_OK1 cX1_addPremise RX1 none false ll_mN ll_mR ll_mK ll_cnt L xs false 34 (.inl (lo_iload 35 1)) := lk_iload_n (k := 1) (by decide +kernel) rfl
theorem k_15_35 (L : Nat) (xs : Nat → Int32) : ll_OK1 cX1_addPremise RX1 none false ll_mN ll_mR ll_mK ll_cnt L xs false 35 (.inl (lo_dup2 36)) := lk_dup2 (by decide +kernel)
theorem k_15_36 (L : Nat) (xs : Nat → Int32) : ll_OK1 cX1_addPremise RX1 none false ll_mN ll_mR ll_mK ll_cnt L xs false 36 (.inl (lo_ald 37 0)) := lk_iald (by decide +kernel)
theorem k_15_37 (L : Nat) (xs : Nat → Int32) : ll_OK1 cX1_addPremise RX1 none false ll_mN ll_mR ll_mK ll_cnt L xs false 37 (.inl (lo_push 38 (.int 1))) := lk_iconst (n := 1) (by decide +kernel) (by decide)
theorem k_15_38 (L : Nat) (xs : Nat → Int32) : ll_OK1 cX1_addPremise RX1 none false ll_mN ll_mR ll_mK ll_cnt L xs false 38 (.inl (lo_bin 39 (fun x y => x + y))) := lk_iadd (by decide +kernel)
theorem k_15_39 (L : Nat) (xs : Nat → Int32) : ll_OK1 cX1_addPremise RX1 none false ll_mN ll_mR ll_mK ll_cnt L xs false 39 (.inl (lo_ast 40 0)) := lk_iast (by decide +kernel)
theorem k_15_40 (L : Nat) (xs : Nat → Int32) : ll_OK1 cX1_addPremise RX1 none false ll_mN ll_mR ll_mK ll_cnt L xs false 40 (.inr (.inr 0)) := ⟨fun _ => ⟨(by decide +kernel), rfl⟩, (fun h => by cases h), fun h => by cases h⟩
theorem ok_15 (L : Nat) (xs : Nat → Int32) : ∀ q ∈ cd_15, ll_OK1 cX1_addPremise RX1 none false ll_mN ll_mR ll_mK ll_cnt L xs false q.1 q.2 :=
  List.forall_mem_cons.mpr ⟨k_15_0 L xs, List.forall_mem_cons.mpr ⟨k_15_1 L xs, List.forall_mem_cons.mpr ⟨k_15_4 L xs, List.forall_mem_cons.mpr ⟨k_15_7 L xs, List.forall_mem_cons.mpr ⟨k_15_10 L xs, List.forall_mem_cons.mpr ⟨k_15_11 L xs, List.forall_mem_cons.mpr ⟨k_15_14 L xs, List.forall_mem_cons.mpr ⟨k_15_15 L xs, List.forall_mem_cons.mpr ⟨k_15_18 L xs, List.forall_mem_cons.mpr ⟨k_15_19 L xs, List.forall_mem_cons.mpr ⟨k_15_20 L xs, List.forall_mem_cons.mpr ⟨k_15_21 L xs, List.forall_mem_cons.mpr ⟨k_15_22 L xs, List.forall_mem_cons.mpr ⟨k_15_25 L xs, List.forall_mem_cons.mpr ⟨k_15_26 L xs, List.forall_mem_cons.mpr ⟨k_15_27 L xs, List.forall_mem_cons.mpr ⟨k_15_30 L xs, List.forall_mem_cons.mpr ⟨k_15_31 L xs, List.forall_mem_cons.mpr ⟨k_15_34 L xs, List.forall_mem_cons.mpr ⟨k_15_35 L xs, List.forall_mem_cons.mpr ⟨k_15_36 L xs, List.forall_mem_cons.mpr ⟨k_15_37 L xs, List.forall_mem_cons.mpr ⟨k_15_38 L xs, List.forall_mem_cons.mpr ⟨k_15_39 L xs, List.forall_mem_cons.mpr ⟨k_15_40 L xs, fun _ h => absurd h List.not_mem_nil⟩⟩⟩⟩⟩⟩⟩⟩⟩⟩⟩⟩⟩⟩⟩⟩⟩⟩⟩⟩⟩⟩⟩⟩⟩
/-- InclusionProver$Lines.dropPremises.(I)V -/
def cd_16 : List (Nat × ll_O) := [
  (0, .inl (lo_aload 1 0)),
  (1, .inl (lo_dup 2)),
  (2, .inl (lo_getf 5 1 9)),
  (5, .inl (lo_aload 6 0)),
  (6, .inl (lo_getf 9 1 4)),
  (9, .inl (lo_iload 10 1)),
  (10, .inl (lo_ald 11 0)),
  (11, .inl (lo_bin 12 (fun x y => x - y))),
  (12, .inl (lo_putf 15 1 9 0)),
  (15, .inl (lo_aload 16 0)),
  (16, .inl (lo_getf 19 1 4)),
  (19, .inl (lo_iload 20 1)),
  (20, .inl (lo_push 21 (.int 0))),
  (21, .inl (lo_ast 22 0)),
  (22, .inr (.inr 0))]
theorem k_16_0 (L : Nat) (xs : Nat → Int32) : ll_OK1 cX1_dropPremises RX1 none false ll_mN ll_mR ll_mK ll_cnt L xs false 0 (.inl (lo_aload 1 0)) := lk_aload_n (k := 0) (by decide +kernel) rfl
theorem k_16_1 (L : Nat) (xs : Nat → Int32) : ll_OK1 cX1_dropPremises RX1 none false ll_mN ll_mR ll_mK ll_cnt L xs false 1 (.inl (lo_dup 2)) := lk_dup (by decide +kernel)
theorem k_16_2 (L : Nat) (xs : Nat → Int32) : ll_OK1 cX1_dropPremises RX1 none false ll_mN ll_mR ll_mK ll_cnt L xs false 2 (.inl (lo_getf 5 1 9)) := lk_getf (ix := 46) (ci := 1) (k := 9) (C := RX1) (T := TX1) (N := 12) (by decide +kernel) rfl in_1 (by decide) tb_76
theorem k_16_5 (L : Nat) (xs : Nat → Int32) : ll_OK1 cX1_dropPremises RX1 none false ll_mN ll_mR ll_mK ll_cnt L xs false 5 (.inl (lo_aload 6 0)) := lk_aload_n (k := 0) (by decide +kernel) rfl
theorem k_16_6 (L : Nat) (xs : Nat → Int32) : ll_OK1 cX1_dropPremises RX1 none false ll_mN ll_mR ll_mK ll_cnt L xs false 6 (.inl (lo_getf 9 1 4)) := lk_getf (ix := 24) (ci := 1) (k := 4) (C := RX1) (T := TX1) (N := 12) (by decide +kernel) rfl in_1 (by decide) tb_66
theorem k_16_9 (L : Nat) (xs : Nat → Int32) : ll_OK1 cX1_dropPremises RX1 none false ll_mN ll_mR ll_mK ll_cnt L xs false 9 (.inl (lo_iload 10 1)) := lk_iload_n (k := 1) (by decide +kernel) rfl
theorem k_16_10 (L : Nat) (xs : Nat → Int32) : ll_OK1 cX1_dropPremises RX1 none false ll_mN ll_mR ll_mK ll_cnt L xs false 10 (.inl (lo_ald 11 0)) := lk_iald (by decide +kernel)
theorem k_16_11 (L : Nat) (xs : Nat → Int32) : ll_OK1 cX1_dropPremises RX1 none false ll_mN ll_mR ll_mK ll_cnt L xs false 11 (.inl (lo_bin 12 (fun x y => x - y))) := lk_isub (by decide +kernel)
theorem k_16_12 (L : Nat) (xs : Nat → Int32) : ll_OK1 cX1_dropPremises RX1 none false ll_mN ll_mR ll_mK ll_cnt L xs false 12 (.inl (lo_putf 15 1 9 0)) := lk_putf (ix := 46) (ci := 1) (k := 9) (C := RX1) (T := TX1) (N := 12) (ty0 := tyX1) (by decide +kernel) rfl in_1 tyX1_ok nmX1 (by decide) tb_76 (fun B adr v w h1 h2 => ll_fit_int (B := B) (adr := adr) h1 h2) (Or.inl rfl)
theorem k_16_15 (L : Nat) (xs : Nat → Int32) : ll_OK1 cX1_dropPremises RX1 none false ll_mN ll_mR ll_mK ll_cnt L xs false 15 (.inl (lo_aload 16 0)) := lk_aload_n (k := 0) (by decide +kernel) rfl
theorem k_16_16 (L : Nat) (xs : Nat → Int32) : ll_OK1 cX1_dropPremises RX1 none false ll_mN ll_mR ll_mK ll_cnt L xs false 16 (.inl (lo_getf 19 1 4)) := lk_getf (ix := 24) (ci := 1) (k := 4) (C := RX1) (T := TX1) (N := 12) (by decide +kernel) rfl in_1 (by decide) tb_66
theorem k_16_19 (L : Nat) (xs : Nat → Int32) : ll_OK1 cX1_dropPremises RX1 none false ll_mN ll_mR ll_mK ll_cnt L xs false 19 (.inl (lo_iload 20 1)) := lk_iload_n (k := 1) (by decide +kernel) rfl
theorem k_16_20 (L : Nat) (xs : Nat → Int32) : ll_OK1 cX1_dropPremises RX1 none false ll_mN ll_mR ll_mK ll_cnt L xs false 20 (.inl (lo_push 21 (.int 0))) := lk_iconst (n := 0) (by decide +kernel) (by decide)
theorem k_16_21 (L : Nat) (xs : Nat → Int32) : ll_OK1 cX1_dropPremises RX1 none false ll_mN ll_mR ll_mK ll_cnt L xs false 21 (.inl (lo_ast 22 0)) := lk_iast (by decide +kernel)
theorem k_16_22 (L : Nat) (xs : Nat → Int32) : ll_OK1 cX1_dropPremises RX1 none false ll_mN ll_mR ll_mK ll_cnt L xs false 22 (.inr (.inr 0)) := ⟨fun _ => ⟨(by decide +kernel), rfl⟩, (fun h => by cases h), fun h => by cases h⟩
theorem ok_16 (L : Nat) (xs : Nat → Int32) : ∀ q ∈ cd_16, ll_OK1 cX1_dropPremises RX1 none false ll_mN ll_mR ll_mK ll_cnt L xs false q.1 q.2 :=
  List.forall_mem_cons.mpr ⟨k_16_0 L xs, List.forall_mem_cons.mpr ⟨k_16_1 L xs, List.forall_mem_cons.mpr ⟨k_16_2 L xs, List.forall_mem_cons.mpr ⟨k_16_5 L xs, List.forall_mem_cons.mpr ⟨k_16_6 L xs, List.forall_mem_cons.mpr ⟨k_16_9 L xs, List.forall_mem_cons.mpr ⟨k_16_10 L xs, List.forall_mem_cons.mpr ⟨k_16_11 L xs, List.forall_mem_cons.mpr ⟨k_16_12 L xs, List.forall_mem_cons.mpr ⟨k_16_15 L xs, List.forall_mem_cons.mpr ⟨k_16_16 L xs, List.forall_mem_cons.mpr ⟨k_16_19 L xs, List.forall_mem_cons.mpr ⟨k_16_20 L xs, List.forall_mem_cons.mpr ⟨k_16_21 L xs, List.forall_mem_cons.mpr ⟨k_16_22 L xs, fun _ h => absurd h List.not_mem_nil⟩⟩⟩⟩⟩⟩⟩⟩⟩⟩⟩⟩⟩⟩⟩
/-- InclusionProver$Lines.dropLast.()I -/
def cd_17 : List (Nat × ll_O) := [
  (0, .inl (lo_aload 1 0)),
  (1, .inl (lo_getf 4 1 8)),
  (4, .inl (lo_if 9 7 (fun x => decide (¬ x = 0)))),
  (7, .inl (lo_push 8 (.int (-1)))),
  (8, .inr (.inr 1)),
  (9, .inl (lo_aload 10 0)),
  (10, .inl (lo_dup 11)),
  (11, .inl (lo_getf 14 1 8)),
  (14, .inl (lo_push 15 (.int 1))),
  (15, .inl (lo_bin 16 (fun x y => x - y))),
  (16, .inl (lo_putf 19 1 8 0)),
  (19, .inl (lo_aload 20 0)),
  (20, .inl (lo_aload 21 0)),
  (21, .inl (lo_getf 24 1 8)),
  (24, .inr (.inl (16, 2, 27))),
  (27, .inl (lo_aload 28 0)),
  (28, .inl (lo_getf 31 1 8)),
  (31, .inr (.inr 1))]
theorem k_17_0 (L : Nat) (xs : Nat → Int32) : ll_OK1 cX1_dropLast RX1 (some .int) false ll_mN ll_mR ll_mK ll_cnt L xs false 0 (.inl (lo_aload 1 0)) := lk_aload_n (k := 0) (by decide +kernel) rfl
theorem k_17_1 (L : Nat) (xs : Nat → Int32) : ll_OK1 cX1_dropLast RX1 (some .int) false ll_mN ll_mR ll_mK ll_cnt L xs false 1 (.inl (lo_getf 4 1 8)) := lk_getf (ix := 42) (ci := 1) (k := 8) (C := RX1) (T := TX1) (N := 12) (by decide +kernel) rfl in_1 (by decide) tb_75
theorem k_17_4 (L : Nat) (xs : Nat → Int32) : ll_OK1 cX1_dropLast RX1 (some .int) false ll_mN ll_mR ll_mK ll_cnt L xs false 4 (.inl (lo_if 9 7 (fun x => decide (¬ x = 0)))) := lk_if_ne (off := 5) (by decide +kernel) rfl
theorem k_17_7 (L : Nat) (xs : Nat → Int32) : ll_OK1 cX1_dropLast RX1 (some .int) false ll_mN ll_mR ll_mK ll_cnt L xs false 7 (.inl (lo_push 8 (.int (-1)))) := lk_iconst (n := (-1)) (by decide +kernel) (by decide)
theorem k_17_8 (L : Nat) (xs : Nat → Int32) : ll_OK1 cX1_dropLast RX1 (some .int) false ll_mN ll_mR ll_mK ll_cnt L xs false 8 (.inr (.inr 1)) := ⟨(fun h => by cases h), (fun _ => ⟨(by decide +kernel), rfl⟩), fun h => by cases h⟩
theorem k_17_9 (L : Nat) (xs : Nat → Int32) : ll_OK1 cX1_dropLast RX1 (some .int) false ll_mN ll_mR ll_mK ll_cnt L xs false 9 (.inl (lo_aload 10 0)) := lk_aload_n (k := 0) (by decide +kernel) rfl
theorem k_17_10 (L : Nat) (xs : Nat → Int32) : ll_OK1 cX1_dropLast RX1 (some .int) false ll_mN ll_mR ll_mK ll_cnt L xs false 10 (.inl (lo_dup 11)) := lk_dup (by decide +kernel)
theorem k_17_11 (L : Nat) (xs : Nat → Int32) : ll_OK1 cX1_dropLast RX1 (some .int) false ll_mN ll_mR ll_mK ll_cnt L xs false 11 (.inl (lo_getf 14 1 8)) := lk_getf (ix := 42) (ci := 1) (k := 8) (C := RX1) (T := TX1) (N := 12) (by decide +kernel) rfl in_1 (by decide) tb_75
theorem k_17_14 (L : Nat) (xs : Nat → Int32) : ll_OK1 cX1_dropLast RX1 (some .int) false ll_mN ll_mR ll_mK ll_cnt L xs false 14 (.inl (lo_push 15 (.int 1))) := lk_iconst (n := 1) (by decide +kernel) (by decide)
theorem k_17_15 (L : Nat) (xs : Nat → Int32) : ll_OK1 cX1_dropLast RX1 (some .int) false ll_mN ll_mR ll_mK ll_cnt L xs false 15 (.inl (lo_bin 16 (fun x y => x - y))) := lk_isub (by decide +kernel)
theorem k_17_16 (L : Nat) (xs : Nat → Int32) : ll_OK1 cX1_dropLast RX1 (some .int) false ll_mN ll_mR ll_mK ll_cnt L xs false 16 (.inl (lo_putf 19 1 8 0)) := lk_putf (ix := 42) (ci := 1) (k := 8) (C := RX1) (T := TX1) (N := 12) (ty0 := tyX1) (by decide +kernel) rfl in_1 tyX1_ok nmX1 (by decide) tb_75 (fun B adr v w h1 h2 => ll_fit_int (B := B) (adr := adr) h1 h2) (Or.inl rfl)
theorem k_17_19 (L : Nat) (xs : Nat → Int32) : ll_OK1 cX1_dropLast RX1 (some .int) false ll_mN ll_mR ll_mK ll_cnt L xs false 19 (.inl (lo_aload 20 0)) := lk_aload_n (k := 0) (by decide +kernel) rfl
theorem k_17_20 (L : Nat) (xs : Nat → Int32) : ll_OK1 cX1_dropLast RX1 (some .int) false ll_mN ll_mR ll_mK ll_cnt L xs false 20 (.inl (lo_aload 21 0)) := lk_aload_n (k := 0) (by decide +kernel) rfl
theorem k_17_21 (L : Nat) (xs : Nat → Int32) : ll_OK1 cX1_dropLast RX1 (some .int) false ll_mN ll_mR ll_mK ll_cnt L xs false 21 (.inl (lo_getf 24 1 8)) := lk_getf (ix := 42) (ci := 1) (k := 8) (C := RX1) (T := TX1) (N := 12) (by decide +kernel) rfl in_1 (by decide) tb_75
theorem k_17_24 (L : Nat) (xs : Nat → Int32) : ll_OK1 cX1_dropLast RX1 (some .int) false ll_mN ll_mR ll_mK ll_cnt L xs false 24 (.inr (.inl (16, 2, 27))) := ⟨rfl, by decide, by rw [mN_16, mK_16, mR_16]; exact lj_v 63 1 1 (RX1, TX1, 12) (by decide +kernel) tb_83 tb_84 tb_85 rfl rfl rfl rfl (by decide +kernel)⟩
theorem k_17_27 (L : Nat) (xs : Nat → Int32) : ll_OK1 cX1_dropLast RX1 (some .int) false ll_mN ll_mR ll_mK ll_cnt L xs false 27 (.inl (lo_aload 28 0)) := lk_aload_n (k := 0) (by decide +kernel) rfl
theorem k_17_28 (L : Nat) (xs : Nat → Int32) : ll_OK1 cX1_dropLast RX1 (some .int) false ll_mN ll_mR ll_mK ll_cnt L xs false 28 (.inl (lo_getf 31 1 8)) := lk_getf (ix := 42) (ci := 1) (k := 8) (C := RX1) (T := TX1) (N := 12) (by decide +kernel) rfl in_1 (by decide) tb_75
theorem k_17_31 (L : Nat) (xs : Nat → Int32) : ll_OK1 cX1_dropLast RX1 (some .int) false ll_mN ll_mR ll_mK ll_cnt L xs false 31 (.inr (.inr 1)) := ⟨(fun h => by cases h), (fun _ => ⟨(by decide +kernel), rfl⟩), fun h => by cases h⟩
theorem ok_17 (L : Nat) (xs : Nat → Int32) : ∀ q ∈ cd_17, ll_OK1 cX1_dropLast RX1 (some .int) false ll_mN ll_mR ll_mK ll_cnt L xs false q.1 q.2 :=
  List.forall_mem_cons.mpr ⟨k_17_0 L xs, List.forall_mem_cons.mpr ⟨k_17_1 L xs, List.forall_mem_cons.mpr ⟨k_17_4 L xs, List.forall_mem_cons.mpr ⟨k_17_7 L xs, List.forall_mem_cons.mpr ⟨k_17_8 L xs, List.forall_mem_cons.mpr ⟨k_17_9 L xs, List.forall_mem_cons.mpr ⟨k_17_10 L xs, List.forall_mem_cons.mpr ⟨k_17_11 L xs, List.forall_mem_cons.mpr ⟨k_17_14 L xs, List.forall_mem_cons.mpr ⟨k_17_15 L xs, List.forall_mem_cons.mpr ⟨k_17_16 L xs, List.forall_mem_cons.mpr ⟨k_17_19 L xs, List.forall_mem_cons.mpr ⟨k_17_20 L xs, List.forall_mem_cons.mpr ⟨k_17_21 L xs, List.forall_mem_cons.mpr ⟨k_17_24 L xs, List.forall_mem_cons.mpr ⟨k_17_27 L xs, List.forall_mem_cons.mpr ⟨k_17_28 L xs, List.forall_mem_cons.mpr ⟨k_17_31 L xs, fun _ h => absurd h List.not_mem_nil⟩⟩⟩⟩⟩⟩⟩⟩⟩⟩⟩⟩⟩⟩⟩⟩⟩⟩
/-- InclusionProver$Lines.ofRule.(I)I -/
def cd_18 : List (Nat × ll_O) := [
  (0, .inl (lo_push 1 (.int 0))),
  (1, .inl (lo_istore 2 2)),
  (2, .inl (lo_push 3 (.int 0))),
  (3, .inl (lo_istore 4 3)),
  (4, .inl (lo_iload 5 3)),
  (5, .inl (lo_aload 6 0)),
  (6, .inl (lo_getf 9 1 8)),
  (9, .inl (lo_cmp 31 12 (fun x y => decide (y ≤ x)))),
  (12, .inl (lo_aload 13 0)),
  (13, .inl (lo_getf 16 1 2)),
  (16, .inl (lo_iload 17 3)),
  (17, .inl (lo_ald 18 0)),
  (18, .inl (lo_iload 19 1)),
  (19, .inl (lo_cmp 25 22 (fun x y => decide (¬ x = y)))),
  (22, .inl (lo_iinc 25 2 1)),
  (25, .inl (lo_iinc 28 3 1)),
  (28, .inl (lo_goto 4)),
  (31, .inl (lo_iload 32 2)),
  (32, .inr (.inr 1))]
theorem k_18_0 (L : Nat) (xs : Nat → Int32) : ll_OK1 cX1_ofRule RX1 (some .int) false ll_mN ll_mR ll_mK ll_cnt L xs false 0 (.inl (lo_push 1 (.int 0))) := lk_iconst (n := 0) (by decide +kernel) (by decide)
theorem k_18_1 (L : Nat) (xs : Nat → Int32) : ll_OK1 cX1_ofRule RX1 (some .int) false ll_mN ll_mR ll_mK ll_cnt L xs false 1 (.inl (lo_istore 2 2)) := lk_istore_n (k := 2) (by decide +kernel) rfl
theorem k_18_2 (L : Nat) (xs : Nat → Int32) : ll_OK1 cX1_ofRule RX1 (some .int) false ll_mN ll_mR ll_mK ll_cnt L xs false 2 (.inl (lo_push 3 (.int 0))) := lk_iconst (n := 0) (by decide +kernel) (by decide)
theorem k_18_3 (L : Nat) (xs : Nat → Int32) : ll_OK1 cX1_ofRule RX1 (some .int) false ll_mN ll_mR ll_mK ll_cnt L xs false 3 (.inl (lo_istore 4 3)) := lk_istore_n (k := 3) (by decide +kernel) rfl
theorem k_18_4 (L : Nat) (xs : Nat → Int32) : ll_OK1 cX1_ofRule RX1 (some .int) false ll_mN ll_mR ll_mK ll_cnt L xs false 4 (.inl (lo_iload 5 3)) := lk_iload_n (k := 3) (by decide +kernel) rfl
theorem k_18_5 (L : Nat) (xs : Nat → Int32) : ll_OK1 cX1_ofRule RX1 (some .int) false ll_mN ll_mR ll_mK ll_cnt L xs false 5 (.inl (lo_aload 6 0)) := lk_aload_n (k := 0) (by decide +kernel) rfl
theorem k_18_6 (L : Nat) (xs : Nat → Int32) : ll_OK1 cX1_ofRule RX1 (some .int) false ll_mN ll_mR ll_mK ll_cnt L xs false 6 (.inl (lo_getf 9 1 8)) := lk_getf (ix := 42) (ci := 1) (k := 8) (C := RX1) (T := TX1) (N := 12) (by decide +kernel) rfl in_1 (by decide) tb_75
theorem k_18_9 (L : Nat) (xs : Nat → Int32) : ll_OK1 cX1_ofRule RX1 (some .int) false ll_mN ll_mR ll_mK ll_cnt L xs false 9 (.inl (lo_cmp 31 12 (fun x y => decide (y ≤ x)))) := lk_icmp_ge (off := 22) (by decide +kernel) rfl
theorem k_18_12 (L : Nat) (xs : Nat → Int32) : ll_OK1 cX1_ofRule RX1 (some .int) false ll_mN ll_mR ll_mK ll_cnt L xs false 12 (.inl (lo_aload 13 0)) := lk_aload_n (k := 0) (by decide +kernel) rfl
theorem k_18_13 (L : Nat) (xs : Nat → Int32) : ll_OK1 cX1_ofRule RX1 (some .int) false ll_mN ll_mR ll_mK ll_cnt L xs false 13 (.inl (lo_getf 16 1 2)) := lk_getf (ix := 18) (ci := 1) (k := 2) (C := RX1) (T := TX1) (N := 12) (by decide +kernel) rfl in_1 (by decide) tb_64
theorem k_18_16 (L : Nat) (xs : Nat → Int32) : ll_OK1 cX1_ofRule RX1 (some .int) false ll_mN ll_mR ll_mK ll_cnt L xs false 16 (.inl (lo_iload 17 3)) := lk_iload_n (k := 3) (by decide +kernel) rfl
theorem k_18_17 (L : Nat) (xs : Nat → Int32) : ll_OK1 cX1_ofRule RX1 (some .int) false ll_mN ll_mR ll_mK ll_cnt L xs false 17 (.inl (lo_ald 18 0)) := lk_iald (by decide +kernel)
theorem k_18_18 (L : Nat) (xs : Nat → Int32) : ll_OK1 cX1_ofRule RX1 (some .int) false ll_mN ll_mR ll_mK ll_cnt L xs false 18 (.inl (lo_iload 19 1)) := lk_iload_n (k := 1) (by decide +kernel) rfl
theorem k_18_19 (L : Nat) (xs : Nat → Int32) : ll_OK1 cX1_ofRule RX1 (some .int) false ll_mN ll_mR ll_mK ll_cnt L xs false 19 (.inl (lo_cmp 25 22 (fun x y => decide (¬ x = y)))) := lk_icmp_ne (off := 6) (by decide +kernel) rfl
theorem k_18_22 (L : Nat) (xs : Nat → Int32) : ll_OK1 cX1_ofRule RX1 (some .int) false ll_mN ll_mR ll_mK ll_cnt L xs false 22 (.inl (lo_iinc 25 2 1)) := lk_iinc (n := 1) (by decide +kernel) (by decide)
theorem k_18_25 (L : Nat) (xs : Nat → Int32) : ll_OK1 cX1_ofRule RX1 (some .int) false ll_mN ll_mR ll_mK ll_cnt L xs false 25 (.inl (lo_iinc 28 3 1)) := lk_iinc (n := 1) (by decide +kernel) (by decide)
theorem k_18_28 (L : Nat) (xs : Nat → Int32) : ll_OK1 cX1_ofRule RX1 (some .int) false ll_mN ll_mR ll_mK ll_cnt L xs false 28 (.inl (lo_goto 4)) := lk_goto (off := (-24)) (by decide +kernel) rfl
theorem k_18_31 (L : Nat) (xs : Nat → Int32) : ll_OK1 cX1_ofRule RX1 (some .int) false ll_mN ll_mR ll_mK ll_cnt L xs false 31 (.inl (lo_iload 32 2)) := lk_iload_n (k := 2) (by decide +kernel) rfl
theorem k_18_32 (L : Nat) (xs : Nat → Int32) : ll_OK1 cX1_ofRule RX1 (some .int) false ll_mN ll_mR ll_mK ll_cnt L xs false 32 (.inr (.inr 1)) := ⟨(fun h => by cases h), (fun _ => ⟨(by decide +kernel), rfl⟩), fun h => by cases h⟩
theorem ok_18 (L : Nat) (xs : Nat → Int32) : ∀ q ∈ cd_18, ll_OK1 cX1_ofRule RX1 (some .int) false ll_mN ll_mR ll_mK ll_cnt L xs false q.1 q.2 :=
  List.forall_mem_cons.mpr ⟨k_18_0 L xs, List.forall_mem_cons.mpr ⟨k_18_1 L xs, List.forall_mem_cons.mpr ⟨k_18_2 L xs, List.forall_mem_cons.mpr ⟨k_18_3 L xs, List.forall_mem_cons.mpr ⟨k_18_4 L xs, List.forall_mem_cons.mpr ⟨k_18_5 L xs, List.forall_mem_cons.mpr ⟨k_18_6 L xs, List.forall_mem_cons.mpr ⟨k_18_9 L xs, List.forall_mem_cons.mpr ⟨k_18_12 L xs, List.forall_mem_cons.mpr ⟨k_18_13 L xs, List.forall_mem_cons.mpr ⟨k_18_16 L xs, List.forall_mem_cons.mpr ⟨k_18_17 L xs, List.forall_mem_cons.mpr ⟨k_18_18 L xs, List.forall_mem_cons.mpr ⟨k_18_19 L xs, List.forall_mem_cons.mpr ⟨k_18_22 L xs, List.forall_mem_cons.mpr ⟨k_18_25 L xs, List.forall_mem_cons.mpr ⟨k_18_28 L xs, List.forall_mem_cons.mpr ⟨k_18_31 L xs, List.forall_mem_cons.mpr ⟨k_18_32 L xs, fun _ h => absurd h List.not_mem_nil⟩⟩⟩⟩⟩⟩⟩⟩⟩⟩⟩⟩⟩⟩⟩⟩⟩⟩⟩
/-- InclusionProver$Lines.premisesOfNone.()I -/
def cd_19 : List (Nat × ll_O) := [
  (0, .inl (lo_aload 1 0)),
  (1, .inl (lo_getf 4 1 7)),
  (4, .inl (lo_push 5 (.int 0))),
  (5, .inr (.inl (231, 2, 8))),
  (8, .inl (lo_push 9 (.int 0))),
  (9, .inl (lo_istore 10 1)),
  (10, .inl (lo_iload 11 1)),
  (11, .inl (lo_aload 12 0)),
  (12, .inl (lo_getf 15 1 9)),
  (15, .inl (lo_cmp 52 18 (fun x y => decide (y ≤ x)))),
  (18, .inl (lo_aload 19 0)),
  (19, .inl (lo_aload 20 0)),
  (20, .inl (lo_getf 23 1 5)),
  (23, .inl (lo_iload 24 1)),
  (24, .inl (lo_ald 25 0)),
  (25, .inr (.inl (10, 2, 28))),
  (28, .inl (lo_if 46 31 (fun x => decide (x = 0)))),
  (31, .inl (lo_aload 32 0)),
  (32, .inl (lo_getf 35 1 7)),
  (35, .inl (lo_aload 36 0)),
  (36, .inl (lo_getf 39 1 5)),
  (39, .inl (lo_iload 40 1)),
  (40, .inl (lo_ald 41 0)),
  (41, .inl (lo_dup2 42)),
  (42, .inl (lo_ald 43 0)),
  (43, .inl (lo_push 44 (.int 1))),
  (44, .inl (lo_bin 45 (fun x y => x + y))),
  (45, .inl (lo_ast 46 0)),
  (46, .inl (lo_iinc 49 1 1)),
  (49, .inl (lo_goto 10)),
  (52, .inl (lo_push 53 (.int 0))),
  (53, .inl (lo_istore 54 1)),
  (54, .inl (lo_push 55 (.int 0))),
  (55, .inl (lo_istore 56 2)),
  (56, .inl (lo_iload 57 2)),
  (57, .inl (lo_aload 58 0)),
  (58, .inl (lo_getf 61 1 8)),
  (61, .inl (lo_cmp 82 64 (fun x y => decide (y ≤ x)))),
  (64, .inl (lo_aload 65 0)),
  (65, .inl (lo_getf 68 1 7)),
  (68, .inl (lo_iload 69 2)),
  (69, .inl (lo_ald 70 0)),
  (70, .inl (lo_if 76 73 (fun x => decide (¬ x = 0)))),
  (73, .inl (lo_iinc 76 1 1)),
  (76, .inl (lo_iinc 79 2 1)),
  (79, .inl (lo_goto 56)),
  (82, .inl (lo_iload 83 1)),
  (83, .inr (.inr 1))]
theorem k_19_0 (L : Nat) (xs : Nat → Int32) : ll_OK1 cX1_premisesOfNone RX1 (some .int) false ll_mN ll_mR ll_mK ll_cnt L xs false 0 (.inl (lo_aload 1 0)) := lk_aload_n (k := 0) (by decide +kernel) rfl
theorem k_19_1 (L : Nat) (xs : Nat → Int32) : ll_OK1 cX1_premisesOfNone RX1 (some .int) false ll_mN ll_mR ll_mK ll_cnt L xs false 1 (.inl (lo_getf 4 1 7)) := lk_getf (ix := 39) (ci := 1) (k := 7) (C := RX1) (T := TX1) (N := 12) (by decide +kernel) rfl in_1 (by decide) tb_74
theorem k_19_4 (L : Nat) (xs : Nat → Int32) : ll_OK1 cX1_premisesOfNone RX1 (some .int) false ll_mN ll_mR ll_mK ll_cnt L xs false 4 (.inl (lo_push 5 (.int 0))) := lk_iconst (n := 0) (by decide +kernel) (by decide)
theorem k_19_5 (L : Nat) (xs : Nat → Int32) : ll_OK1 cX1_premisesOfNone RX1 (some .int) false ll_mN ll_mR ll_mK ll_cnt L xs false 5 (.inr (.inl (231, 2, 8))) := ⟨rfl, by decide, by rw [mN_231, mK_231, mR_231]; exact lj_s 66 (by decide +kernel) tb_86 tb_87 (by decide +kernel)⟩
theorem k_19_8 (L : Nat) (xs : Nat → Int32) : ll_OK1 cX1_premisesOfNone RX1 (some .int) false ll_mN ll_mR ll_mK ll_cnt L xs false 8 (.inl (lo_push 9 (.int 0))) := lk_iconst (n := 0) (by decide +kernel) (by decide)
theorem k_19_9 (L : Nat) (xs : Nat → Int32) : ll_OK1 cX1_premisesOfNone RX1 (some .int) false ll_mN ll_mR ll_mK ll_cnt L xs false 9 (.inl (lo_istore 10 1)) := lk_istore_n (k := 1) (by decide +kernel) rfl
theorem k_19_10 (L : Nat) (xs : Nat → Int32) : ll_OK1 cX1_premisesOfNone RX1 (some .int) false ll_mN ll_mR ll_mK ll_cnt L xs false 10 (.inl (lo_iload 11 1)) := lk_iload_n (k := 1) (by decide +kernel) rfl
theorem k_19_11 (L : Nat) (xs : Nat → Int32) : ll_OK1 cX1_premisesOfNone RX1 (some .int) false ll_mN ll_mR ll_mK ll_cnt L xs false 11 (.inl (lo_aload 12 0)) := lk_aload_n (k := 0) (by decide +kernel) rfl
theorem k_19_12 (L : Nat) (xs : Nat → Int32) : ll_OK1 cX1_premisesOfNone RX1 (some .int) false ll_mN ll_mR ll_mK ll_cnt L xs false 12 (.inl (lo_getf 15 1 9)) := lk_getf (ix := 46) (ci := 1) (k := 9) (C := RX1) (T := TX1) (N := 12) (by decide +kernel) rfl in_1 (by decide) tb_76
theorem k_19_15 (L : Nat) (xs : Nat → Int32) : ll_OK1 cX1_premisesOfNone RX1 (some .int) false ll_mN ll_mR ll_mK ll_cnt L xs false 15 (.inl (lo_cmp 52 18 (fun x y => decide (y ≤ x)))) := lk_icmp_ge (off := 37) (by decide +kernel) rfl
theorem k_19_18 (L : Nat) (xs : Nat → Int32) : ll_OK1 cX1_premisesOfNone RX1 (some .int) false ll_mN ll_mR ll_mK ll_cnt L xs false 18 (.inl (lo_aload 19 0)) := lk_aload_n (k := 0) (by decide +kernel) rfl
theorem k_19_19 (L : Nat) (xs : Nat → Int32) : ll_OK1 cX1_premisesOfNone RX1 (some .int) false ll_mN ll_mR ll_mK ll_cnt L xs false 19 (.inl (lo_aload 20 0)) := lk_aload_n (k := 0) (by decide +kernel) rfl
theorem k_19_20 (L : Nat) (xs : Nat → Int32) : ll_OK1 cX1_premisesOfNone RX1 (some .int) false ll_mN ll_mR ll_mK ll_cnt L xs false 20 (.inl (lo_getf 23 1 5)) := lk_getf (ix := 27) (ci := 1) (k := 5) (C := RX1) (T := TX1) (N := 12) (by decide +kernel) rfl in_1 (by decide) tb_67
theorem k_19_23 (L : Nat) (xs : Nat → Int32) : ll_OK1 cX1_premisesOfNone RX1 (some .int) false ll_mN ll_mR ll_mK ll_cnt L xs false 23 (.inl (lo_iload 24 1)) := lk_iload_n (k := 1) (by decide +kernel) rfl
theorem k_19_24 (L : Nat) (xs : Nat → Int32) : ll_OK1 cX1_premisesOfNone RX1 (some .int) false ll_mN ll_mR ll_mK ll_cnt L xs false 24 (.inl (lo_ald 25 0)) := lk_iald (by decide +kernel)
theorem k_19_25 (L : Nat) (xs : Nat → Int32) : ll_OK1 cX1_premisesOfNone RX1 (some .int) false ll_mN ll_mR ll_mK ll_cnt L xs false 25 (.inr (.inl (10, 2, 28))) := ⟨rfl, by decide, by rw [mN_10, mK_10, mR_10]; exact lj_v 59 1 1 (RX1, TX1, 12) (by decide +kernel) tb_82 tb_46 tb_47 rfl rfl rfl rfl (by decide +kernel)⟩
theorem k_19_28 (L : Nat) (xs : Nat → Int32) : ll_OK1 cX1_premisesOfNone RX1 (some .int) false ll_mN ll_mR ll_mK ll_cnt L xs false 28 (.inl (lo_if 46 31 (fun x => decide (x = 0)))) := lk_if_eq (off := 18) (by decide +kernel) rfl
theorem k_19_31 (L : Nat) (xs : Nat → Int32) : ll_OK1 cX1_premisesOfNone RX1 (some .int) false ll_mN ll_mR ll_mK ll_cnt L xs false 31 (.inl (lo_aload 32 0)) := lk_aload_n (k := 0) (by decide +kernel) rfl
theorem k_19_32 (L : Nat) (xs : Nat → Int32) : ll_OK1 cX1_premisesOfNone RX1 (some .int) false ll_mN ll_mR ll_mK ll_cnt L xs false 32 (.inl (lo_getf 35 1 7)) := lk_getf (ix := 39) (ci := 1) (k := 7) (C := RX1) (T := TX1) (N := 12) (by decide +kernel) rfl in_1 (by decide) tb_74
theorem k_19_35 (L : Nat) (xs : Nat → Int32) : ll_OK1 cX1_premisesOfNone RX1 (some .int) false ll_mN ll_mR ll_mK ll_cnt L xs false 35 (.inl (lo_aload 36 0)) := lk_aload_n (k := 0) (by decide +kernel) rfl
theorem k_19_36 (L : Nat) (xs : Nat → Int32) : ll_OK1 cX1_premisesOfNone RX1 (some .int) false ll_mN ll_mR ll_mK ll_cnt L xs false 36 (.inl (lo_getf 39 1 5)) := lk_getf (ix := 27) (ci := 1) (k := 5) (C := RX1) (T := TX1) (N := 12) (by decide +kernel) rfl in_1 (by decide) tb_67
theorem k_19_39 (L : Nat) (xs : Nat → Int32) : ll_OK1 cX1_premisesOfNone RX1 (some .int) false ll_mN ll_mR ll_mK ll_cnt L xs false 39 (.inl (lo_iload 40 1)) := lk_iload_n (k := 1) (by decide +kernel) rfl
theorem k_19_40 (L : Nat) (xs : Nat → Int32) : ll_OK1 cX1_premisesOfNone RX1 (some .int) false ll_mN ll_mR ll_mK ll_cnt L xs false 40 (.inl (lo_ald 41 0)) := lk_iald (by decide +kernel)
theorem k_19_41 (L : Nat) (xs : Nat → Int32) : ll_OK1 cX1_premisesOfNone RX1 (some .int) false ll_mN ll_mR ll_mK ll_cnt L xs false 41 (.inl (lo_dup2 42)) := lk_dup2 (by decide +kernel)
theorem k_19_42 (L : Nat) (xs : Nat → Int32) : ll_OK1 cX1_premisesOfNone RX1 (some .int) false ll_mN ll_mR ll_mK ll_cnt L xs false 42 (.inl (lo_ald 43 0)) := lk_iald (by decide +kernel)
theorem k_19_43 (L : Nat) (xs : Nat → Int32) : ll_OK1 cX1_premisesOfNone RX1 (some .int) false ll_mN ll_mR ll_mK ll_cnt L xs false 43 (.inl (lo_push 44 (.int 1))) := lk_iconst (n := 1) (by decide +kernel) (by decide)
theorem k_19_44 (L : Nat) (xs : Nat → Int32) : ll_OK1 cX1_premisesOfNone RX1 (some .int) false ll_mN ll_mR ll_mK ll_cnt L xs false 44 (.inl (lo_bin 45 (fun x y => x + y))) := lk_iadd (by decide +kernel)
theorem k_19_45 (L : Nat) (xs : Nat → Int32) : ll_OK1 cX1_premisesOfNone RX1 (some .int) false ll_mN ll_mR ll_mK ll_cnt L xs false 45 (.inl (lo_ast 46 0)) := lk_iast (by decide +kernel)
theorem k_19_46 (L : Nat) (xs : Nat → Int32) : ll_OK1 cX1_premisesOfNone RX1 (some .int) false ll_mN ll_mR ll_mK ll_cnt L xs false 46 (.inl (lo_iinc 49 1 1)) := lk_iinc (n := 1) (by decide +kernel) (by decide)
theorem k_19_49 (L : Nat) (xs : Nat → Int32) : ll_OK1 cX1_premisesOfNone RX1 (some .int) false ll_mN ll_mR ll_mK ll_cnt L xs false 49 (.inl (lo_goto 10)) := lk_goto (off := (-39)) (by decide +kernel) rfl
theorem k_19_52 (L : Nat) (xs : Nat → Int32) : ll_OK1 cX1_premisesOfNone RX1 (some .int) false ll_mN ll_mR ll_mK ll_cnt L xs false 52 (.inl (lo_push 53 (.int 0))) := lk_iconst (n := 0) (by decide +kernel) (by decide)
theorem k_19_53 (L : Nat) (xs : Nat → Int32) : ll_OK1 cX1_premisesOfNone RX1 (some .int) false ll_mN ll_mR ll_mK ll_cnt L xs false 53 (.inl (lo_istore 54 1)) := lk_istore_n (k := 1) (by decide +kernel) rfl
theorem k_19_54 (L : Nat) (xs : Nat → Int32) : ll_OK1 cX1_premisesOfNone RX1 (some .int) false ll_mN ll_mR ll_mK ll_cnt L xs false 54 (.inl (lo_push 55 (.int 0))) := lk_iconst (n := 0) (by decide +kernel) (by decide)
theorem k_19_55 (L : Nat) (xs : Nat → Int32) : ll_OK1 cX1_premisesOfNone RX1 (some .int) false ll_mN ll_mR ll_mK ll_cnt L xs false 55 (.inl (lo_istore 56 2)) := lk_istore_n (k := 2) (by decide +kernel) rfl
theorem k_19_56 (L : Nat) (xs : Nat → Int32) : ll_OK1 cX1_premisesOfNone RX1 (some .int) false ll_mN ll_mR ll_mK ll_cnt L xs false 56 (.inl (lo_iload 57 2)) := lk_iload_n (k := 2) (by decide +kernel) rfl
theorem k_19_57 (L : Nat) (xs : Nat → Int32) : ll_OK1 cX1_premisesOfNone RX1 (some .int) false ll_mN ll_mR ll_mK ll_cnt L xs false 57 (.inl (lo_aload 58 0)) := lk_aload_n (k := 0) (by decide +kernel) rfl
theorem k_19_58 (L : Nat) (xs : Nat → Int32) : ll_OK1 cX1_premisesOfNone RX1 (some .int) false ll_mN ll_mR ll_mK ll_cnt L xs false 58 (.inl (lo_getf 61 1 8)) := lk_getf (ix := 42) (ci := 1) (k := 8) (C := RX1) (T := TX1) (N := 12) (by decide +kernel) rfl in_1 (by decide) tb_75
theorem k_19_61 (L : Nat) (xs : Nat → Int32) : ll_OK1 cX1_premisesOfNone RX1 (some .int) false ll_mN ll_mR ll_mK ll_cnt L xs false 61 (.inl (lo_cmp 82 64 (fun x y => decide (y ≤ x)))) := lk_icmp_ge (off := 21) (by decide +kernel) rfl
theorem k_19_64 (L : Nat) (xs : Nat → Int32) : ll_OK1 cX1_premisesOfNone RX1 (some .int) false ll_mN ll_mR ll_mK ll_cnt L xs false 64 (.inl (lo_aload 65 0)) := lk_aload_n (k := 0) (by decide +kernel) rfl
theorem k_19_65 (L : Nat) (xs : Nat → Int32) : ll_OK1 cX1_premisesOfNone RX1 (some .int) false ll_mN ll_mR ll_mK ll_cnt L xs false 65 (.inl (lo_getf 68 1 7)) := lk_getf (ix := 39) (ci := 1) (k := 7) (C := RX1) (T := TX1) (N := 12) (by decide +kernel) rfl in_1 (by decide) tb_74
theorem k_19_68 (L : Nat) (xs : Nat → Int32) : ll_OK1 cX1_premisesOfNone RX1 (some .int) false ll_mN ll_mR ll_mK ll_cnt L xs false 68 (.inl (lo_iload 69 2)) := lk_iload_n (k := 2) (by decide +kernel) rfl
theorem k_19_69 (L : Nat) (xs : Nat → Int32) : ll_OK1 cX1_premisesOfNone RX1 (some .int) false ll_mN ll_mR ll_mK ll_cnt L xs false 69 (.inl (lo_ald 70 0)) := lk_iald (by decide +kernel)
theorem k_19_70 (L : Nat) (xs : Nat → Int32) : ll_OK1 cX1_premisesOfNone RX1 (some .int) false ll_mN ll_mR ll_mK ll_cnt L xs false 70 (.inl (lo_if 76 73 (fun x => decide (¬ x = 0)))) := lk_if_ne (off := 6) (by decide +kernel) rfl
theorem k_19_73 (L : Nat) (xs : Nat → Int32) : ll_OK1 cX1_premisesOfNone RX1 (some .int) false ll_mN ll_mR ll_mK ll_cnt L xs false 73 (.inl (lo_iinc 76 1 1)) := lk_iinc (n := 1) (by decide +kernel) (by decide)
theorem k_19_76 (L : Nat) (xs : Nat → Int32) : ll_OK1 cX1_premisesOfNone RX1 (some .int) false ll_mN ll_mR ll_mK ll_cnt L xs false 76 (.inl (lo_iinc 79 2 1)) := lk_iinc (n := 1) (by decide +kernel) (by decide)
theorem k_19_79 (L : Nat) (xs : Nat → Int32) : ll_OK1 cX1_premisesOfNone RX1 (some .int) false ll_mN ll_mR ll_mK ll_cnt L xs false 79 (.inl (lo_goto 56)) := lk_goto (off := (-23)) (by decide +kernel) rfl
theorem k_19_82 (L : Nat) (xs : Nat → Int32) : ll_OK1 cX1_premisesOfNone RX1 (some .int) false ll_mN ll_mR ll_mK ll_cnt L xs false 82 (.inl (lo_iload 83 1)) := lk_iload_n (k := 1) (by decide +kernel) rfl
theorem k_19_83 (L : Nat) (xs : Nat → Int32) : ll_OK1 cX1_premisesOfNone RX1 (some .int) false ll_mN ll_mR ll_mK ll_cnt L xs false 83 (.inr (.inr 1)) := ⟨(fun h => by cases h), (fun _ => ⟨(by decide +kernel), rfl⟩), fun h => by cases h⟩
theorem ok_19 (L : Nat) (xs : Nat → Int32) : ∀ q ∈ cd_19, ll_OK1 cX1_premisesOfNone RX1 (some .int) false ll_mN ll_mR ll_mK ll_cnt L xs false q.1 q.2 :=
  List.forall_mem_cons.mpr ⟨k_19_0 L xs, List.forall_mem_cons.mpr ⟨k_19_1 L xs, List.forall_mem_cons.mpr ⟨k_19_4 L xs, List.forall_mem_cons.mpr ⟨k_19_5 L xs, List.forall_mem_cons.mpr ⟨k_19_8 L xs, List.forall_mem_cons.mpr ⟨k_19_9 L xs, List.forall_mem_cons.mpr ⟨k_19_10 L xs, List.forall_mem_cons.mpr ⟨k_19_11 L xs, List.forall_mem_cons.mpr ⟨k_19_12 L xs, List.forall_mem_cons.mpr ⟨k_19_15 L xs, List.forall_mem_cons.mpr ⟨k_19_18 L xs, List.forall_mem_cons.mpr ⟨k_19_19 L xs, List.forall_mem_cons.mpr ⟨k_19_20 L xs, List.forall_mem_cons.mpr ⟨k_19_23 L xs, List.forall_mem_cons.mpr ⟨k_19_24 L xs, List.forall_mem_cons.mpr ⟨k_19_25 L xs, List.forall_mem_cons.mpr ⟨k_19_28 L xs, List.forall_mem_cons.mpr ⟨k_19_31 L xs, List.forall_mem_cons.mpr ⟨k_19_32 L xs, List.forall_mem_cons.mpr ⟨k_19_35 L xs, List.forall_mem_cons.mpr ⟨k_19_36 L xs, List.forall_mem_cons.mpr ⟨k_19_39 L xs, List.forall_mem_cons.mpr ⟨k_19_40 L xs, List.forall_mem_cons.mpr ⟨k_19_41 L xs, List.forall_mem_cons.mpr ⟨k_19_42 L xs, List.forall_mem_cons.mpr ⟨k_19_43 L xs, List.forall_mem_cons.mpr ⟨k_19_44 L xs, List.forall_mem_cons.mpr ⟨k_19_45 L xs, List.forall_mem_cons.mpr ⟨k_19_46 L xs, List.forall_mem_cons.mpr ⟨k_19_49 L xs, List.forall_mem_cons.mpr ⟨k_19_52 L xs, List.forall_mem_cons.mpr ⟨k_19_53 L xs, List.forall_mem_cons.mpr ⟨k_19_54 L xs, List.forall_mem_cons.mpr ⟨k_19_55 L xs, List.forall_mem_cons.mpr ⟨k_19_56 L xs, List.forall_mem_cons.mpr ⟨k_19_57 L xs, List.forall_mem_cons.mpr ⟨k_19_58 L xs, List.forall_mem_cons.mpr ⟨k_19_61 L xs, List.forall_mem_cons.mpr ⟨k_19_64 L xs, List.forall_mem_cons.mpr ⟨k_19_65 L xs, List.forall_mem_cons.mpr ⟨k_19_68 L xs, List.forall_mem_cons.mpr ⟨k_19_69 L xs, List.forall_mem_cons.mpr ⟨k_19_70 L xs, List.forall_mem_cons.mpr ⟨k_19_73 L xs, List.forall_mem_cons.mpr ⟨k_19_76 L xs, List.forall_mem_cons.mpr ⟨k_19_79 L xs, List.forall_mem_cons.mpr ⟨k_19_82 L xs, List.forall_mem_cons.mpr ⟨k_19_83 L xs, fun _ h => absurd h List.not_mem_nil⟩⟩⟩⟩⟩⟩⟩⟩⟩⟩⟩⟩⟩⟩⟩⟩⟩⟩⟩⟩⟩⟩⟩⟩⟩⟩⟩⟩⟩⟩⟩⟩⟩⟩⟩⟩⟩⟩⟩⟩⟩⟩⟩⟩⟩⟩⟩⟩
/-- InclusionProver$Lines.become.(LInclusionProver$Lines;)V -/
def cd_20 : List (Nat × ll_O) := [
  (0, .inl (lo_aload 1 0)),
  (1, .inl (lo_aload 2 1)),
  (2, .inl (lo_getf 5 1 8)),
  (5, .inl (lo_putf 8 1 8 0)),
  (8, .inl (lo_aload 9 0)),
  (9, .inl (lo_aload 10 1)),
  (10, .inl (lo_getf 13 1 9)),
  (13, .inl (lo_putf 16 1 9 0)),
  (16, .inl (lo_aload 17 0)),
  (17, .inl (lo_aload 18 1)),
  (18, .inl (lo_getf 21 1 10)),
  (21, .inl (lo_putf 24 1 10 0)),
  (24, .inl (lo_aload 25 0)),
  (25, .inl (lo_aload 26 1)),
  (26, .inl (lo_getf 29 1 11)),
  (29, .inl (lo_putf 32 1 11 1)),
  (32, .inl (lo_aload 33 0)),
  (33, .inl (lo_getf 36 1 6)),
  (36, .inl (lo_aload 37 1)),
  (37, .inl (lo_getf 40 1 6)),
  (40, .inr (.inl (75, 2, 43))),
  (43, .inl (lo_aload 44 1)),
  (44, .inl (lo_getf 47 1 0)),
  (47, .inl (lo_push 48 (.int 0))),
  (48, .inl (lo_aload 49 0)),
  (49, .inl (lo_getf 52 1 0)),
  (52, .inl (lo_push 53 (.int 0))),
  (53, .inl (lo_aload 54 0)),
  (54, .inl (lo_getf 57 1 8)),
  (57, .inl (lo_copy 60)),
  (60, .inl (lo_aload 61 1)),
  (61, .inl (lo_getf 64 1 1)),
  (64, .inl (lo_push 65 (.int 0))),
  (65, .inl (lo_aload 66 0)),
  (66, .inl (lo_getf 69 1 1)),
  (69, .inl (lo_push 70 (.int 0))),
  (70, .inl (lo_aload 71 0)),
  (71, .inl (lo_getf 74 1 8)),
  (74, .inl (lo_copy 77)),
  (77, .inl (lo_aload 78 1)),
  (78, .inl (lo_getf 81 1 2)),
  (81, .inl (lo_push 82 (.int 0))),
  (82, .inl (lo_aload 83 0)),
  (83, .inl (lo_getf 86 1 2)),
  (86, .inl (lo_push 87 (.int 0))),
  (87, .inl (lo_aload 88 0)),
  (88, .inl (lo_getf 91 1 8)),
  (91, .inl (lo_copy 94)),
  (94, .inl (lo_aload 95 1)),
  (95, .inl (lo_getf 98 1 3)),
  (98, .inl (lo_push 99 (.int 0))),
  (99, .inl (lo_aload 100 0)),
  (100, .inl (lo_getf 103 1 3)),
  (103, .inl (lo_push 104 (.int 0))),
  (104, .inl (lo_aload 105 0)),
  (105, .inl (lo_getf 108 1 8)),
  (108, .inl (lo_copy 111)),
  (111, .inl (lo_aload 112 1)),
  (112, .inl (lo_getf 115 1 4)),
  (115, .inl (lo_push 116 (.int 0))),
  (116, .inl (lo_aload 117 0)),
  (117, .inl (lo_getf 120 1 4)),
  (120, .inl (lo_push 121 (.int 0))),
  (121, .inl (lo_aload 122 0)),
  (122, .inl (lo_getf 125 1 8)),
  (125, .inl (lo_copy 128)),
  (128, .inl (lo_aload 129 1)),
  (129, .inl (lo_getf 132 1 5)),
  (132, .inl (lo_push 133 (.int 0))),
  (133, .inl (lo_aload 134 0)),
  (134, .inl (lo_getf 137 1 5)),
  (137, .inl (lo_push 138 (.int 0))),
  (138, .inl (lo_aload 139 0)),
  (139, .inl (lo_getf 142 1 9)),
  (142, .inl (lo_copy 145)),
  (145, .inr (.inr 0))]
theorem k_20_0 (L : Nat) (xs : Nat → Int32) : ll_OK1 cX1_become RX1 none false ll_mN ll_mR ll_mK ll_cnt L xs false 0 (.inl (lo_aload 1 0)) := lk_aload_n (k := 0) (by decide +kernel) rfl
theorem k_20_1 (L : Nat) (xs : Nat → Int32) : ll_OK1 cX1_become RX1 none false ll_mN ll_mR ll_mK ll_cnt L xs false 1 (.inl (lo_aload 2 1)) := lk_aload_n (k := 1) (by decide +kernel) rfl
theorem k_20_2 (L : Nat) (xs : Nat → Int32) : ll_OK1 cX1_become RX1 none false ll_mN ll_mR ll_mK ll_cnt L xs false 2 (.inl (lo_getf 5 1 8)) := lk_getf (ix := 42) (ci := 1) (k := 8) (C := RX1) (T := TX1) (N := 12) (by decide +kernel) rfl in_1 (by decide) tb_75
theorem k_20_5 (L : Nat) (xs : Nat → Int32) : ll_OK1 cX1_become RX1 none false ll_mN ll_mR ll_mK ll_cnt L xs false 5 (.inl (lo_putf 8 1 8 0)) := lk_putf (ix := 42) (ci := 1) (k := 8) (C := RX1) (T := TX1) (N := 12) (ty0 := tyX1) (by decide +kernel) rfl in_1 tyX1_ok nmX1 (by decide) tb_75 (fun B adr v w h1 h2 => ll_fit_int (B := B) (adr := adr) h1 h2) (Or.inl rfl)
theorem k_20_8 (L : Nat) (xs : Nat → Int32) : ll_OK1 cX1_become RX1 none false ll_mN ll_mR ll_mK ll_cnt L xs false 8 (.inl (lo_aload 9 0)) := lk_aload_n (k := 0) (by decide +kernel) rfl
theorem k_20_9 (L : Nat) (xs : Nat → Int32) : ll_OK1 cX1_become RX1 none false ll_mN ll_mR ll_mK ll_cnt L xs false 9 (.inl (lo_aload 10 1)) := lk_aload_n (k := 1) (by decide +kernel) rfl
theorem k_20_10 (L : Nat) (xs : Nat → Int32) : ll_OK1 cX1_become RX1 none false ll_mN ll_mR ll_mK ll_cnt L xs false 10 (.inl (lo_getf 13 1 9)) := lk_getf (ix := 46) (ci := 1) (k := 9) (C := RX1) (T := TX1) (N := 12) (by decide +kernel) rfl in_1 (by decide) tb_76
theorem k_20_13 (L : Nat) (xs : Nat → Int32) : ll_OK1 cX1_become RX1 none false ll_mN ll_mR ll_mK ll_cnt L xs false 13 (.inl (lo_putf 16 1 9 0)) := lk_putf (ix := 46) (ci := 1) (k := 9) (C := RX1) (T := TX1) (N := 12) (ty0 := tyX1) (by decide +kernel) rfl in_1 tyX1_ok nmX1 (by decide) tb_76 (fun B adr v w h1 h2 => ll_fit_int (B := B) (adr := adr) h1 h2) (Or.inl rfl)
theorem k_20_16 (L : Nat) (xs : Nat → Int32) : ll_OK1 cX1_become RX1 none false ll_mN ll_mR ll_mK ll_cnt L xs false 16 (.inl (lo_aload 17 0)) := lk_aload_n (k := 0) (by decide +kernel) rfl
theorem k_20_17 (L : Nat) (xs : Nat → Int32) : ll_OK1 cX1_become RX1 none false ll_mN ll_mR ll_mK ll_cnt L xs false 17 (.inl (lo_aload 18 1)) := lk_aload_n (k := 1) (by decide +kernel) rfl
theorem k_20_18 (L : Nat) (xs : Nat → Int32) : ll_OK1 cX1_become RX1 none false ll_mN ll_mR ll_mK ll_cnt L xs false 18 (.inl (lo_getf 21 1 10)) := lk_getf (ix := 49) (ci := 1) (k := 10) (C := RX1) (T := TX1) (N := 12) (by decide +kernel) rfl in_1 (by decide) tb_77
theorem k_20_21 (L : Nat) (xs : Nat → Int32) : ll_OK1 cX1_become RX1 none false ll_mN ll_mR ll_mK ll_cnt L xs false 21 (.inl (lo_putf 24 1 10 0)) := lk_putf (ix := 49) (ci := 1) (k := 10) (C := RX1) (T := TX1) (N := 12) (ty0 := tyX1) (by decide +kernel) rfl in_1 tyX1_ok nmX1 (by decide) tb_77 (fun B adr v w h1 h2 => ll_fit_int (B := B) (adr := adr) h1 h2) (Or.inl rfl)
theorem k_20_24 (L : Nat) (xs : Nat → Int32) : ll_OK1 cX1_become RX1 none false ll_mN ll_mR ll_mK ll_cnt L xs false 24 (.inl (lo_aload 25 0)) := lk_aload_n (k := 0) (by decide +kernel) rfl
theorem k_20_25 (L : Nat) (xs : Nat → Int32) : ll_OK1 cX1_become RX1 none false ll_mN ll_mR ll_mK ll_cnt L xs false 25 (.inl (lo_aload 26 1)) := lk_aload_n (k := 1) (by decide +kernel) rfl
theorem k_20_26 (L : Nat) (xs : Nat → Int32) : ll_OK1 cX1_become RX1 none false ll_mN ll_mR ll_mK ll_cnt L xs false 26 (.inl (lo_getf 29 1 11)) := lk_getf (ix := 52) (ci := 1) (k := 11) (C := RX1) (T := TX1) (N := 12) (by decide +kernel) rfl in_1 (by decide) tb_78
theorem k_20_29 (L : Nat) (xs : Nat → Int32) : ll_OK1 cX1_become RX1 none false ll_mN ll_mR ll_mK ll_cnt L xs false 29 (.inl (lo_putf 32 1 11 1)) := lk_putf (ix := 52) (ci := 1) (k := 11) (C := RX1) (T := TX1) (N := 12) (ty0 := tyX1) (by decide +kernel) rfl in_1 tyX1_ok nmX1 (by decide) tb_78 (fun B adr v w h1 h2 => ll_fit_bool (B := B) (adr := adr) h1 h2) (Or.inl rfl)
theorem k_20_32 (L : Nat) (xs : Nat → Int32) : ll_OK1 cX1_become RX1 none false ll_mN ll_mR ll_mK ll_cnt L xs false 32 (.inl (lo_aload 33 0)) := lk_aload_n (k := 0) (by decide +kernel) rfl
theorem k_20_33 (L : Nat) (xs : Nat → Int32) : ll_OK1 cX1_become RX1 none false ll_mN ll_mR ll_mK ll_cnt L xs false 33 (.inl (lo_getf 36 1 6)) := lk_getf (ix := 35) (ci := 1) (k := 6) (C := RX1) (T := TX1) (N := 12) (by decide +kernel) rfl in_1 (by decide) tb_73
theorem k_20_36 (L : Nat) (xs : Nat → Int32) : ll_OK1 cX1_become RX1 none false ll_mN ll_mR ll_mK ll_cnt L xs false 36 (.inl (lo_aload 37 1)) := lk_aload_n (k := 1) (by decide +kernel) rfl
theorem k_20_37 (L : Nat) (xs : Nat → Int32) : ll_OK1 cX1_become RX1 none false ll_mN ll_mR ll_mK ll_cnt L xs false 37 (.inl (lo_getf 40 1 6)) := lk_getf (ix := 35) (ci := 1) (k := 6) (C := RX1) (T := TX1) (N := 12) (by decide +kernel) rfl in_1 (by decide) tb_73
theorem k_20_40 (L : Nat) (xs : Nat → Int32) : ll_OK1 cX1_become RX1 none false ll_mN ll_mR ll_mK ll_cnt L xs false 40 (.inr (.inl (75, 2, 43))) := ⟨rfl, by decide, by rw [mN_75, mK_75, mR_75]; exact lj_v 72 1 7 (RX7, TX7, 2) (by decide +kernel) tb_88 tb_89 tb_90 rfl rfl rfl rfl (by decide +kernel)⟩
theorem k_20_43 (L : Nat) (xs : Nat → Int32) : ll_OK1 cX1_become RX1 none false ll_mN ll_mR ll_mK ll_cnt L xs false 43 (.inl (lo_aload 44 1)) := lk_aload_n (k := 1) (by decide +kernel) rfl
theorem k_20_44 (L : Nat) (xs : Nat → Int32) : ll_OK1 cX1_become RX1 none false ll_mN ll_mR ll_mK ll_cnt L xs false 44 (.inl (lo_getf 47 1 0)) := lk_getf (ix := 9) (ci := 1) (k := 0) (C := RX1) (T := TX1) (N := 12) (by decide +kernel) rfl in_1 (by decide) tb_62
theorem k_20_47 (L : Nat) (xs : Nat → Int32) : ll_OK1 cX1_become RX1 none false ll_mN ll_mR ll_mK ll_cnt L xs false 47 (.inl (lo_push 48 (.int 0))) := lk_iconst (n := 0) (by decide +kernel) (by decide)
theorem k_20_48 (L : Nat) (xs : Nat → Int32) : ll_OK1 cX1_become RX1 none false ll_mN ll_mR ll_mK ll_cnt L xs false 48 (.inl (lo_aload 49 0)) := lk_aload_n (k := 0) (by decide +kernel) rfl
theorem k_20_49 (L : Nat) (xs : Nat → Int32) : ll_OK1 cX1_become RX1 none false ll_mN ll_mR ll_mK ll_cnt L xs false 49 (.inl (lo_getf 52 1 0)) := lk_getf (ix := 9) (ci := 1) (k := 0) (C := RX1) (T := TX1) (N := 12) (by decide +kernel) rfl in_1 (by decide) tb_62
theorem k_20_52 (L : Nat) (xs : Nat → Int32) : ll_OK1 cX1_become RX1 none false ll_mN ll_mR ll_mK ll_cnt L xs false 52 (.inl (lo_push 53 (.int 0))) := lk_iconst (n := 0) (by decide +kernel) (by decide)
theorem k_20_53 (L : Nat) (xs : Nat → Int32) : ll_OK1 cX1_become RX1 none false ll_mN ll_mR ll_mK ll_cnt L xs false 53 (.inl (lo_aload 54 0)) := lk_aload_n (k := 0) (by decide +kernel) rfl
theorem k_20_54 (L : Nat) (xs : Nat → Int32) : ll_OK1 cX1_become RX1 none false ll_mN ll_mR ll_mK ll_cnt L xs false 54 (.inl (lo_getf 57 1 8)) := lk_getf (ix := 42) (ci := 1) (k := 8) (C := RX1) (T := TX1) (N := 12) (by decide +kernel) rfl in_1 (by decide) tb_75
theorem k_20_57 (L : Nat) (xs : Nat → Int32) : ll_OK1 cX1_become RX1 none false ll_mN ll_mR ll_mK ll_cnt L xs false 57 (.inl (lo_copy 60)) := lk_copy (ix := 76) (by decide +kernel) tb_91 tb_92 tb_93 tb_94
theorem k_20_60 (L : Nat) (xs : Nat → Int32) : ll_OK1 cX1_become RX1 none false ll_mN ll_mR ll_mK ll_cnt L xs false 60 (.inl (lo_aload 61 1)) := lk_aload_n (k := 1) (by decide +kernel) rfl
theorem k_20_61 (L : Nat) (xs : Nat → Int32) : ll_OK1 cX1_become RX1 none false ll_mN ll_mR ll_mK ll_cnt L xs false 61 (.inl (lo_getf 64 1 1)) := lk_getf (ix := 15) (ci := 1) (k := 1) (C := RX1) (T := TX1) (N := 12) (by decide +kernel) rfl in_1 (by decide) tb_63
theorem k_20_64 (L : Nat) (xs : Nat → Int32) : ll_OK1 cX1_become RX1 none false ll_mN ll_mR ll_mK ll_cnt L xs false 64 (.inl (lo_push 65 (.int 0))) := lk_iconst (n := 0) (by decide +kernel) (by decide)
theorem k_20_65 (L : Nat) (xs : Nat → Int32) : ll_OK1 cX1_become RX1 none false ll_mN ll_mR ll_mK ll_cnt L xs false 65 (.inl (lo_aload 66 0)) := lk_aload_n (k := 0) (by decide +kernel) rfl
theorem k_20_66 (L : Nat) (xs : Nat → Int32) : ll_OK1 cX1_become RX1 none false ll_mN ll_mR ll_mK ll_cnt L xs false 66 (.inl (lo_getf 69 1 1)) := lk_getf (ix := 15) (ci := 1) (k := 1) (C := RX1) (T := TX1) (N := 12) (by decide +kernel) rfl in_1 (by decide) tb_63
theorem k_20_69 (L : Nat) (xs : Nat → Int32) : ll_OK1 cX1_become RX1 none false ll_mN ll_mR ll_mK ll_cnt L xs false 69 (.inl (lo_push 70 (.int 0))) := lk_iconst (n := 0) (by decide +kernel) (by decide)
theorem k_20_70 (L : Nat) (xs : Nat → Int32) : ll_OK1 cX1_become RX1 none false ll_mN ll_mR ll_mK ll_cnt L xs false 70 (.inl (lo_aload 71 0)) := lk_aload_n (k := 0) (by decide +kernel) rfl
theorem k_20_71 (L : Nat) (xs : Nat → Int32) : ll_OK1 cX1_become RX1 none false ll_mN ll_mR ll_mK ll_cnt L xs false 71 (.inl (lo_getf 74 1 8)) := lk_getf (ix := 42) (ci := 1) (k := 8) (C := RX1) (T := TX1) (N := 12) (by decide +kernel) rfl in_1 (by decide) tb_75
theorem k_20_74 (L : Nat) (xs : Nat → Int32) : ll_OK1 cX1_become RX1 none false ll_mN ll_mR ll_mK ll_cnt L xs false 74 (.inl (lo_copy 77)) := lk_copy (ix := 76) (by decide +kernel) tb_91 tb_92 tb_93 tb_94
theorem k_20_77 (L : Nat) (xs : Nat → Int32) : ll_OK1 cX1_become RX1 none false ll_mN ll_mR ll_mK ll_cnt L xs false 77 (.inl (lo_aload 78 1)) := lk_aload_n (k := 1) (by decide +kernel) rfl
theorem k_20_78 (L : Nat) (xs : Nat → Int32) : ll_OK1 cX1_become RX1 none false ll_mN ll_mR ll_mK ll_cnt L xs false 78 (.inl (lo_getf 81 1 2)) := lk_getf (ix := 18) (ci := 1) (k := 2) (C := RX1) (T := TX1) (N := 12) (by decide +kernel) rfl in_1 (by decide) tb_64
theorem k_20_81 (L : Nat) (xs : Nat → Int32) : ll_OK1 cX1_become RX1 none false ll_mN ll_mR ll_mK ll_cnt L xs false 81 (.inl (lo_push 82 (.int 0))) := lk_iconst (n := 0) (by decide +kernel) (by decide)
theorem k_20_82 (L : Nat) (xs : Nat → Int32) : ll_OK1 cX1_become RX1 none false ll_mN ll_mR ll_mK ll_cnt L xs false 82 (.inl (lo_aload 83 0)) := lk_aload_n (k := 0) (by decide +kernel) rfl
theorem k_20_83 (L : Nat) (xs : Nat → Int32) : ll_OK1 cX1_become RX1 none false ll_mN ll_mR ll_mK ll_cnt L xs false 83 (.inl (lo_getf 86 1 2)) := lk_getf (ix := 18) (ci := 1) (k := 2) (C := RX1) (T := TX1) (N := 12) (by decide +kernel) rfl in_1 (by decide) tb_64
theorem k_20_86 (L : Nat) (xs : Nat → Int32) : ll_OK1 cX1_become RX1 none false ll_mN ll_mR ll_mK ll_cnt L xs false 86 (.inl (lo_push 87 (.int 0))) := lk_iconst (n := 0) (by decide +kernel) (by decide)
theorem k_20_87 (L : Nat) (xs : Nat → Int32) : ll_OK1 cX1_become RX1 none false ll_mN ll_mR ll_mK ll_cnt L xs false 87 (.inl (lo_aload 88 0)) := lk_aload_n (k := 0) (by decide +kernel) rfl
theorem k_20_88 (L : Nat) (xs : Nat → Int32) : ll_OK1 cX1_become RX1 none false ll_mN ll_mR ll_mK ll_cnt L xs false 88 (.inl (lo_getf 91 1 8)) := lk_getf (ix := 42) (ci := 1) (k := 8) (C := RX1) (T := TX1) (N := 12) (by decide +kernel) rfl in_1 (by decide) tb_75
theorem k_20_91 (L : Nat) (xs : Nat → Int32) : ll_OK1 cX1_become RX1 none false ll_mN ll_mR ll_mK ll_cnt L xs false 91 (.inl (lo_copy 94)) := lk_copy (ix := 76) (by decide +kernel) tb_91 tb_92 tb_93 tb_94
theorem k_20_94 (L : Nat) (xs : Nat → Int32) : ll_OK1 cX1_become RX1 none false ll_mN ll_mR ll_mK ll_cnt L xs false 94 (.inl (lo_aload 95 1)) := lk_aload_n (k := 1) (by decide +kernel) rfl
theorem k_20_95 (L : Nat) (xs : Nat → Int32) : ll_OK1 cX1_become RX1 none false ll_mN ll_mR ll_mK ll_cnt L xs false 95 (.inl (lo_getf 98 1 3)) := lk_getf (ix := 21) (ci := 1) (k := 3) (C := RX1) (T := TX1) (N := 12) (by decide +kernel) rfl in_1 (by decide) tb_65
theorem k_20_98 (L : Nat) (xs : Nat → Int32) : ll_OK1 cX1_become RX1 none false ll_mN ll_mR ll_mK ll_cnt L xs false 98 (.inl (lo_push 99 (.int 0))) := lk_iconst (n := 0) (by decide +kernel) (by decide)
theorem k_20_99 (L : Nat) (xs : Nat → Int32) : ll_OK1 cX1_become RX1 none false ll_mN ll_mR ll_mK ll_cnt L xs false 99 (.inl (lo_aload 100 0)) := lk_aload_n (k := 0) (by decide +kernel) rfl
theorem k_20_100 (L : Nat) (xs : Nat → Int32) : ll_OK1 cX1_become RX1 none false ll_mN ll_mR ll_mK ll_cnt L xs false 100 (.inl (lo_getf 103 1 3)) := lk_getf (ix := 21) (ci := 1) (k := 3) (C := RX1) (T := TX1) (N := 12) (by decide +kernel) rfl in_1 (by decide) tb_65
theorem k_20_103 (L : Nat) (xs : Nat → Int32) : ll_OK1 cX1_become RX1 none false ll_mN ll_mR ll_mK ll_cnt L xs false 103 (.inl (lo_push 104 (.int 0))) := lk_iconst (n := 0) (by decide +kernel) (by decide)
theorem k_20_104 (L : Nat) (xs : Nat → Int32) : ll_OK1 cX1_become RX1 none false ll_mN ll_mR ll_mK ll_cnt L xs false 104 (.inl (lo_aload 105 0)) := lk_aload_n (k := 0) (by decide +kernel) rfl
theorem k_20_105 (L : Nat) (xs : Nat → Int32) : ll_OK1 cX1_become RX1 none false ll_mN ll_mR ll_mK ll_cnt L xs false 105 (.inl (lo_getf 108 1 8)) := lk_getf (ix := 42) (ci := 1) (k := 8) (C := RX1) (T := TX1) (N := 12) (by decide +kernel) rfl in_1 (by decide) tb_75
theorem k_20_108 (L : Nat) (xs : Nat → Int32) : ll_OK1 cX1_become RX1 none false ll_mN ll_mR ll_mK ll_cnt L xs false 108 (.inl (lo_copy 111)) := lk_copy (ix := 76) (by decide +kernel) tb_91 tb_92 tb_93 tb_94
theorem k_20_111 (L : Nat) (xs : Nat → Int32) : ll_OK1 cX1_become RX1 none false ll_mN ll_mR ll_mK ll_cnt L xs false 111 (.inl (lo_aload 112 1)) := lk_aload_n (k := 1) (by decide +kernel) rfl
theorem k_20_112 (L : Nat) (xs : Nat → Int32) : ll_OK1 cX1_become RX1 none false ll_mN ll_mR ll_mK ll_cnt L xs false 112 (.inl (lo_getf 115 1 4)) := lk_getf (ix := 24) (ci := 1) (k := 4) (C := RX1) (T := TX1) (N := 12) (by decide +kernel) rfl in_1 (by decide) tb_66
theorem k_20_115 (L : Nat) (xs : Nat → Int32) : ll_OK1 cX1_become RX1 none false ll_mN ll_mR ll_mK ll_cnt L xs false 115 (.inl (lo_push 116 (.int 0))) := lk_iconst (n := 0) (by decide +kernel) (by decide)
theorem k_20_116 (L : Nat) (xs : Nat → Int32) : ll_OK1 cX1_become RX1 none false ll_mN ll_mR ll_mK ll_cnt L xs false 116 (.inl (lo_aload 117 0)) := lk_aload_n (k := 0) (by decide +kernel) rfl
theorem k_20_117 (L : Nat) (xs : Nat → Int32) : ll_OK1 cX1_become RX1 none false ll_mN ll_mR ll_mK ll_cnt L xs false 117 (.inl (lo_getf 120 1 4)) := lk_getf (ix := 24) (ci := 1) (k := 4) (C := RX1) (T := TX1) (N := 12) (by decide +kernel) rfl in_1 (by decide) tb_66
theorem k_20_120 (L : Nat) (xs : Nat → Int32) : ll_OK1 cX1_become RX1 none false ll_mN ll_mR ll_mK ll_cnt L xs false 120 (.inl (lo_push 121 (.int 0))) := lk_iconst (n := 0) (by decide +kernel) (by decide)
theorem k_20_121 (L : Nat) (xs : Nat → Int32) : ll_OK1 cX1_become RX1 none false ll_mN ll_mR ll_mK ll_cnt L xs false 121 (.inl (lo_aload 122 0)) := lk_aload_n (k := 0) (by decide +kernel) rfl
theorem k_20_122 (L : Nat) (xs : Nat → Int32) : ll_OK1 cX1_become RX1 none false ll_mN ll_mR ll_mK ll_cnt L xs false 122 (.inl (lo_getf 125 1 8)) := lk_getf (ix := 42) (ci := 1) (k := 8) (C := RX1) (T := TX1) (N := 12) (by decide +kernel) rfl in_1 (by decide) tb_75
theorem k_20_125 (L : Nat) (xs : Nat → Int32) : ll_OK1 cX1_become RX1 none false ll_mN ll_mR ll_mK ll_cnt L xs false 125 (.inl (lo_copy 128)) := lk_copy (ix := 76) (by decide +kernel) tb_91 tb_92 tb_93 tb_94
theorem k_20_128 (L : Nat) (xs : Nat → Int32) : ll_OK1 cX1_become RX1 none false ll_mN ll_mR ll_mK ll_cnt L xs false 128 (.inl (lo_aload 129 1)) := lk_aload_n (k := 1) (by decide +kernel) rfl
theorem k_20_129 (L : Nat) (xs : Nat → Int32) : ll_OK1 cX1_become RX1 none false ll_mN ll_mR ll_mK ll_cnt L xs false 129 (.inl (lo_getf 132 1 5)) := lk_getf (ix := 27) (ci := 1) (k := 5) (C := RX1) (T := TX1) (N := 12) (by decide +kernel) rfl in_1 (by decide) tb_67
theorem k_20_132 (L : Nat) (xs : Nat → Int32) : ll_OK1 cX1_become RX1 none false ll_mN ll_mR ll_mK ll_cnt L xs false 132 (.inl (lo_push 133 (.int 0))) := lk_iconst (n := 0) (by decide +kernel) (by decide)
theorem k_20_133 (L : Nat) (xs : Nat → Int32) : ll_OK1 cX1_become RX1 none false ll_mN ll_mR ll_mK ll_cnt L xs false 133 (.inl (lo_aload 134 0)) := lk_aload_n (k := 0) (by decide +kernel) rfl
theorem k_20_134 (L : Nat) (xs : Nat → Int32) : ll_OK1 cX1_become RX1 none false ll_mN ll_mR ll_mK ll_cnt L xs false 134 (.inl (lo_getf 137 1 5)) := lk_getf (ix := 27) (ci := 1) (k := 5) (C := RX1) (T := TX1) (N := 12) (by decide +kernel) rfl in_1 (by decide) tb_67
theorem k_20_137 (L : Nat) (xs : Nat → Int32) : ll_OK1 cX1_become RX1 none false ll_mN ll_mR ll_mK ll_cnt L xs false 137 (.inl (lo_push 138 (.int 0))) := lk_iconst (n := 0) (by decide +kernel) (by decide)
theorem k_20_138 (L : Nat) (xs : Nat → Int32) : ll_OK1 cX1_become RX1 none false ll_mN ll_mR ll_mK ll_cnt L xs false 138 (.inl (lo_aload 139 0)) := lk_aload_n (k := 0) (by decide +kernel) rfl
theorem k_20_139 (L : Nat) (xs : Nat → Int32) : ll_OK1 cX1_become RX1 none false ll_mN ll_mR ll_mK ll_cnt L xs false 139 (.inl (lo_getf 142 1 9)) := lk_getf (ix := 46) (ci := 1) (k := 9) (C := RX1) (T := TX1) (N := 12) (by decide +kernel) rfl in_1 (by decide) tb_76
theorem k_20_142 (L : Nat) (xs : Nat → Int32) : ll_OK1 cX1_become RX1 none false ll_mN ll_mR ll_mK ll_cnt L xs false 142 (.inl (lo_copy 145)) := lk_copy (ix := 76) (by decide +kernel) tb_91 tb_92 tb_93 tb_94
theorem k_20_145 (L : Nat) (xs : Nat → Int32) : ll_OK1 cX1_become RX1 none false ll_mN ll_mR ll_mK ll_cnt L xs false 145 (.inr (.inr 0)) := ⟨fun _ => ⟨(by decide +kernel), rfl⟩, (fun h => by cases h), fun h => by cases h⟩
theorem ok_20 (L : Nat) (xs : Nat → Int32) : ∀ q ∈ cd_20, ll_OK1 cX1_become RX1 none false ll_mN ll_mR ll_mK ll_cnt L xs false q.1 q.2 :=
  List.forall_mem_cons.mpr ⟨k_20_0 L xs, List.forall_mem_cons.mpr ⟨k_20_1 L xs, List.forall_mem_cons.mpr ⟨k_20_2 L xs, List.forall_mem_cons.mpr ⟨k_20_5 L xs, List.forall_mem_cons.mpr ⟨k_20_8 L xs, List.forall_mem_cons.mpr ⟨k_20_9 L xs, List.forall_mem_cons.mpr ⟨k_20_10 L xs, List.forall_mem_cons.mpr ⟨k_20_13 L xs, List.forall_mem_cons.mpr ⟨k_20_16 L xs, List.forall_mem_cons.mpr ⟨k_20_17 L xs, List.forall_mem_cons.mpr ⟨k_20_18 L xs, List.forall_mem_cons.mpr ⟨k_20_21 L xs, List.forall_mem_cons.mpr ⟨k_20_24 L xs, List.forall_mem_cons.mpr ⟨k_20_25 L xs, List.forall_mem_cons.mpr ⟨k_20_26 L xs, List.forall_mem_cons.mpr ⟨k_20_29 L xs, List.forall_mem_cons.mpr ⟨k_20_32 L xs, List.forall_mem_cons.mpr ⟨k_20_33 L xs, List.forall_mem_cons.mpr ⟨k_20_36 L xs, List.forall_mem_cons.mpr ⟨k_20_37 L xs, List.forall_mem_cons.mpr ⟨k_20_40 L xs, List.forall_mem_cons.mpr ⟨k_20_43 L xs, List.forall_mem_cons.mpr ⟨k_20_44 L xs, List.forall_mem_cons.mpr ⟨k_20_47 L xs, List.forall_mem_cons.mpr ⟨k_20_48 L xs, List.forall_mem_cons.mpr ⟨k_20_49 L xs, List.forall_mem_cons.mpr ⟨k_20_52 L xs, List.forall_mem_cons.mpr ⟨k_20_53 L xs, List.forall_mem_cons.mpr ⟨k_20_54 L xs, List.forall_mem_cons.mpr ⟨k_20_57 L xs, List.forall_mem_cons.mpr ⟨k_20_60 L xs, List.forall_mem_cons.mpr ⟨k_20_61 L xs, List.forall_mem_cons.mpr ⟨k_20_64 L xs, List.forall_mem_cons.mpr ⟨k_20_65 L xs, List.forall_mem_cons.mpr ⟨k_20_66 L xs, List.forall_mem_cons.mpr ⟨k_20_69 L xs, List.forall_mem_cons.mpr ⟨k_20_70 L xs, List.forall_mem_cons.mpr ⟨k_20_71 L xs, List.forall_mem_cons.mpr ⟨k_20_74 L xs, List.forall_mem_cons.mpr ⟨k_20_77 L xs, List.forall_mem_cons.mpr ⟨k_20_78 L xs, List.forall_mem_cons.mpr ⟨k_20_81 L xs, List.forall_mem_cons.mpr ⟨k_20_82 L xs, List.forall_mem_cons.mpr ⟨k_20_83 L xs, List.forall_mem_cons.mpr ⟨k_20_86 L xs, List.forall_mem_cons.mpr ⟨k_20_87 L xs, List.forall_mem_cons.mpr ⟨k_20_88 L xs, List.forall_mem_cons.mpr ⟨k_20_91 L xs, List.forall_mem_cons.mpr ⟨k_20_94 L xs, List.forall_mem_cons.mpr ⟨k_20_95 L xs, List.forall_mem_cons.mpr ⟨k_20_98 L xs, List.forall_mem_cons.mpr ⟨k_20_99 L xs, List.forall_mem_cons.mpr ⟨k_20_100 L xs, List.forall_mem_cons.mpr ⟨k_20_103 L xs, List.forall_mem_cons.mpr ⟨k_20_104 L xs, List.forall_mem_cons.mpr ⟨k_20_105 L xs, List.forall_mem_cons.mpr ⟨k_20_108 L xs, List.forall_mem_cons.mpr ⟨k_20_111 L xs, List.forall_mem_cons.mpr ⟨k_20_112 L xs, List.forall_mem_cons.mpr ⟨k_20_115 L xs, List.forall_mem_cons.mpr ⟨k_20_116 L xs, List.forall_mem_cons.mpr ⟨k_20_117 L xs, List.forall_mem_cons.mpr ⟨k_20_120 L xs, List.forall_mem_cons.mpr ⟨k_20_121 L xs, List.forall_mem_cons.mpr ⟨k_20_122 L xs, List.forall_mem_cons.mpr ⟨k_20_125 L xs, List.forall_mem_cons.mpr ⟨k_20_128 L xs, List.forall_mem_cons.mpr ⟨k_20_129 L xs, List.forall_mem_cons.mpr ⟨k_20_132 L xs, List.forall_mem_cons.mpr ⟨k_20_133 L xs, List.forall_mem_cons.mpr ⟨k_20_134 L xs, List.forall_mem_cons.mpr ⟨k_20_137 L xs, List.forall_mem_cons.mpr ⟨k_20_138 L xs, List.forall_mem_cons.mpr ⟨k_20_139 L xs, List.forall_mem_cons.mpr ⟨k_20_142 L xs, List.forall_mem_cons.mpr ⟨k_20_145 L xs, fun _ h => absurd h List.not_mem_nil⟩⟩⟩⟩⟩⟩⟩⟩⟩⟩⟩⟩⟩⟩⟩⟩⟩⟩⟩⟩⟩⟩⟩⟩⟩⟩⟩⟩⟩⟩⟩⟩⟩⟩⟩⟩⟩⟩⟩⟩⟩⟩⟩⟩⟩⟩⟩⟩⟩⟩⟩⟩⟩⟩⟩⟩⟩⟩⟩⟩⟩⟩⟩⟩⟩⟩⟩⟩⟩⟩⟩⟩⟩⟩⟩⟩
/-- InclusionProver$Reader.<init>.(LInclusionProver$Tree;LInclusionProver$Text;)V -/
def cd_21 : List (Nat × ll_O) := [
  (0, .inl (lo_aload 1 0)),
  (1, .inl (lo_init 4)),
  (4, .inl (lo_aload 5 0)),
  (5, .inl (lo_push 6 (.int (-1)))),
  (6, .inl (lo_putf 9 2 4 0)),
  (9, .inl (lo_aload 10 0)),
  (10, .inl (lo_aload 11 1)),
  (11, .inl (lo_putf 14 2 0 2)),
  (14, .inl (lo_aload 15 0)),
  (15, .inl (lo_aload 16 2)),
  (16, .inl (lo_putf 19 2 1 2)),
  (19, .inr (.inr 0))]
theorem k_21_0 (L : Nat) (xs : Nat → Int32) : ll_OK1 cX2_init RX2 none true ll_mN ll_mR ll_mK ll_cnt L xs false 0 (.inl (lo_aload 1 0)) := lk_aload_n (k := 0) (by decide +kernel) rfl
theorem k_21_1 (L : Nat) (xs : Nat → Int32) : ll_OK1 cX2_init RX2 none true ll_mN ll_mR ll_mK ll_cnt L xs false 1 (.inl (lo_init 4)) := lk_init (ix := 3) (by decide +kernel) tb_95 tb_1 tb_2
theorem k_21_4 (L : Nat) (xs : Nat → Int32) : ll_OK1 cX2_init RX2 none true ll_mN ll_mR ll_mK ll_cnt L xs false 4 (.inl (lo_aload 5 0)) := lk_aload_n (k := 0) (by decide +kernel) rfl
theorem k_21_5 (L : Nat) (xs : Nat → Int32) : ll_OK1 cX2_init RX2 none true ll_mN ll_mR ll_mK ll_cnt L xs false 5 (.inl (lo_push 6 (.int (-1)))) := lk_iconst (n := (-1)) (by decide +kernel) (by decide)
theorem k_21_6 (L : Nat) (xs : Nat → Int32) : ll_OK1 cX2_init RX2 none true ll_mN ll_mR ll_mK ll_cnt L xs false 6 (.inl (lo_putf 9 2 4 0)) := lk_putf (ix := 9) (ci := 2) (k := 4) (C := RX2) (T := TX2) (N := 5) (ty0 := tyX2) (by decide +kernel) rfl in_2 tyX2_ok nmX2 (by decide) tb_96 (fun B adr v w h1 h2 => ll_fit_int (B := B) (adr := adr) h1 h2) (Or.inl rfl)
theorem k_21_9 (L : Nat) (xs : Nat → Int32) : ll_OK1 cX2_init RX2 none true ll_mN ll_mR ll_mK ll_cnt L xs false 9 (.inl (lo_aload 10 0)) := lk_aload_n (k := 0) (by decide +kernel) rfl
theorem k_21_10 (L : Nat) (xs : Nat → Int32) : ll_OK1 cX2_init RX2 none true ll_mN ll_mR ll_mK ll_cnt L xs false 10 (.inl (lo_aload 11 1)) := lk_aload_n (k := 1) (by decide +kernel) rfl
theorem k_21_11 (L : Nat) (xs : Nat → Int32) : ll_OK1 cX2_init RX2 none true ll_mN ll_mR ll_mK ll_cnt L xs false 11 (.inl (lo_putf 14 2 0 2)) := lk_putf (ix := 15) (ci := 2) (k := 0) (C := RX2) (T := TX2) (N := 5) (ty0 := tyX2) (by decide +kernel) rfl in_2 tyX2_ok nmX2 (by decide) tb_97 (fun B adr v w h1 h2 => ll_fit_obj (B := B) (adr := adr) h1 h2) (Or.inr ⟨rfl, rfl, rfl⟩)
theorem k_21_14 (L : Nat) (xs : Nat → Int32) : ll_OK1 cX2_init RX2 none true ll_mN ll_mR ll_mK ll_cnt L xs false 14 (.inl (lo_aload 15 0)) := lk_aload_n (k := 0) (by decide +kernel) rfl
theorem k_21_15 (L : Nat) (xs : Nat → Int32) : ll_OK1 cX2_init RX2 none true ll_mN ll_mR ll_mK ll_cnt L xs false 15 (.inl (lo_aload 16 2)) := lk_aload_n (k := 2) (by decide +kernel) rfl
theorem k_21_16 (L : Nat) (xs : Nat → Int32) : ll_OK1 cX2_init RX2 none true ll_mN ll_mR ll_mK ll_cnt L xs false 16 (.inl (lo_putf 19 2 1 2)) := lk_putf (ix := 19) (ci := 2) (k := 1) (C := RX2) (T := TX2) (N := 5) (ty0 := tyX2) (by decide +kernel) rfl in_2 tyX2_ok nmX2 (by decide) tb_98 (fun B adr v w h1 h2 => ll_fit_obj (B := B) (adr := adr) h1 h2) (Or.inl rfl)
theorem k_21_19 (L : Nat) (xs : Nat → Int32) : ll_OK1 cX2_init RX2 none true ll_mN ll_mR ll_mK ll_cnt L xs false 19 (.inr (.inr 0)) := ⟨fun _ => ⟨(by decide +kernel), rfl⟩, (fun h => by cases h), fun h => by cases h⟩
theorem ok_21 (L : Nat) (xs : Nat → Int32) : ∀ q ∈ cd_21, ll_OK1 cX2_init RX2 none true ll_mN ll_mR ll_mK ll_cnt L xs false q.1 q.2 :=
  List.forall_mem_cons.mpr ⟨k_21_0 L xs, List.forall_mem_cons.mpr ⟨k_21_1 L xs, List.forall_mem_cons.mpr ⟨k_21_4 L xs, List.forall_mem_cons.mpr ⟨k_21_5 L xs, List.forall_mem_cons.mpr ⟨k_21_6 L xs, List.forall_mem_cons.mpr ⟨k_21_9 L xs, List.forall_mem_cons.mpr ⟨k_21_10 L xs, List.forall_mem_cons.mpr ⟨k_21_11 L xs, List.forall_mem_cons.mpr ⟨k_21_14 L xs, List.forall_mem_cons.mpr ⟨k_21_15 L xs, List.forall_mem_cons.mpr ⟨k_21_16 L xs, List.forall_mem_cons.mpr ⟨k_21_19 L xs, fun _ h => absurd h List.not_mem_nil⟩⟩⟩⟩⟩⟩⟩⟩⟩⟩⟩⟩
/-- InclusionProver$Reader.read.(LInclusionProver$Text;I)I -/
def cd_22 : List (Nat × ll_O) := [
  (0, .inl (lo_aload 1 0)),
  (1, .inl (lo_aload 2 1)),
  (2, .inl (lo_putf 5 2 1 2)),
  (5, .inl (lo_aload 6 0)),
  (6, .inl (lo_iload 7 2)),
  (7, .inl (lo_putf 10 2 2 0)),
  (10, .inl (lo_aload 11 0)),
  (11, .inl (lo_push 12 (.int 0))),
  (12, .inl (lo_putf 15 2 3 0)),
  (15, .inl (lo_aload 16 0)),
  (16, .inl (lo_push 17 (.int (-1)))),
  (17, .inl (lo_putf 20 2 4 0)),
  (20, .inl (lo_aload 21 0)),
  (21, .inl (lo_getf 24 2 0)),
  (24, .inr (.inl (80, 1, 27))),
  (27, .inl (lo_aload 28 0)),
  (28, .inl (lo_push 29 (.int 0))),
  (29, .inr (.inl (23, 2, 32))),
  (32, .inl (lo_istore 33 3)),
  (33, .inl (lo_aload 34 0)),
  (34, .inl (lo_getf 37 2 4)),
  (37, .inl (lo_push 38 (.int (-1)))),
  (38, .inl (lo_cmp 57 41 (fun x y => decide (¬ x = y)))),
  (41, .inl (lo_aload 42 0)),
  (42, .inr (.inl (27, 1, 45))),
  (45, .inl (lo_push 46 (.int (-1)))),
  (46, .inl (lo_cmp 57 49 (fun x y => decide (x = y)))),
  (49, .inl (lo_aload 50 0)),
  (50, .inl (lo_aload 51 0)),
  (51, .inl (lo_getf 54 2 3)),
  (54, .inl (lo_putf 57 2 4 0)),
  (57, .inl (lo_aload 58 0)),
  (58, .inl (lo_getf 61 2 4)),
  (61, .inl (lo_push 62 (.int (-1)))),
  (62, .inl (lo_cmp 69 65 (fun x y => decide (¬ x = y)))),
  (65, .inl (lo_iload 66 3)),
  (66, .inl (lo_goto 70)),
  (69, .inl (lo_push 70 (.int (-1)))),
  (70, .inr (.inr 1))]
theorem k_22_0 (L : Nat) (xs : Nat → Int32) : ll_OK1 cX2_read RX2 (some .int) false ll_mN ll_mR ll_mK ll_cnt L xs false 0 (.inl (lo_aload 1 0)) := lk_aload_n (k := 0) (by decide +kernel) rfl
theorem k_22_1 (L : Nat) (xs : Nat → Int32) : ll_OK1 cX2_read RX2 (some .int) false ll_mN ll_mR ll_mK ll_cnt L xs false 1 (.inl (lo_aload 2 1)) := lk_aload_n (k := 1) (by decide +kernel) rfl
theorem k_22_2 (L : Nat) (xs : Nat → Int32) : ll_OK1 cX2_read RX2 (some .int) false ll_mN ll_mR ll_mK ll_cnt L xs false 2 (.inl (lo_putf 5 2 1 2)) := lk_putf (ix := 19) (ci := 2) (k := 1) (C := RX2) (T := TX2) (N := 5) (ty0 := tyX2) (by decide +kernel) rfl in_2 tyX2_ok nmX2 (by decide) tb_98 (fun B adr v w h1 h2 => ll_fit_obj (B := B) (adr := adr) h1 h2) (Or.inl rfl)
theorem k_22_5 (L : Nat) (xs : Nat → Int32) : ll_OK1 cX2_read RX2 (some .int) false ll_mN ll_mR ll_mK ll_cnt L xs false 5 (.inl (lo_aload 6 0)) := lk_aload_n (k := 0) (by decide +kernel) rfl
theorem k_22_6 (L : Nat) (xs : Nat → Int32) : ll_OK1 cX2_read RX2 (some .int) false ll_mN ll_mR ll_mK ll_cnt L xs false 6 (.inl (lo_iload 7 2)) := lk_iload_n (k := 2) (by decide +kernel) rfl
theorem k_22_7 (L : Nat) (xs : Nat → Int32) : ll_OK1 cX2_read RX2 (some .int) false ll_mN ll_mR ll_mK ll_cnt L xs false 7 (.inl (lo_putf 10 2 2 0)) := lk_putf (ix := 23) (ci := 2) (k := 2) (C := RX2) (T := TX2) (N := 5) (ty0 := tyX2) (by decide +kernel) rfl in_2 tyX2_ok nmX2 (by decide) tb_99 (fun B adr v w h1 h2 => ll_fit_int (B := B) (adr := adr) h1 h2) (Or.inl rfl)
theorem k_22_10 (L : Nat) (xs : Nat → Int32) : ll_OK1 cX2_read RX2 (some .int) false ll_mN ll_mR ll_mK ll_cnt L xs false 10 (.inl (lo_aload 11 0)) := lk_aload_n (k := 0) (by decide +kernel) rfl
theorem k_22_11 (L : Nat) (xs : Nat → Int32) : ll_OK1 cX2_read RX2 (some .int) false ll_mN ll_mR ll_mK ll_cnt L xs false 11 (.inl (lo_push 12 (.int 0))) := lk_iconst (n := 0) (by decide +kernel) (by decide)
theorem k_22_12 (L : Nat) (xs : Nat → Int32) : ll_OK1 cX2_read RX2 (some .int) false ll_mN ll_mR ll_mK ll_cnt L xs false 12 (.inl (lo_putf 15 2 3 0)) := lk_putf (ix := 26) (ci := 2) (k := 3) (C := RX2) (T := TX2) (N := 5) (ty0 := tyX2) (by decide +kernel) rfl in_2 tyX2_ok nmX2 (by decide) tb_100 (fun B adr v w h1 h2 => ll_fit_int (B := B) (adr := adr) h1 h2) (Or.inl rfl)
theorem k_22_15 (L : Nat) (xs : Nat → Int32) : ll_OK1 cX2_read RX2 (some .int) false ll_mN ll_mR ll_mK ll_cnt L xs false 15 (.inl (lo_aload 16 0)) := lk_aload_n (k := 0) (by decide +kernel) rfl
theorem k_22_16 (L : Nat) (xs : Nat → Int32) : ll_OK1 cX2_read RX2 (some .int) false ll_mN ll_mR ll_mK ll_cnt L xs false 16 (.inl (lo_push 17 (.int (-1)))) := lk_iconst (n := (-1)) (by decide +kernel) (by decide)
theorem k_22_17 (L : Nat) (xs : Nat → Int32) : ll_OK1 cX2_read RX2 (some .int) false ll_mN ll_mR ll_mK ll_cnt L xs false 17 (.inl (lo_putf 20 2 4 0)) := lk_putf (ix := 9) (ci := 2) (k := 4) (C := RX2) (T := TX2) (N := 5) (ty0 := tyX2) (by decide +kernel) rfl in_2 tyX2_ok nmX2 (by decide) tb_96 (fun B adr v w h1 h2 => ll_fit_int (B := B) (adr := adr) h1 h2) (Or.inl rfl)
theorem k_22_20 (L : Nat) (xs : Nat → Int32) : ll_OK1 cX2_read RX2 (some .int) false ll_mN ll_mR ll_mK ll_cnt L xs false 20 (.inl (lo_aload 21 0)) := lk_aload_n (k := 0) (by decide +kernel) rfl
theorem k_22_21 (L : Nat) (xs : Nat → Int32) : ll_OK1 cX2_read RX2 (some .int) false ll_mN ll_mR ll_mK ll_cnt L xs false 21 (.inl (lo_getf 24 2 0)) := lk_getf (ix := 15) (ci := 2) (k := 0) (C := RX2) (T := TX2) (N := 5) (by decide +kernel) rfl in_2 (by decide) tb_97
theorem k_22_24 (L : Nat) (xs : Nat → Int32) : ll_OK1 cX2_read RX2 (some .int) false ll_mN ll_mR ll_mK ll_cnt L xs false 24 (.inr (.inl (80, 1, 27))) := ⟨rfl, by decide, by rw [mN_80, mK_80, mR_80]; exact lj_v 29 0 8 (RX8, TX8, 10) (by decide +kernel) tb_101 tb_102 tb_103 rfl rfl rfl rfl (by decide +kernel)⟩
theorem k_22_27 (L : Nat) (xs : Nat → Int32) : ll_OK1 cX2_read RX2 (some .int) false ll_mN ll_mR ll_mK ll_cnt L xs false 27 (.inl (lo_aload 28 0)) := lk_aload_n (k := 0) (by decide +kernel) rfl
theorem k_22_28 (L : Nat) (xs : Nat → Int32) : ll_OK1 cX2_read RX2 (some .int) false ll_mN ll_mR ll_mK ll_cnt L xs false 28 (.inl (lo_push 29 (.int 0))) := lk_iconst (n := 0) (by decide +kernel) (by decide)
theorem k_22_29 (L : Nat) (xs : Nat → Int32) : ll_OK1 cX2_read RX2 (some .int) false ll_mN ll_mR ll_mK ll_cnt L xs false 29 (.inr (.inl (23, 2, 32))) := ⟨rfl, by decide, by rw [mN_23, mK_23, mR_23]; exact lj_v 34 1 2 (RX2, TX2, 5) (by decide +kernel) tb_104 tb_105 tb_106 rfl rfl rfl rfl (by decide +kernel)⟩
theorem k_22_32 (L : Nat) (xs : Nat → Int32) : ll_OK1 cX2_read RX2 (some .int) false ll_mN ll_mR ll_mK ll_cnt L xs false 32 (.inl (lo_istore 33 3)) := lk_istore_n (k := 3) (by decide +kernel) rfl
theorem k_22_33 (L : Nat) (xs : Nat → Int32) : ll_OK1 cX2_read RX2 (some .int) false ll_mN ll_mR ll_mK ll_cnt L xs false 33 (.inl (lo_aload 34 0)) := lk_aload_n (k := 0) (by decide +kernel) rfl
theorem k_22_34 (L : Nat) (xs : Nat → Int32) : ll_OK1 cX2_read RX2 (some .int) false ll_mN ll_mR ll_mK ll_cnt L xs false 34 (.inl (lo_getf 37 2 4)) := lk_getf (ix := 9) (ci := 2) (k := 4) (C := RX2) (T := TX2) (N := 5) (by decide +kernel) rfl in_2 (by decide) tb_96
theorem k_22_37 (L : Nat) (xs : Nat → Int32) : ll_OK1 cX2_read RX2 (some .int) false ll_mN ll_mR ll_mK ll_cnt L xs false 37 (.inl (lo_push 38 (.int (-1)))) := lk_iconst (n := (-1)) (by decide +kernel) (by decide)
theorem k_22_38 (L : Nat) (xs : Nat → Int32) : ll_OK1 cX2_read RX2 (some .int) false ll_mN ll_mR ll_mK ll_cnt L xs false 38 (.inl (lo_cmp 57 41 (fun x y => decide (¬ x = y)))) := lk_icmp_ne (off := 19) (by decide +kernel) rfl
theorem k_22_41 (L : Nat) (xs : Nat → Int32) : ll_OK1 cX2_read RX2 (some .int) false ll_mN ll_mR ll_mK ll_cnt L xs false 41 (.inl (lo_aload 42 0)) := lk_aload_n (k := 0) (by decide +kernel) rfl
theorem k_22_42 (L : Nat) (xs : Nat → Int32) : ll_OK1 cX2_read RX2 (some .int) false ll_mN ll_mR ll_mK ll_cnt L xs false 42 (.inr (.inl (27, 1, 45))) := ⟨rfl, by decide, by rw [mN_27, mK_27, mR_27]; exact lj_v 38 0 2 (RX2, TX2, 5) (by decide +kernel) tb_107 tb_108 tb_109 rfl rfl rfl rfl (by decide +kernel)⟩
theorem k_22_45 (L : Nat) (xs : Nat → Int32) : ll_OK1 cX2_read RX2 (some .int) false ll_mN ll_mR ll_mK ll_cnt L xs false 45 (.inl (lo_push 46 (.int (-1)))) := lk_iconst (n := (-1)) (by decide +kernel) (by decide)
theorem k_22_46 (L : Nat) (xs : Nat → Int32) : ll_OK1 cX2_read RX2 (some .int) false ll_mN ll_mR ll_mK ll_cnt L xs false 46 (.inl (lo_cmp 57 49 (fun x y => decide (x = y)))) := lk_icmp_eq (off := 11) (by decide +kernel) rfl
theorem k_22_49 (L : Nat) (xs : Nat → Int32) : ll_OK1 cX2_read RX2 (some .int) false ll_mN ll_mR ll_mK ll_cnt L xs false 49 (.inl (lo_aload 50 0)) := lk_aload_n (k := 0) (by decide +kernel) rfl
theorem k_22_50 (L : Nat) (xs : Nat → Int32) : ll_OK1 cX2_read RX2 (some .int) false ll_mN ll_mR ll_mK ll_cnt L xs false 50 (.inl (lo_aload 51 0)) := lk_aload_n (k := 0) (by decide +kernel) rfl
theorem k_22_51 (L : Nat) (xs : Nat → Int32) : ll_OK1 cX2_read RX2 (some .int) false ll_mN ll_mR ll_mK ll_cnt L xs false 51 (.inl (lo_getf 54 2 3)) := lk_getf (ix := 26) (ci := 2) (k := 3) (C := RX2) (T := TX2) (N := 5) (by decide +kernel) rfl in_2 (by decide) tb_100
theorem k_22_54 (L : Nat) (xs : Nat → Int32) : ll_OK1 cX2_read RX2 (some .int) false ll_mN ll_mR ll_mK ll_cnt L xs false 54 (.inl (lo_putf 57 2 4 0)) := lk_putf (ix := 9) (ci := 2) (k := 4) (C := RX2) (T := TX2) (N := 5) (ty0 := tyX2) (by decide +kernel) rfl in_2 tyX2_ok nmX2 (by decide) tb_96 (fun B adr v w h1 h2 => ll_fit_int (B := B) (adr := adr) h1 h2) (Or.inl rfl)
theorem k_22_57 (L : Nat) (xs : Nat → Int32) : ll_OK1 cX2_read RX2 (some .int) false ll_mN ll_mR ll_mK ll_cnt L xs false 57 (.inl (lo_aload 58 0)) := lk_aload_n (k := 0) (by decide +kernel) rfl
theorem k_22_58 (L : Nat) (xs : Nat → Int32) : ll_OK1 cX2_read RX2 (some .int) false ll_mN ll_mR ll_mK ll_cnt L xs false 58 (.inl (lo_getf 61 2 4)) := lk_getf (ix := 9) (ci := 2) (k := 4) (C := RX2) (T := TX2) (N := 5) (by decide +kernel) rfl in_2 (by decide) tb_96
theorem k_22_61 (L : Nat) (xs : Nat → Int32) : ll_OK1 cX2_read RX2 (some .int) false ll_mN ll_mR ll_mK ll_cnt L xs false 61 (.inl (lo_push 62 (.int (-1)))) := lk_iconst (n := (-1)) (by decide +kernel) (by decide)
theorem k_22_62 (L : Nat) (xs : Nat → Int32) : ll_OK1 cX2_read RX2 (some .int) false ll_mN ll_mR ll_mK ll_cnt L xs false 62 (.inl (lo_cmp 69 65 (fun x y => decide (¬ x = y)))) := lk_icmp_ne (off := 7) (by decide +kernel) rfl
theorem k_22_65 (L : Nat) (xs : Nat → Int32) : ll_OK1 cX2_read RX2 (some .int) false ll_mN ll_mR ll_mK ll_cnt L xs false 65 (.inl (lo_iload 66 3)) := lk_iload_n (k := 3) (by decide +kernel) rfl
theorem k_22_66 (L : Nat) (xs : Nat → Int32) : ll_OK1 cX2_read RX2 (some .int) false ll_mN ll_mR ll_mK ll_cnt L xs false 66 (.inl (lo_goto 70)) := lk_goto (off := 4) (by decide +kernel) rfl
theorem k_22_69 (L : Nat) (xs : Nat → Int32) : ll_OK1 cX2_read RX2 (some .int) false ll_mN ll_mR ll_mK ll_cnt L xs false 69 (.inl (lo_push 70 (.int (-1)))) := lk_iconst (n := (-1)) (by decide +kernel) (by decide)
theorem k_22_70 (L : Nat) (xs : Nat → Int32) : ll_OK1 cX2_read RX2 (some .int) false ll_mN ll_mR ll_mK ll_cnt L xs false 70 (.inr (.inr 1)) := ⟨(fun h => by cases h), (fun _ => ⟨(by decide +kernel), rfl⟩), fun h => by cases h⟩
theorem ok_22 (L : Nat) (xs : Nat → Int32) : ∀ q ∈ cd_22, ll_OK1 cX2_read RX2 (some .int) false ll_mN ll_mR ll_mK ll_cnt L xs false q.1 q.2 :=
  List.forall_mem_cons.mpr ⟨k_22_0 L xs, List.forall_mem_cons.mpr ⟨k_22_1 L xs, List.forall_mem_cons.mpr ⟨k_22_2 L xs, List.forall_mem_cons.mpr ⟨k_22_5 L xs, List.forall_mem_cons.mpr ⟨k_22_6 L xs, List.forall_mem_cons.mpr ⟨k_22_7 L xs, List.forall_mem_cons.mpr ⟨k_22_10 L xs, List.forall_mem_cons.mpr ⟨k_22_11 L xs, List.forall_mem_cons.mpr ⟨k_22_12 L xs, List.forall_mem_cons.mpr ⟨k_22_15 L xs, List.forall_mem_cons.mpr ⟨k_22_16 L xs, List.forall_mem_cons.mpr ⟨k_22_17 L xs, List.forall_mem_cons.mpr ⟨k_22_20 L xs, List.forall_mem_cons.mpr ⟨k_22_21 L xs, List.forall_mem_cons.mpr ⟨k_22_24 L xs, List.forall_mem_cons.mpr ⟨k_22_27 L xs, List.forall_mem_cons.mpr ⟨k_22_28 L xs, List.forall_mem_cons.mpr ⟨k_22_29 L xs, List.forall_mem_cons.mpr ⟨k_22_32 L xs, List.forall_mem_cons.mpr ⟨k_22_33 L xs, List.forall_mem_cons.mpr ⟨k_22_34 L xs, List.forall_mem_cons.mpr ⟨k_22_37 L xs, List.forall_mem_cons.mpr ⟨k_22_38 L xs, List.forall_mem_cons.mpr ⟨k_22_41 L xs, List.forall_mem_cons.mpr ⟨k_22_42 L xs, List.forall_mem_cons.mpr ⟨k_22_45 L xs, List.forall_mem_cons.mpr ⟨k_22_46 L xs, List.forall_mem_cons.mpr ⟨k_22_49 L xs, List.forall_mem_cons.mpr ⟨k_22_50 L xs, List.forall_mem_cons.mpr ⟨k_22_51 L xs, List.forall_mem_cons.mpr ⟨k_22_54 L xs, List.forall_mem_cons.mpr ⟨k_22_57 L xs, List.forall_mem_cons.mpr ⟨k_22_58 L xs, List.forall_mem_cons.mpr ⟨k_22_61 L xs, List.forall_mem_cons.mpr ⟨k_22_62 L xs, List.forall_mem_cons.mpr ⟨k_22_65 L xs, List.forall_mem_cons.mpr ⟨k_22_66 L xs, List.forall_mem_cons.mpr ⟨k_22_69 L xs, List.forall_mem_cons.mpr ⟨k_22_70 L xs, fun _ h => absurd h List.not_mem_nil⟩⟩⟩⟩⟩⟩⟩⟩⟩⟩⟩⟩⟩⟩⟩⟩⟩⟩⟩⟩⟩⟩⟩⟩⟩⟩⟩⟩⟩⟩⟩⟩⟩⟩⟩⟩⟩⟩⟩
/-- InclusionProver$Reader.readSum.(I)I -/
def cd_23 : List (Nat × ll_O) := [
  (0, .inl (lo_aload 1 0)),
  (1, .inl (lo_getf 4 2 0)),
  (4, .inr (.inl (87, 1, 7))),
  (7, .inl (lo_istore 8 2)),
  (8, .inl (lo_push 9 (.int 1))),
  (9, .inl (lo_istore 10 3)),
  (10, .inl (lo_push 11 (.int 0))),
  (11, .inl (lo_istore 13 4)),
  (13, .inl (lo_iload 14 3)),
  (14, .inl (lo_if 82 17 (fun x => decide (x = 0)))),
  (17, .inl (lo_iload 19 4)),
  (19, .inl (lo_aload 20 0)),
  (20, .inl (lo_getf 23 2 2)),
  (23, .inl (lo_cmp 82 26 (fun x y => decide (y < x)))),
  (26, .inl (lo_aload 27 0)),
  (27, .inl (lo_getf 30 2 0)),
  (30, .inl (lo_iload 31 2)),
  (31, .inl (lo_aload 32 0)),
  (32, .inl (lo_iload 33 1)),
  (33, .inr (.inl (24, 2, 36))),
  (36, .inr (.inl (88, 3, 39))),
  (39, .inl (lo_aload 40 0)),
  (40, .inl (lo_getf 43 2 4)),
  (43, .inl (lo_push 44 (.int (-1)))),
  (44, .inl (lo_cmp 60 47 (fun x y => decide (¬ x = y)))),
  (47, .inl (lo_aload 48 0)),
  (48, .inr (.inl (27, 1, 51))),
  (51, .inl (lo_push 53 (.int 43))),
  (53, .inl (lo_cmp 60 56 (fun x y => decide (¬ x = y)))),
  (56, .inl (lo_push 57 (.int 1))),
  (57, .inl (lo_goto 61)),
  (60, .inl (lo_push 61 (.int 0))),
  (61, .inl (lo_istore 62 3)),
  (62, .inl (lo_iload 63 3)),
  (63, .inl (lo_if 76 66 (fun x => decide (x = 0)))),
  (66, .inl (lo_aload 67 0)),
  (67, .inl (lo_dup 68)),
  (68, .inl (lo_getf 71 2 3)),
  (71, .inl (lo_push 72 (.int 1))),
  (72, .inl (lo_bin 73 (fun x y => x + y))),
  (73, .inl (lo_putf 76 2 3 0)),
  (76, .inl (lo_iinc 79 4 1)),
  (79, .inl (lo_goto 13)),
  (82, .inl (lo_aload 83 0)),
  (83, .inl (lo_getf 86 2 0)),
  (86, .inl (lo_iload 87 2)),
  (87, .inr (.inl (90, 2, 90))),
  (90, .inr (.inr 1))]
theorem k_23_0 (L : Nat) (xs : Nat → Int32) : ll_OK1 cX2_readSum RX2 (some .int) false ll_mN ll_mR ll_mK ll_cnt L xs false 0 (.inl (lo_aload 1 0)) := lk_aload_n (k := 0) (by decide +kernel) rfl
theorem k_23_1 (L : Nat) (xs : Nat → Int32) : ll_OK1 cX2_readSum RX2 (some .int) false ll_mN ll_mR ll_mK ll_cnt L xs false 1 (.inl (lo_getf 4 2 0)) := lk_getf (ix := 15) (ci := 2) (k := 0) (C := RX2) (T := TX2) (N := 5) (by decide +kernel) rfl in_2 (by decide) tb_97
theorem k_23_4 (L : Nat) (xs : Nat → Int32) : ll_OK1 cX2_readSum RX2 (some .int) false ll_mN ll_mR ll_mK ll_cnt L xs false 4 (.inr (.inl (87, 1, 7))) := ⟨rfl, by decide, by rw [mN_87, mK_87, mR_87]; exact lj_v 42 0 8 (RX8, TX8, 10) (by decide +kernel) tb_110 tb_111 tb_112 rfl rfl rfl rfl (by decide +kernel)⟩
theorem k_23_7 (L : Nat) (xs : Nat → Int32) : ll_OK1 cX2_readSum RX2 (some .int) false ll_mN ll_mR ll_mK ll_cnt L xs false 7 (.inl (lo_istore 8 2)) := lk_istore_n (k := 2) (by decide +kernel) rfl
theorem k_23_8 (L : Nat) (xs : Nat → Int32) : ll_OK1 cX2_readSum RX2 (some .int) false ll_mN ll_mR ll_mK ll_cnt L xs false 8 (.inl (lo_push 9 (.int 1))) := lk_iconst (n := 1) (by decide +kernel) (by decide)
theorem k_23_9 (L : Nat) (xs : Nat → Int32) : ll_OK1 cX2_readSum RX2 (some .int) false ll_mN ll_mR ll_mK ll_cnt L xs false 9 (.inl (lo_istore 10 3)) := lk_istore_n (k := 3) (by decide +kernel) rfl
theorem k_23_10 (L : Nat) (xs : Nat → Int32) : ll_OK1 cX2_readSum RX2 (some .int) false ll_mN ll_mR ll_mK ll_cnt L xs false 10 (.inl (lo_push 11 (.int 0))) := lk_iconst (n := 0) (by decide +kernel) (by decide)
theorem k_23_11 (L : Nat) (xs : Nat → Int32) : ll_OK1 cX2_readSum RX2 (some .int) false ll_mN ll_mR ll_mK ll_cnt L xs false 11 (.inl (lo_istore 13 4)) := lk_istore (by decide +kernel)
theorem k_23_13 (L : Nat) (xs : Nat → Int32) : ll_OK1 cX2_readSum RX2 (some .int) false ll_mN ll_mR ll_mK ll_cnt L xs false 13 (.inl (lo_iload 14 3)) := lk_iload_n (k := 3) (by decide +kernel) rfl
theorem k_23_14 (L : Nat) (xs : Nat → Int32) : ll_OK1 cX2_readSum RX2 (some .int) false ll_mN ll_mR ll_mK ll_cnt L xs false 14 (.inl (lo_if 82 17 (fun x => decide (x = 0)))) := lk_if_eq (off := 68) (by decide +kernel) rfl
theorem k_23_17 (L : Nat) (xs : Nat → Int32) : ll_OK1 cX2_readSum RX2 (some .int) false ll_mN ll_mR ll_mK ll_cnt L xs false 17 (.inl (lo_iload 19 4)) := lk_iload (by decide +kernel)
theorem k_23_19 (L : Nat) (xs : Nat → Int32) : ll_OK1 cX2_readSum RX2 (some .int) false ll_mN ll_mR ll_mK ll_cnt L xs false 19 (.inl (lo_aload 20 0)) := lk_aload_n (k := 0) (by decide +kernel) rfl
theorem k_23_20 (L : Nat) (xs : Nat → Int32) : ll_OK1 cX2_readSum RX2 (some .int) false ll_mN ll_mR ll_mK ll_cnt L xs false 20 (.inl (lo_getf 23 2 2)) := lk_getf (ix := 23) (ci := 2) (k := 2) (C := RX2) (T := TX2) (N := 5) (by decide +kernel) rfl in_2 (by decide) tb_99
theorem k_23_23 (L : Nat) (xs : Nat → Int32) : ll_OK1 cX2_readSum RX2 (some .int) false ll_mN ll_mR ll_mK ll_cnt L xs false 23 (.inl (lo_cmp 82 26 (fun x y => decide (y < x)))) := lk_icmp_gt (off := 59) (by decide +kernel) rfl
theorem k_23_26 (L : Nat) (xs : Nat → Int32) : ll_OK1 cX2_readSum RX2 (some .int) false ll_mN ll_mR ll_mK ll_cnt L xs false 26 (.inl (lo_aload 27 0)) := lk_aload_n (k := 0) (by decide +kernel) rfl
theorem k_23_27 (L : Nat) (xs : Nat → Int32) : ll_OK1 cX2_readSum RX2 (some .int) false ll_mN ll_mR ll_mK ll_cnt L xs false 27 (.inl (lo_getf 30 2 0)) := lk_getf (ix := 15) (ci := 2) (k := 0) (C := RX2) (T := TX2) (N := 5) (by decide +kernel) rfl in_2 (by decide) tb_97
theorem k_23_30 (L : Nat) (xs : Nat → Int32) : ll_OK1 cX2_readSum RX2 (some .int) false ll_mN ll_mR ll_mK ll_cnt L xs false 30 (.inl (lo_iload 31 2)) := lk_iload_n (k := 2) (by decide +kernel) rfl
theorem k_23_31 (L : Nat) (xs : Nat → Int32) : ll_OK1 cX2_readSum RX2 (some .int) false ll_mN ll_mR ll_mK ll_cnt L xs false 31 (.inl (lo_aload 32 0)) := lk_aload_n (k := 0) (by decide +kernel) rfl
theorem k_23_32 (L : Nat) (xs : Nat → Int32) : ll_OK1 cX2_readSum RX2 (some .int) false ll_mN ll_mR ll_mK ll_cnt L xs false 32 (.inl (lo_iload 33 1)) := lk_iload_n (k := 1) (by decide +kernel) rfl
theorem k_23_33 (L : Nat) (xs : Nat → Int32) : ll_OK1 cX2_readSum RX2 (some .int) false ll_mN ll_mR ll_mK ll_cnt L xs false 33 (.inr (.inl (24, 2, 36))) := ⟨rfl, by decide, by rw [mN_24, mK_24, mR_24]; exact lj_v 45 1 2 (RX2, TX2, 5) (by decide +kernel) tb_113 tb_114 tb_115 rfl rfl rfl rfl (by decide +kernel)⟩
theorem k_23_36 (L : Nat) (xs : Nat → Int32) : ll_OK1 cX2_readSum RX2 (some .int) false ll_mN ll_mR ll_mK ll_cnt L xs false 36 (.inr (.inl (88, 3, 39))) := ⟨rfl, by decide, by rw [mN_88, mK_88, mR_88]; exact lj_v 48 2 8 (RX8, TX8, 10) (by decide +kernel) tb_116 tb_117 tb_118 rfl rfl rfl rfl (by decide +kernel)⟩
theorem k_23_39 (L : Nat) (xs : Nat → Int32) : ll_OK1 cX2_readSum RX2 (some .int) false ll_mN ll_mR ll_mK ll_cnt L xs false 39 (.inl (lo_aload 40 0)) := lk_aload_n (k := 0) (by decide +kernel) rfl
theorem k_23_40 (L : Nat) (xs : Nat → Int32) : ll_OK1 cX2_readSum RX2 (some .int) false ll_mN ll_mR ll_mK ll_cnt L xs false 40 (.inl (lo_getf 43 2 4)) := lk_getf (ix := 9) (ci := 2) (k := 4) (C := RX2) (T := TX2) (N := 5) (by decide +kernel) rfl in_2 (by decide) tb_96
theorem k_23_43 (L : Nat) (xs : Nat → Int32) : ll_OK1 cX2_readSum RX2 (some .int) false ll_mN ll_mR ll_mK ll_cnt L xs false 43 (.inl (lo_push 44 (.int (-1)))) := lk_iconst (n := (-1)) (by decide +kernel) (by decide)
theorem k_23_44 (L : Nat) (xs : Nat → Int32) : ll_OK1 cX2_readSum RX2 (some .int) false ll_mN ll_mR ll_mK ll_cnt L xs false 44 (.inl (lo_cmp 60 47 (fun x y => decide (¬ x = y)))) := lk_icmp_ne (off := 16) (by decide +kernel) rfl
theorem k_23_47 (L : Nat) (xs : Nat → Int32) : ll_OK1 cX2_readSum RX2 (some .int) false ll_mN ll_mR ll_mK ll_cnt L xs false 47 (.inl (lo_aload 48 0)) := lk_aload_n (k := 0) (by decide +kernel) rfl
theorem k_23_48 (L : Nat) (xs : Nat → Int32) : ll_OK1 cX2_readSum RX2 (some .int) false ll_mN ll_mR ll_mK ll_cnt L xs false 48 (.inr (.inl (27, 1, 51))) := ⟨rfl, by decide, by rw [mN_27, mK_27, mR_27]; exact lj_v 38 0 2 (RX2, TX2, 5) (by decide +kernel) tb_107 tb_108 tb_109 rfl rfl rfl rfl (by decide +kernel)⟩
theorem k_23_51 (L : Nat) (xs : Nat → Int32) : ll_OK1 cX2_readSum RX2 (some .int) false ll_mN ll_mR ll_mK ll_cnt L xs false 51 (.inl (lo_push 53 (.int 43))) := lk_bipush (n := 43) (by decide +kernel) (by decide)
theorem k_23_53 (L : Nat) (xs : Nat → Int32) : ll_OK1 cX2_readSum RX2 (some .int) false ll_mN ll_mR ll_mK ll_cnt L xs false 53 (.inl (lo_cmp 60 56 (fun x y => decide (¬ x = y)))) := lk_icmp_ne (off := 7) (by decide +kernel) rfl
theorem k_23_56 (L : Nat) (xs : Nat → Int32) : ll_OK1 cX2_readSum RX2 (some .int) false ll_mN ll_mR ll_mK ll_cnt L xs false 56 (.inl (lo_push 57 (.int 1))) := lk_iconst (n := 1) (by decide +kernel) (by decide)
theorem k_23_57 (L : Nat) (xs : Nat → Int32) : ll_OK1 cX2_readSum RX2 (some .int) false ll_mN ll_mR ll_mK ll_cnt L xs false 57 (.inl (lo_goto 61)) := lk_goto (off := 4) (by decide +kernel) rfl
theorem k_23_60 (L : Nat) (xs : Nat → Int32) : ll_OK1 cX2_readSum RX2 (some .int) false ll_mN ll_mR ll_mK ll_cnt L xs false 60 (.inl (lo_push 61 (.int 0))) := lk_iconst (n := 0) (by decide +kernel) (by decide)
theorem k_23_61 (L : Nat) (xs : Nat → Int32) : ll_OK1 cX2_readSum RX2 (some .int) false ll_mN ll_mR ll_mK ll_cnt L xs false 61 (.inl (lo_istore 62 3)) := lk_istore_n (k := 3) (by decide +kernel) rfl
theorem k_23_62 (L : Nat) (xs : Nat → Int32) : ll_OK1 cX2_readSum RX2 (some .int) false ll_mN ll_mR ll_mK ll_cnt L xs false 62 (.inl (lo_iload 63 3)) := lk_iload_n (k := 3) (by decide +kernel) rfl
theorem k_23_63 (L : Nat) (xs : Nat → Int32) : ll_OK1 cX2_readSum RX2 (some .int) false ll_mN ll_mR ll_mK ll_cnt L xs false 63 (.inl (lo_if 76 66 (fun x => decide (x = 0)))) := lk_if_eq (off := 13) (by decide +kernel) rfl
theorem k_23_66 (L : Nat) (xs : Nat → Int32) : ll_OK1 cX2_readSum RX2 (some .int) false ll_mN ll_mR ll_mK ll_cnt L xs false 66 (.inl (lo_aload 67 0)) := lk_aload_n (k := 0) (by decide +kernel) rfl
theorem k_23_67 (L : Nat) (xs : Nat → Int32) : ll_OK1 cX2_readSum RX2 (some .int) false ll_mN ll_mR ll_mK ll_cnt L xs false 67 (.inl (lo_dup 68)) := lk_dup (by decide +kernel)
theorem k_23_68 (L : Nat) (xs : Nat → Int32) : ll_OK1 cX2_readSum RX2 (some .int) false ll_mN ll_mR ll_mK ll_cnt L xs false 68 (.inl (lo_getf 71 2 3)) := lk_getf (ix := 26) (ci := 2) (k := 3) (C := RX2) (T := TX2) (N := 5) (by decide +kernel) rfl in_2 (by decide) tb_100
theorem k_23_71 (L : Nat) (xs : Nat → Int32) : ll_OK1 cX2_readSum RX2 (some .int) false ll_mN ll_mR ll_mK ll_cnt L xs false 71 (.inl (lo_push 72 (.int 1))) := lk_iconst (n := 1) (by decide +kernel) (by decide)
theorem k_23_72 (L : Nat) (xs : Nat → Int32) : ll_OK1 cX2_readSum RX2 (some .int) false ll_mN ll_mR ll_mK ll_cnt L xs false 72 (.inl (lo_bin 73 (fun x y => x + y))) := lk_iadd (by decide +kernel)
theorem k_23_73 (L : Nat) (xs : Nat → Int32) : ll_OK1 cX2_readSum RX2 (some .int) false ll_mN ll_mR ll_mK ll_cnt L xs false 73 (.inl (lo_putf 76 2 3 0)) := lk_putf (ix := 26) (ci := 2) (k := 3) (C := RX2) (T := TX2) (N := 5) (ty0 := tyX2) (by decide +kernel) rfl in_2 tyX2_ok nmX2 (by decide) tb_100 (fun B adr v w h1 h2 => ll_fit_int (B := B) (adr := adr) h1 h2) (Or.inl rfl)
theorem k_23_76 (L : Nat) (xs : Nat → Int32) : ll_OK1 cX2_readSum RX2 (some .int) false ll_mN ll_mR ll_mK ll_cnt L xs false 76 (.inl (lo_iinc 79 4 1)) := lk_iinc (n := 1) (by decide +kernel) (by decide)
theorem k_23_79 (L : Nat) (xs : Nat → Int32) : ll_OK1 cX2_readSum RX2 (some .int) false ll_mN ll_mR ll_mK ll_cnt L xs false 79 (.inl (lo_goto 13)) := lk_goto (off := (-66)) (by decide +kernel) rfl
theorem k_23_82 (L : Nat) (xs : Nat → Int32) : ll_OK1 cX2_readSum RX2 (some .int) false ll_mN ll_mR ll_mK ll_cnt L xs false 82 (.inl (lo_aload 83 0)) := lk_aload_n (k := 0) (by decide +kernel) rfl
theorem k_23_83 (L : Nat) (xs : Nat → Int32) : ll_OK1 cX2_readSum RX2 (some .int) false ll_mN ll_mR ll_mK ll_cnt L xs false 83 (.inl (lo_getf 86 2 0)) := lk_getf (ix := 15) (ci := 2) (k := 0) (C := RX2) (T := TX2) (N := 5) (by decide +kernel) rfl in_2 (by decide) tb_97
theorem k_23_86 (L : Nat) (xs : Nat → Int32) : ll_OK1 cX2_readSum RX2 (some .int) false ll_mN ll_mR ll_mK ll_cnt L xs false 86 (.inl (lo_iload 87 2)) := lk_iload_n (k := 2) (by decide +kernel) rfl
theorem k_23_87 (L : Nat) (xs : Nat → Int32) : ll_OK1 cX2_readSum RX2 (some .int) false ll_mN ll_mR ll_mK ll_cnt L xs false 87 (.inr (.inl (90, 2, 90))) := ⟨rfl, by decide, by rw [mN_90, mK_90, mR_90]; exact lj_v 52 1 8 (RX8, TX8, 10) (by decide +kernel) tb_119 tb_120 tb_121 rfl rfl rfl rfl (by decide +kernel)⟩
theorem k_23_90 (L : Nat) (xs : Nat → Int32) : ll_OK1 cX2_readSum RX2 (some .int) false ll_mN ll_mR ll_mK ll_cnt L xs false 90 (.inr (.inr 1)) := ⟨(fun h => by cases h), (fun _ => ⟨(by decide +kernel), rfl⟩), fun h => by cases h⟩
theorem ok_23 (L : Nat) (xs : Nat → Int32) : ∀ q ∈ cd_23, ll_OK1 cX2_readSum RX2 (some .int) false ll_mN ll_mR ll_mK ll_cnt L xs false q.1 q.2 :=
  List.forall_mem_cons.mpr ⟨k_23_0 L xs, List.forall_mem_cons.mpr ⟨k_23_1 L xs, List.forall_mem_cons.mpr ⟨k_23_4 L xs, List.forall_mem_cons.mpr ⟨k_23_7 L xs, List.forall_mem_cons.mpr ⟨k_23_8 L xs, List.forall_mem_cons.mpr ⟨k_23_9 L xs, List.forall_mem_cons.mpr ⟨k_23_10 L xs, List.forall_mem_cons.mpr ⟨k_23_11 L xs, List.forall_mem_cons.mpr ⟨k_23_13 L xs, List.forall_mem_cons.mpr ⟨k_23_14 L xs, List.forall_mem_cons.mpr ⟨k_23_17 L xs, List.forall_mem_cons.mpr ⟨k_23_19 L xs, List.forall_mem_cons.mpr ⟨k_23_20 L xs, List.forall_mem_cons.mpr ⟨k_23_23 L xs, List.forall_mem_cons.mpr ⟨k_23_26 L xs, List.forall_mem_cons.mpr ⟨k_23_27 L xs, List.forall_mem_cons.mpr ⟨k_23_30 L xs, List.forall_mem_cons.mpr ⟨k_23_31 L xs, List.forall_mem_cons.mpr ⟨k_23_32 L xs, List.forall_mem_cons.mpr ⟨k_23_33 L xs, List.forall_mem_cons.mpr ⟨k_23_36 L xs, List.forall_mem_cons.mpr ⟨k_23_39 L xs, List.forall_mem_cons.mpr ⟨k_23_40 L xs, List.forall_mem_cons.mpr ⟨k_23_43 L xs, List.forall_mem_cons.mpr ⟨k_23_44 L xs, List.forall_mem_cons.mpr ⟨k_23_47 L xs, List.forall_mem_cons.mpr ⟨k_23_48 L xs, List.forall_mem_cons.mpr ⟨k_23_51 L xs, List.forall_mem_cons.mpr ⟨k_23_53 L xs, List.forall_mem_cons.mpr ⟨k_23_56 L xs, List.forall_mem_cons.mpr ⟨k_23_57 L xs, List.forall_mem_cons.mpr ⟨k_23_60 L xs, List.forall_mem_cons.mpr ⟨k_23_61 L xs, List.forall_mem_cons.mpr ⟨k_23_62 L xs, List.forall_mem_cons.mpr ⟨k_23_63 L xs, List.forall_mem_cons.mpr ⟨k_23_66 L xs, List.forall_mem_cons.mpr ⟨k_23_67 L xs, List.forall_mem_cons.mpr ⟨k_23_68 L xs, List.forall_mem_cons.mpr ⟨k_23_71 L xs, List.forall_mem_cons.mpr ⟨k_23_72 L xs, List.forall_mem_cons.mpr ⟨k_23_73 L xs, List.forall_mem_cons.mpr ⟨k_23_76 L xs, List.forall_mem_cons.mpr ⟨k_23_79 L xs, List.forall_mem_cons.mpr ⟨k_23_82 L xs, List.forall_mem_cons.mpr ⟨k_23_83 L xs, List.forall_mem_cons.mpr ⟨k_23_86 L xs, List.forall_mem_cons.mpr ⟨k_23_87 L xs, List.forall_mem_cons.mpr ⟨k_23_90 L xs, fun _ h => absurd h List.not_mem_nil⟩⟩⟩⟩⟩⟩⟩⟩⟩⟩⟩⟩⟩⟩⟩⟩⟩⟩⟩⟩⟩⟩⟩⟩⟩⟩⟩⟩⟩⟩⟩⟩⟩⟩⟩⟩⟩⟩⟩⟩⟩⟩⟩⟩⟩⟩⟩⟩
/-- InclusionProver$Reader.readProduct.(I)I -/
def cd_24 : List (Nat × ll_O) := [
  (0, .inl (lo_aload 1 0)),
  (1, .inl (lo_getf 4 2 0)),
  (4, .inr (.inl (87, 1, 7))),
  (7, .inl (lo_istore 8 2)),
  (8, .inl (lo_push 9 (.int 1))),
  (9, .inl (lo_istore 10 3)),
  (10, .inl (lo_push 11 (.int 0))),
  (11, .inl (lo_istore 13 4)),
  (13, .inl (lo_iload 14 3)),
  (14, .inl (lo_if 68 17 (fun x => decide (x = 0)))),
  (17, .inl (lo_iload 19 4)),
  (19, .inl (lo_aload 20 0)),
  (20, .inl (lo_getf 23 2 2)),
  (23, .inl (lo_cmp 68 26 (fun x y => decide (y < x)))),
  (26, .inl (lo_aload 27 0)),
  (27, .inl (lo_getf 30 2 0)),
  (30, .inl (lo_aload 31 0)),
  (31, .inl (lo_iload 32 1)),
  (32, .inr (.inl (25, 2, 35))),
  (35, .inr (.inl (89, 2, 38))),
  (38, .inl (lo_aload 39 0)),
  (39, .inl (lo_getf 42 2 4)),
  (42, .inl (lo_push 43 (.int (-1)))),
  (43, .inl (lo_cmp 60 46 (fun x y => decide (¬ x = y)))),
  (46, .inl (lo_aload 47 0)),
  (47, .inr (.inl (27, 1, 50))),
  (50, .inr (.inl (28, 1, 53))),
  (53, .inl (lo_if 60 56 (fun x => decide (x = 0)))),
  (56, .inl (lo_push 57 (.int 1))),
  (57, .inl (lo_goto 61)),
  (60, .inl (lo_push 61 (.int 0))),
  (61, .inl (lo_istore 62 3)),
  (62, .inl (lo_iinc 65 4 1)),
  (65, .inl (lo_goto 13)),
  (68, .inl (lo_aload 69 0)),
  (69, .inl (lo_getf 72 2 0)),
  (72, .inl (lo_iload 73 2)),
  (73, .inr (.inl (91, 2, 76))),
  (76, .inr (.inr 1))]
theorem k_24_0 (L : Nat) (xs : Nat → Int32) : ll_OK1 cX2_readProduct RX2 (some .int) false ll_mN ll_mR ll_mK ll_cnt L xs false 0 (.inl (lo_aload 1 0)) := lk_aload_n (k := 0) (by decide +kernel) rfl
theorem k_24_1 (L : Nat) (xs : Nat → Int32) : ll_OK1 cX2_readProduct RX2 (some .int) false ll_mN ll_mR ll_mK ll_cnt L xs false 1 (.inl (lo_getf 4 2 0)) := lk_getf (ix := 15) (ci := 2) (k := 0) (C := RX2) (T := TX2) (N := 5) (by decide +kernel) rfl in_2 (by decide) tb_97
theorem k_24_4 (L : Nat) (xs : Nat → Int32) : ll_OK1 cX2_readProduct RX2 (some .int) false ll_mN ll_mR ll_mK ll_cnt L xs false 4 (.inr (.inl (87, 1, 7))) := ⟨rfl, by decide, by rw [mN_87, mK_87, mR_87]; exact lj_v 42 0 8 (RX8, TX8, 10) (by decide +kernel) tb_110 tb_111 tb_112 rfl rfl rfl rfl (by decide +kernel)⟩
theorem k_24_7 (L : Nat) (xs : Nat → Int32) : ll_OK1 cX2_readProduct RX2 (some .int) false ll_mN ll_mR ll_mK ll_cnt L xs false 7 (.inl (lo_istore 8 2)) := lk_istore_n (k := 2) (by decide +kernel) rfl
theorem k_24_8 (L : Nat) (xs : Nat → Int32) : ll_OK1 cX2_readProduct RX2 (some .int) false ll_mN ll_mR ll_mK ll_cnt L xs false 8 (.inl (lo_push 9 (.int 1))) := lk_iconst (n := 1) (by decide +kernel) (by decide)
theorem k_24_9 (L : Nat) (xs : Nat → Int32) : ll_OK1 cX2_readProduct RX2 (some .int) false ll_mN ll_mR ll_mK ll_cnt L xs false 9 (.inl (lo_istore 10 3)) := lk_istore_n (k := 3) (by decide +kernel) rfl
theorem k_24_10 (L : Nat) (xs : Nat → Int32) : ll_OK1 cX2_readProduct RX2 (some .int) false ll_mN ll_mR ll_mK ll_cnt L xs false 10 (.inl (lo_push 11 (.int 0))) := lk_iconst (n := 0) (by decide +kernel) (by decide)
theorem k_24_11 (L : Nat) (xs : Nat → Int32) : ll_OK1 cX2_readProduct RX2 (some .int) false ll_mN ll_mR ll_mK ll_cnt L xs false 11 (.inl (lo_istore 13 4)) := lk_istore (by decide +kernel)
theorem k_24_13 (L : Nat) (xs : Nat → Int32) : ll_OK1 cX2_readProduct RX2 (some .int) false ll_mN ll_mR ll_mK ll_cnt L xs false 13 (.inl (lo_iload 14 3)) := lk_iload_n (k := 3) (by decide +kernel) rfl
theorem k_24_14 (L : Nat) (xs : Nat → Int32) : ll_OK1 cX2_readProduct RX2 (some .int) false ll_mN ll_mR ll_mK ll_cnt L xs false 14 (.inl (lo_if 68 17 (fun x => decide (x = 0)))) := lk_if_eq (off := 54) (by decide +kernel) rfl
theorem k_24_17 (L : Nat) (xs : Nat → Int32) : ll_OK1 cX2_readProduct RX2 (some .int) false ll_mN ll_mR ll_mK ll_cnt L xs false 17 (.inl (lo_iload 19 4)) := lk_iload (by decide +kernel)
theorem k_24_19 (L : Nat) (xs : Nat → Int32) : ll_OK1 cX2_readProduct RX2 (some .int) false ll_mN ll_mR ll_mK ll_cnt L xs false 19 (.inl (lo_aload 20 0)) := lk_aload_n (k := 0) (by decide +kernel) rfl
theorem k_24_20 (L : Nat) (xs : Nat → Int32) : ll_OK1 cX2_readProduct RX2 (some .int) false ll_mN ll_mR ll_mK ll_cnt L xs false 20 (.inl (lo_getf 23 2 2)) := lk_getf (ix := 23) (ci := 2) (k := 2) (C := RX2) (T := TX2) (N := 5) (by decide +kernel) rfl in_2 (by decide) tb_99
theorem k_24_23 (L : Nat) (xs : Nat → Int32) : ll_OK1 cX2_readProduct RX2 (some .int) false ll_mN ll_mR ll_mK ll_cnt L xs false 23 (.inl (lo_cmp 68 26 (fun x y => decide (y < x)))) := lk_icmp_gt (off := 45) (by decide +kernel) rfl
theorem k_24_26 (L : Nat) (xs : Nat → Int32) : ll_OK1 cX2_readProduct RX2 (some .int) false ll_mN ll_mR ll_mK ll_cnt L xs false 26 (.inl (lo_aload 27 0)) := lk_aload_n (k := 0) (by decide +kernel) rfl
theorem k_24_27 (L : Nat) (xs : Nat → Int32) : ll_OK1 cX2_readProduct RX2 (some .int) false ll_mN ll_mR ll_mK ll_cnt L xs false 27 (.inl (lo_getf 30 2 0)) := lk_getf (ix := 15) (ci := 2) (k := 0) (C := RX2) (T := TX2) (N := 5) (by decide +kernel) rfl in_2 (by decide) tb_97
theorem k_24_30 (L : Nat) (xs : Nat → Int32) : ll_OK1 cX2_readProduct RX2 (some .int) false ll_mN ll_mR ll_mK ll_cnt L xs false 30 (.inl (lo_aload 31 0)) := lk_aload_n (k := 0) (by decide +kernel) rfl
theorem k_24_31 (L : Nat) (xs : Nat → Int32) : ll_OK1 cX2_readProduct RX2 (some .int) false ll_mN ll_mR ll_mK ll_cnt L xs false 31 (.inl (lo_iload 32 1)) := lk_iload_n (k := 1) (by decide +kernel) rfl
theorem k_24_32 (L : Nat) (xs : Nat → Int32) : ll_OK1 cX2_readProduct RX2 (some .int) false ll_mN ll_mR ll_mK ll_cnt L xs false 32 (.inr (.inl (25, 2, 35))) := ⟨rfl, by decide, by rw [mN_25, mK_25, mR_25]; exact lj_v 55 1 2 (RX2, TX2, 5) (by decide +kernel) tb_122 tb_123 tb_124 rfl rfl rfl rfl (by decide +kernel)⟩
theorem k_24_35 (L : Nat) (xs : Nat → Int32) : ll_OK1 cX2_readProduct RX2 (some .int) false ll_mN ll_mR ll_mK ll_cnt L xs false 35 (.inr (.inl (89, 2, 38))) := ⟨rfl, by decide, by rw [mN_89, mK_89, mR_89]; exact lj_v 58 1 8 (RX8, TX8, 10) (by decide +kernel) tb_125 tb_126 tb_127 rfl rfl rfl rfl (by decide +kernel)⟩
theorem k_24_38 (L : Nat) (xs : Nat → Int32) : ll_OK1 cX2_readProduct RX2 (some .int) false ll_mN ll_mR ll_mK ll_cnt L xs false 38 (.inl (lo_aload 39 0)) := lk_aload_n (k := 0) (by decide +kernel) rfl
theorem k_24_39 (L : Nat) (xs : Nat → Int32) : ll_OK1 cX2_readProduct RX2 (some .int) false ll_mN ll_mR ll_mK ll_cnt L xs false 39 (.inl (lo_getf 42 2 4)) := lk_getf (ix := 9) (ci := 2) (k := 4) (C := RX2) (T := TX2) (N := 5) (by decide +kernel) rfl in_2 (by decide) tb_96
theorem k_24_42 (L : Nat) (xs : Nat → Int32) : ll_OK1 cX2_readProduct RX2 (some .int) false ll_mN ll_mR ll_mK ll_cnt L xs false 42 (.inl (lo_push 43 (.int (-1)))) := lk_iconst (n := (-1)) (by decide +kernel) (by decide)
theorem k_24_43 (L : Nat) (xs : Nat → Int32) : ll_OK1 cX2_readProduct RX2 (some .int) false ll_mN ll_mR ll_mK ll_cnt L xs false 43 (.inl (lo_cmp 60 46 (fun x y => decide (¬ x = y)))) := lk_icmp_ne (off := 17) (by decide +kernel) rfl
theorem k_24_46 (L : Nat) (xs : Nat → Int32) : ll_OK1 cX2_readProduct RX2 (some .int) false ll_mN ll_mR ll_mK ll_cnt L xs false 46 (.inl (lo_aload 47 0)) := lk_aload_n (k := 0) (by decide +kernel) rfl
theorem k_24_47 (L : Nat) (xs : Nat → Int32) : ll_OK1 cX2_readProduct RX2 (some .int) false ll_mN ll_mR ll_mK ll_cnt L xs false 47 (.inr (.inl (27, 1, 50))) := ⟨rfl, by decide, by rw [mN_27, mK_27, mR_27]; exact lj_v 38 0 2 (RX2, TX2, 5) (by decide +kernel) tb_107 tb_108 tb_109 rfl rfl rfl rfl (by decide +kernel)⟩
theorem k_24_50 (L : Nat) (xs : Nat → Int32) : ll_OK1 cX2_readProduct RX2 (some .int) false ll_mN ll_mR ll_mK ll_cnt L xs false 50 (.inr (.inl (28, 1, 53))) := ⟨rfl, by decide, by rw [mN_28, mK_28, mR_28]; exact lj_s 62 (by decide +kernel) tb_128 tb_129 (by decide +kernel)⟩
theorem k_24_53 (L : Nat) (xs : Nat → Int32) : ll_OK1 cX2_readProduct RX2 (some .int) false ll_mN ll_mR ll_mK ll_cnt L xs false 53 (.inl (lo_if 60 56 (fun x => decide (x = 0)))) := lk_if_eq (off := 7) (by decide +kernel) rfl
theorem k_24_56 (L : Nat) (xs : Nat → Int32) : ll_OK1 cX2_readProduct RX2 (some .int) false ll_mN ll_mR ll_mK ll_cnt L xs false 56 (.inl (lo_push 57 (.int 1))) := lk_iconst (n := 1) (by decide +kernel) (by decide)
theorem k_24_57 (L : Nat) (xs : Nat → Int32) : ll_OK1 cX2_readProduct RX2 (some .int) false ll_mN ll_mR ll_mK ll_cnt L xs false 57 (.inl (lo_goto 61)) := lk_goto (off := 4) (by decide +kernel) rfl
theorem k_24_60 (L : Nat) (xs : Nat → Int32) : ll_OK1 cX2_readProduct RX2 (some .int) false ll_mN ll_mR ll_mK ll_cnt L xs false 60 (.inl (lo_push 61 (.int 0))) := lk_iconst (n := 0) (by decide +kernel) (by decide)
theorem k_24_61 (L : Nat) (xs : Nat → Int32) : ll_OK1 cX2_readProduct RX2 (some .int) false ll_mN ll_mR ll_mK ll_cnt L xs false 61 (.inl (lo_istore 62 3)) := lk_istore_n (k := 3) (by decide +kernel) rfl
theorem k_24_62 (L : Nat) (xs : Nat → Int32) : ll_OK1 cX2_readProduct RX2 (some .int) false ll_mN ll_mR ll_mK ll_cnt L xs false 62 (.inl (lo_iinc 65 4 1)) := lk_iinc (n := 1) (by decide +kernel) (by decide)
theorem k_24_65 (L : Nat) (xs : Nat → Int32) : ll_OK1 cX2_readProduct RX2 (some .int) false ll_mN ll_mR ll_mK ll_cnt L xs false 65 (.inl (lo_goto 13)) := lk_goto (off := (-52)) (by decide +kernel) rfl
theorem k_24_68 (L : Nat) (xs : Nat → Int32) : ll_OK1 cX2_readProduct RX2 (some .int) false ll_mN ll_mR ll_mK ll_cnt L xs false 68 (.inl (lo_aload 69 0)) := lk_aload_n (k := 0) (by decide +kernel) rfl
theorem k_24_69 (L : Nat) (xs : Nat → Int32) : ll_OK1 cX2_readProduct RX2 (some .int) false ll_mN ll_mR ll_mK ll_cnt L xs false 69 (.inl (lo_getf 72 2 0)) := lk_getf (ix := 15) (ci := 2) (k := 0) (C := RX2) (T := TX2) (N := 5) (by decide +kernel) rfl in_2 (by decide) tb_97
theorem k_24_72 (L : Nat) (xs : Nat → Int32) : ll_OK1 cX2_readProduct RX2 (some .int) false ll_mN ll_mR ll_mK ll_cnt L xs false 72 (.inl (lo_iload 73 2)) := lk_iload_n (k := 2) (by decide +kernel) rfl
theorem k_24_73 (L : Nat) (xs : Nat → Int32) : ll_OK1 cX2_readProduct RX2 (some .int) false ll_mN ll_mR ll_mK ll_cnt L xs false 73 (.inr (.inl (91, 2, 76))) := ⟨rfl, by decide, by rw [mN_91, mK_91, mR_91]; exact lj_v 66 1 8 (RX8, TX8, 10) (by decide +kernel) tb_130 tb_131 tb_132 rfl rfl rfl rfl (by decide +kernel)⟩
theorem k_24_76 (L : Nat) (xs : Nat → Int32) : ll_OK1 cX2_readProduct RX2 (some .int) false ll_mN ll_mR ll_mK ll_cnt L xs false 76 (.inr (.inr 1)) := ⟨(fun h => by cases h), (fun _ => ⟨(by decide +kernel), rfl⟩), fun h => by cases h⟩
theorem ok_24 (L : Nat) (xs : Nat → Int32) : ∀ q ∈ cd_24, ll_OK1 cX2_readProduct RX2 (some .int) false ll_mN ll_mR ll_mK ll_cnt L xs false q.1 q.2 :=
  List.forall_mem_cons.mpr ⟨k_24_0 L xs, List.forall_mem_cons.mpr ⟨k_24_1 L xs, List.forall_mem_cons.mpr ⟨k_24_4 L xs, List.forall_mem_cons.mpr ⟨k_24_7 L xs, List.forall_mem_cons.mpr ⟨k_24_8 L xs, List.forall_mem_cons.mpr ⟨k_24_9 L xs, List.forall_mem_cons.mpr ⟨k_24_10 L xs, List.forall_mem_cons.mpr ⟨k_24_11 L xs, List.forall_mem_cons.mpr ⟨k_24_13 L xs, List.forall_mem_cons.mpr ⟨k_24_14 L xs, List.forall_mem_cons.mpr ⟨k_24_17 L xs, List.forall_mem_cons.mpr ⟨k_24_19 L xs, List.forall_mem_cons.mpr ⟨k_24_20 L xs, List.forall_mem_cons.mpr ⟨k_24_23 L xs, List.forall_mem_cons.mpr ⟨k_24_26 L xs, List.forall_mem_cons.mpr ⟨k_24_27 L xs, List.forall_mem_cons.mpr ⟨k_24_30 L xs, List.forall_mem_cons.mpr ⟨k_24_31 L xs, List.forall_mem_cons.mpr ⟨k_24_32 L xs, List.forall_mem_cons.mpr ⟨k_24_35 L xs, List.forall_mem_cons.mpr ⟨k_24_38 L xs, List.forall_mem_cons.mpr ⟨k_24_39 L xs, List.forall_mem_cons.mpr ⟨k_24_42 L xs, List.forall_mem_cons.mpr ⟨k_24_43 L xs, List.forall_mem_cons.mpr ⟨k_24_46 L xs, List.forall_mem_cons.mpr ⟨k_24_47 L xs, List.forall_mem_cons.mpr ⟨k_24_50 L xs, List.forall_mem_cons.mpr ⟨k_24_53 L xs, List.forall_mem_cons.mpr ⟨k_24_56 L xs, List.forall_mem_cons.mpr ⟨k_24_57 L xs, List.forall_mem_cons.mpr ⟨k_24_60 L xs, List.forall_mem_cons.mpr ⟨k_24_61 L xs, List.forall_mem_cons.mpr ⟨k_24_62 L xs, List.forall_mem_cons.mpr ⟨k_24_65 L xs, List.forall_mem_cons.mpr ⟨k_24_68 L xs, List.forall_mem_cons.mpr ⟨k_24_69 L xs, List.forall_mem_cons.mpr ⟨k_24_72 L xs, List.forall_mem_cons.mpr ⟨k_24_73 L xs, List.forall_mem_cons.mpr ⟨k_24_76 L xs, fun _ h => absurd h List.not_mem_nil⟩⟩⟩⟩⟩⟩⟩⟩⟩⟩⟩⟩⟩⟩⟩⟩⟩⟩⟩⟩⟩⟩⟩⟩⟩⟩⟩⟩⟩⟩⟩⟩⟩⟩⟩⟩⟩⟩⟩
/-- InclusionProver$Reader.readFactor.(I)I -/
def cd_25 : List (Nat × ll_O) := [
  (0, .inl (lo_aload 1 0)),
  (1, .inl (lo_iload 2 1)),
  (2, .inr (.inl (26, 2, 5))),
  (5, .inl (lo_istore 6 2)),
  (6, .inl (lo_push 7 (.int 0))),
  (7, .inl (lo_istore 8 3)),
  (8, .inl (lo_iload 9 3)),
  (9, .inl (lo_aload 10 0)),
  (10, .inl (lo_getf 13 2 2)),
  (13, .inl (lo_cmp 58 16 (fun x y => decide (y < x)))),
  (16, .inl (lo_aload 17 0)),
  (17, .inl (lo_getf 20 2 4)),
  (20, .inl (lo_push 21 (.int (-1)))),
  (21, .inl (lo_cmp 58 24 (fun x y => decide (¬ x = y)))),
  (24, .inl (lo_aload 25 0)),
  (25, .inr (.inl (27, 1, 28))),
  (28, .inl (lo_push 30 (.int 42))),
  (30, .inl (lo_cmp 58 33 (fun x y => decide (¬ x = y)))),
  (33, .inl (lo_aload 34 0)),
  (34, .inl (lo_dup 35)),
  (35, .inl (lo_getf 38 2 3)),
  (38, .inl (lo_push 39 (.int 1))),
  (39, .inl (lo_bin 40 (fun x y => x + y))),
  (40, .inl (lo_putf 43 2 3 0)),
  (43, .inl (lo_aload 44 0)),
  (44, .inl (lo_getf 47 2 0)),
  (47, .inl (lo_iload 48 2)),
  (48, .inr (.inl (92, 2, 51))),
  (51, .inl (lo_istore 52 2)),
  (52, .inl (lo_iinc 55 3 1)),
  (55, .inl (lo_goto 8)),
  (58, .inl (lo_iload 59 2)),
  (59, .inr (.inr 1))]
theorem k_25_0 (L : Nat) (xs : Nat → Int32) : ll_OK1 cX2_readFactor RX2 (some .int) false ll_mN ll_mR ll_mK ll_cnt L xs false 0 (.inl (lo_aload 1 0)) := lk_aload_n (k := 0) (by decide +kernel) rfl
theorem k_25_1 (L : Nat) (xs : Nat → Int32) : ll_OK1 cX2_readFactor RX2 (some .int) false ll_mN ll_mR ll_mK ll_cnt L xs false 1 (.inl (lo_iload 2 1)) := lk_iload_n (k := 1) (by decide +kernel) rfl
theorem k_25_2 (L : Nat) (xs : Nat → Int32) : ll_OK1 cX2_readFactor RX2 (some .int) false ll_mN ll_mR ll_mK ll_cnt L xs false 2 (.inr (.inl (26, 2, 5))) := ⟨rfl, by decide, by rw [mN_26, mK_26, mR_26]; exact lj_v 69 1 2 (RX2, TX2, 5) (by decide +kernel) tb_133 tb_134 tb_135 rfl rfl rfl rfl (by decide +kernel)⟩
theorem k_25_5 (L : Nat) (xs : Nat → Int32) : ll_OK1 cX2_readFactor RX2 (some .int) false ll_mN ll_mR ll_mK ll_cnt L xs false 5 (.inl (lo_istore 6 2)) := lk_istore_n (k := 2) (by decide +kernel) rfl
theorem k_25_6 (L : Nat) (xs : Nat → Int32) : ll_OK1 cX2_readFactor RX2 (some .int) false ll_mN ll_mR ll_mK ll_cnt L xs false 6 (.inl (lo_push 7 (.int 0))) := lk_iconst (n := 0) (by decide +kernel) (by decide)
theorem k_25_7 (L : Nat) (xs : Nat → Int32) : ll_OK1 cX2_readFactor RX2 (some .int) false ll_mN ll_mR ll_mK ll_cnt L xs false 7 (.inl (lo_istore 8 3)) := lk_istore_n (k := 3) (by decide +kernel) rfl
theorem k_25_8 (L : Nat) (xs : Nat → Int32) : ll_OK1 cX2_readFactor RX2 (some .int) false ll_mN ll_mR ll_mK ll_cnt L xs false 8 (.inl (lo_iload 9 3)) := lk_iload_n (k := 3) (by decide +kernel) rfl
theorem k_25_9 (L : Nat) (xs : Nat → Int32) : ll_OK1 cX2_readFactor RX2 (some .int) false ll_mN ll_mR ll_mK ll_cnt L xs false 9 (.inl (lo_aload 10 0)) := lk_aload_n (k := 0) (by decide +kernel) rfl
theorem k_25_10 (L : Nat) (xs : Nat → Int32) : ll_OK1 cX2_readFactor RX2 (some .int) false ll_mN ll_mR ll_mK ll_cnt L xs false 10 (.inl (lo_getf 13 2 2)) := lk_getf (ix := 23) (ci := 2) (k := 2) (C := RX2) (T := TX2) (N := 5) (by decide +kernel) rfl in_2 (by decide) tb_99
theorem k_25_13 (L : Nat) (xs : Nat → Int32) : ll_OK1 cX2_readFactor RX2 (some .int) false ll_mN ll_mR ll_mK ll_cnt L xs false 13 (.inl (lo_cmp 58 16 (fun x y => decide (y < x)))) := lk_icmp_gt (off := 45) (by decide +kernel) rfl
theorem k_25_16 (L : Nat) (xs : Nat → Int32) : ll_OK1 cX2_readFactor RX2 (some .int) false ll_mN ll_mR ll_mK ll_cnt L xs false 16 (.inl (lo_aload 17 0)) := lk_aload_n (k := 0) (by decide +kernel) rfl
theorem k_25_17 (L : Nat) (xs : Nat → Int32) : ll_OK1 cX2_readFactor RX2 (some .int) false ll_mN ll_mR ll_mK ll_cnt L xs false 17 (.inl (lo_getf 20 2 4)) := lk_getf (ix := 9) (ci := 2) (k := 4) (C := RX2) (T := TX2) (N := 5) (by decide +kernel) rfl in_2 (by decide) tb_96
theorem k_25_20 (L : Nat) (xs : Nat → Int32) : ll_OK1 cX2_readFactor RX2 (some .int) false ll_mN ll_mR ll_mK ll_cnt L xs false 20 (.inl (lo_push 21 (.int (-1)))) := lk_iconst (n := (-1)) (by decide +kernel) (by decide)
theorem k_25_21 (L : Nat) (xs : Nat → Int32) : ll_OK1 cX2_readFactor RX2 (some .int) false ll_mN ll_mR ll_mK ll_cnt L xs false 21 (.inl (lo_cmp 58 24 (fun x y => decide (¬ x = y)))) := lk_icmp_ne (off := 37) (by decide +kernel) rfl
theorem k_25_24 (L : Nat) (xs : Nat → Int32) : ll_OK1 cX2_readFactor RX2 (some .int) false ll_mN ll_mR ll_mK ll_cnt L xs false 24 (.inl (lo_aload 25 0)) := lk_aload_n (k := 0) (by decide +kernel) rfl
theorem k_25_25 (L : Nat) (xs : Nat → Int32) : ll_OK1 cX2_readFactor RX2 (some .int) false ll_mN ll_mR ll_mK ll_cnt L xs false 25 (.inr (.inl (27, 1, 28))) := ⟨rfl, by decide, by rw [mN_27, mK_27, mR_27]; exact lj_v 38 0 2 (RX2, TX2, 5) (by decide +kernel) tb_107 tb_108 tb_109 rfl rfl rfl rfl (by decide +kernel)⟩
theorem k_25_28 (L : Nat) (xs : Nat → Int32) : ll_OK1 cX2_readFactor RX2 (some .int) false ll_mN ll_mR ll_mK ll_cnt L xs false 28 (.inl (lo_push 30 (.int 42))) := lk_bipush (n := 42) (by decide +kernel) (by decide)
theorem k_25_30 (L : Nat) (xs : Nat → Int32) : ll_OK1 cX2_readFactor RX2 (some .int) false ll_mN ll_mR ll_mK ll_cnt L xs false 30 (.inl (lo_cmp 58 33 (fun x y => decide (¬ x = y)))) := lk_icmp_ne (off := 28) (by decide +kernel) rfl
theorem k_25_33 (L : Nat) (xs : Nat → Int32) : ll_OK1 cX2_readFactor RX2 (some .int) false ll_mN ll_mR ll_mK ll_cnt L xs false 33 (.inl (lo_aload 34 0)) := lk_aload_n (k := 0) (by decide +kernel) rfl
theorem k_25_34 (L : Nat) (xs : Nat → Int32) : ll_OK1 cX2_readFactor RX2 (some .int) false ll_mN ll_mR ll_mK ll_cnt L xs false 34 (.inl (lo_dup 35)) := lk_dup (by decide +kernel)
theorem k_25_35 (L : Nat) (xs : Nat → Int32) : ll_OK1 cX2_readFactor RX2 (some .int) false ll_mN ll_mR ll_mK ll_cnt L xs false 35 (.inl (lo_getf 38 2 3)) := lk_getf (ix := 26) (ci := 2) (k := 3) (C := RX2) (T := TX2) (N := 5) (by decide +kernel) rfl in_2 (by decide) tb_100
theorem k_25_38 (L : Nat) (xs : Nat → Int32) : ll_OK1 cX2_readFactor RX2 (some .int) false ll_mN ll_mR ll_mK ll_cnt L xs false 38 (.inl (lo_push 39 (.int 1))) := lk_iconst (n := 1) (by decide +kernel) (by decide)
theorem k_25_39 (L : Nat) (xs : Nat → Int32) : ll_OK1 cX2_readFactor RX2 (some .int) false ll_mN ll_mR ll_mK ll_cnt L xs false 39 (.inl (lo_bin 40 (fun x y => x + y))) := lk_iadd (by decide +kernel)
theorem k_25_40 (L : Nat) (xs : Nat → Int32) : ll_OK1 cX2_readFactor RX2 (some .int) false ll_mN ll_mR ll_mK ll_cnt L xs false 40 (.inl (lo_putf 43 2 3 0)) := lk_putf (ix := 26) (ci := 2) (k := 3) (C := RX2) (T := TX2) (N := 5) (ty0 := tyX2) (by decide +kernel) rfl in_2 tyX2_ok nmX2 (by decide) tb_100 (fun B adr v w h1 h2 => ll_fit_int (B := B) (adr := adr) h1 h2) (Or.inl rfl)
theorem k_25_43 (L : Nat) (xs : Nat → Int32) : ll_OK1 cX2_readFactor RX2 (some .int) false ll_mN ll_mR ll_mK ll_cnt L xs false 43 (.inl (lo_aload 44 0)) := lk_aload_n (k := 0) (by decide +kernel) rfl
theorem k_25_44 (L : Nat) (xs : Nat → Int32) : ll_OK1 cX2_readFactor RX2 (some .int) false ll_mN ll_mR ll_mK ll_cnt L xs false 44 (.inl (lo_getf 47 2 0)) := lk_getf (ix := 15) (ci := 2) (k := 0) (C := RX2) (T := TX2) (N := 5) (by decide +kernel) rfl in_2 (by decide) tb_97
theorem k_25_47 (L : Nat) (xs : Nat → Int32) : ll_OK1 cX2_readFactor RX2 (some .int) false ll_mN ll_mR ll_mK ll_cnt L xs false 47 (.inl (lo_iload 48 2)) := lk_iload_n (k := 2) (by decide +kernel) rfl
theorem k_25_48 (L : Nat) (xs : Nat → Int32) : ll_OK1 cX2_readFactor RX2 (some .int) false ll_mN ll_mR ll_mK ll_cnt L xs false 48 (.inr (.inl (92, 2, 51))) := ⟨rfl, by decide, by rw [mN_92, mK_92, mR_92]; exact lj_v 72 1 8 (RX8, TX8, 10) (by decide +kernel) tb_136 tb_137 tb_138 rfl rfl rfl rfl (by decide +kernel)⟩
theorem k_25_51 (L : Nat) (xs : Nat → Int32) : ll_OK1 cX2_readFactor RX2 (some .int) false ll_mN ll_mR ll_mK ll_cnt L xs false 51 (.inl (lo_istore 52 2)) := lk_istore_n (k := 2) (by decide +kernel) rfl
theorem k_25_52 (L : Nat) (xs : Nat → Int32) : ll_OK1 cX2_readFactor RX2 (some .int) false ll_mN ll_mR ll_mK ll_cnt L xs false 52 (.inl (lo_iinc 55 3 1)) := lk_iinc (n := 1) (by decide +kernel) (by decide)
theorem k_25_55 (L : Nat) (xs : Nat → Int32) : ll_OK1 cX2_readFactor RX2 (some .int) false ll_mN ll_mR ll_mK ll_cnt L xs false 55 (.inl (lo_goto 8)) := lk_goto (off := (-47)) (by decide +kernel) rfl
theorem k_25_58 (L : Nat) (xs : Nat → Int32) : ll_OK1 cX2_readFactor RX2 (some .int) false ll_mN ll_mR ll_mK ll_cnt L xs false 58 (.inl (lo_iload 59 2)) := lk_iload_n (k := 2) (by decide +kernel) rfl
theorem k_25_59 (L : Nat) (xs : Nat → Int32) : ll_OK1 cX2_readFactor RX2 (some .int) false ll_mN ll_mR ll_mK ll_cnt L xs false 59 (.inr (.inr 1)) := ⟨(fun h => by cases h), (fun _ => ⟨(by decide +kernel), rfl⟩), fun h => by cases h⟩
theorem ok_25 (L : Nat) (xs : Nat → Int32) : ∀ q ∈ cd_25, ll_OK1 cX2_readFactor RX2 (some .int) false ll_mN ll_mR ll_mK ll_cnt L xs false q.1 q.2 :=
  List.forall_mem_cons.mpr ⟨k_25_0 L xs, List.forall_mem_cons.mpr ⟨k_25_1 L xs, List.forall_mem_cons.mpr ⟨k_25_2 L xs, List.forall_mem_cons.mpr ⟨k_25_5 L xs, List.forall_mem_cons.mpr ⟨k_25_6 L xs, List.forall_mem_cons.mpr ⟨k_25_7 L xs, List.forall_mem_cons.mpr ⟨k_25_8 L xs, List.forall_mem_cons.mpr ⟨k_25_9 L xs, List.forall_mem_cons.mpr ⟨k_25_10 L xs, List.forall_mem_cons.mpr ⟨k_25_13 L xs, List.forall_mem_cons.mpr ⟨k_25_16 L xs, List.forall_mem_cons.mpr ⟨k_25_17 L xs, List.forall_mem_cons.mpr ⟨k_25_20 L xs, List.forall_mem_cons.mpr ⟨k_25_21 L xs, List.forall_mem_cons.mpr ⟨k_25_24 L xs, List.forall_mem_cons.mpr ⟨k_25_25 L xs, List.forall_mem_cons.mpr ⟨k_25_28 L xs, List.forall_mem_cons.mpr ⟨k_25_30 L xs, List.forall_mem_cons.mpr ⟨k_25_33 L xs, List.forall_mem_cons.mpr ⟨k_25_34 L xs, List.forall_mem_cons.mpr ⟨k_25_35 L xs, List.forall_mem_cons.mpr ⟨k_25_38 L xs, List.forall_mem_cons.mpr ⟨k_25_39 L xs, List.forall_mem_cons.mpr ⟨k_25_40 L xs, List.forall_mem_cons.mpr ⟨k_25_43 L xs, List.forall_mem_cons.mpr ⟨k_25_44 L xs, List.forall_mem_cons.mpr ⟨k_25_47 L xs, List.forall_mem_cons.mpr ⟨k_25_48 L xs, List.forall_mem_cons.mpr ⟨k_25_51 L xs, List.forall_mem_cons.mpr ⟨k_25_52 L xs, List.forall_mem_cons.mpr ⟨k_25_55 L xs, List.forall_mem_cons.mpr ⟨k_25_58 L xs, List.forall_mem_cons.mpr ⟨k_25_59 L xs, fun _ h => absurd h List.not_mem_nil⟩⟩⟩⟩⟩⟩⟩⟩⟩⟩⟩⟩⟩⟩⟩⟩⟩⟩⟩⟩⟩⟩⟩⟩⟩⟩⟩⟩⟩⟩⟩⟩⟩
/-- InclusionProver$Reader.readAtom.(I)I -/
def cd_26 : List (Nat × ll_O) := [
  (0, .inl (lo_aload 1 0)),
  (1, .inr (.inl (27, 1, 4))),
  (4, .inl (lo_istore 5 2)),
  (5, .inl (lo_iload 6 2)),
  (6, .inr (.inl (28, 1, 9))),
  (9, .inl (lo_if 18 12 (fun x => decide (x = 0)))),
  (12, .inl (lo_iload 13 1)),
  (13, .inl (lo_push 15 (.int 40))),
  (15, .inl (lo_cmp 28 18 (fun x y => decide (x ≤ y)))),
  (18, .inl (lo_aload 19 0)),
  (19, .inl (lo_aload 20 0)),
  (20, .inl (lo_getf 23 2 3)),
  (23, .inl (lo_putf 26 2 4 0)),
  (26, .inl (lo_push 27 (.int 0))),
  (27, .inr (.inr 1)),
  (28, .inl (lo_aload 29 0)),
  (29, .inl (lo_dup 30)),
  (30, .inl (lo_getf 33 2 3)),
  (33, .inl (lo_push 34 (.int 1))),
  (34, .inl (lo_bin 35 (fun x y => x + y))),
  (35, .inl (lo_putf 38 2 3 0)),
  (38, .inl (lo_iload 39 2)),
  (39, .inl (lo_push 41 (.int 40))),
  (41, .inl (lo_cmp 66 44 (fun x y => decide (x = y)))),
  (44, .inl (lo_iload 45 2)),
  (45, .inl (lo_push 47 (.int 97))),
  (47, .inl (lo_cmp 59 50 (fun x y => decide (y ≤ x)))),
  (50, .inl (lo_push 51 (.int 0))),
  (51, .inl (lo_iload 52 2)),
  (52, .inl (lo_bin 53 (fun x y => x + y))),
  (53, .inl (lo_push 55 (.int 48))),
  (55, .inl (lo_bin 56 (fun x y => x - y))),
  (56, .inl (lo_goto 65)),
  (59, .inl (lo_push 60 (.int 2))),
  (60, .inl (lo_iload 61 2)),
  (61, .inl (lo_bin 62 (fun x y => x + y))),
  (62, .inl (lo_push 64 (.int 97))),
  (64, .inl (lo_bin 65 (fun x y => x - y))),
  (65, .inr (.inr 1)),
  (66, .inl (lo_aload 67 0)),
  (67, .inl (lo_iload 68 1)),
  (68, .inl (lo_push 69 (.int 1))),
  (69, .inl (lo_bin 70 (fun x y => x + y))),
  (70, .inr (.inl (23, 2, 73))),
  (73, .inl (lo_istore 74 3)),
  (74, .inl (lo_aload 75 0)),
  (75, .inl (lo_getf 78 2 4)),
  (78, .inl (lo_push 79 (.int (-1)))),
  (79, .inl (lo_cmp 112 82 (fun x y => decide (¬ x = y)))),
  (82, .inl (lo_aload 83 0)),
  (83, .inr (.inl (27, 1, 86))),
  (86, .inl (lo_push 88 (.int 41))),
  (88, .inl (lo_cmp 104 91 (fun x y => decide (¬ x = y)))),
  (91, .inl (lo_aload 92 0)),
  (92, .inl (lo_dup 93)),
  (93, .inl (lo_getf 96 2 3)),
  (96, .inl (lo_push 97 (.int 1))),
  (97, .inl (lo_bin 98 (fun x y => x + y))),
  (98, .inl (lo_putf 101 2 3 0)),
  (101, .inl (lo_goto 112)),
  (104, .inl (lo_aload 105 0)),
  (105, .inl (lo_aload 106 0)),
  (106, .inl (lo_getf 109 2 3)),
  (109, .inl (lo_putf 112 2 4 0)),
  (112, .inl (lo_iload 113 3)),
  (113, .inr (.inr 1))]
theorem k_26_0 (L : Nat) (xs : Nat → Int32) : ll_OK1 cX2_readAtom RX2 (some .int) false ll_mN ll_mR ll_mK ll_cnt L xs false 0 (.inl (lo_aload 1 0)) := lk_aload_n (k := 0) (by decide +kernel) rfl
theorem k_26_1 (L : Nat) (xs : Nat → Int32) : ll_OK1 cX2_readAtom RX2 (some .int) false ll_mN ll_mR ll_mK ll_cnt L xs false 1 (.inr (.inl (27, 1, 4))) := ⟨rfl, by decide, by rw [mN_27, mK_27, mR_27]; exact lj_v 38 0 2 (RX2, TX2, 5) (by decide +kernel) tb_107 tb_108 tb_109 rfl rfl rfl rfl (by decide +kernel)⟩
theorem k_26_4 (L : Nat) (xs : Nat → Int32) : ll_OK1 cX2_readAtom RX2 (some .int) false ll_mN ll_mR ll_mK ll_cnt L xs false 4 (.inl (lo_istore 5 2)) := lk_istore_n (k := 2) (by decide +kernel) rfl
theorem k_26_5 (L : Nat) (xs : Nat → Int32) : ll_OK1 cX2_readAtom RX2 (some .int) false ll_mN ll_mR ll_mK ll_cnt L xs false 5 (.inl (lo_iload 6 2)) := lk_iload_n (k := 2) (by decide +kernel) rfl
theorem k_26_6 (L : Nat) (xs : Nat → Int32) : ll_OK1 cX2_readAtom RX2 (some .int) false ll_mN ll_mR ll_mK ll_cnt L xs false 6 (.inr (.inl (28, 1, 9))) := ⟨rfl, by decide, by rw [mN_28, mK_28, mR_28]; exact lj_s 62 (by decide +kernel) tb_128 tb_129 (by decide +kernel)⟩
theorem k_26_9 (L : Nat) (xs : Nat → Int32) : ll_OK1 cX2_readAtom RX2 (some .int) false ll_mN ll_mR ll_mK ll_cnt L xs false 9 (.inl (lo_if 18 12 (fun x => decide (x = 0)))) := lk_if_eq (off := 9) (by decide +kernel) rfl
theorem k_26_12 (L : Nat) (xs : Nat → Int32) : ll_OK1 cX2_readAtom RX2 (some .int) false ll_mN ll_mR ll_mK ll_cnt L xs false 12 (.inl (lo_iload 13 1)) := lk_iload_n (k := 1) (by decide +kernel) rfl
theorem k_26_13 (L : Nat) (xs : Nat → Int32) : ll_OK1 cX2_readAtom RX2 (some .int) false ll_mN ll_mR ll_mK ll_cnt L xs false 13 (.inl (lo_push 15 (.int 40))) := lk_bipush (n := 40) (by decide +kernel) (by decide)
theorem k_26_15 (L : Nat) (xs : Nat → Int32) : ll_OK1 cX2_readAtom RX2 (some .int) false ll_mN ll_mR ll_mK ll_cnt L xs false 15 (.inl (lo_cmp 28 18 (fun x y => decide (x ≤ y)))) := lk_icmp_le (off := 13) (by decide +kernel) rfl
theorem k_26_18 (L : Nat) (xs : Nat → Int32) : ll_OK1 cX2_readAtom RX2 (some .int) false ll_mN ll_mR ll_mK ll_cnt L xs false 18 (.inl (lo_aload 19 0)) := lk_aload_n (k := 0) (by decide +kernel) rfl
theorem k_26_19 (L : Nat) (xs : Nat → Int32) : ll_OK1 cX2_readAtom RX2 (some .int) false ll_mN ll_mR ll_mK ll_cnt L xs false 19 (.inl (lo_aload 20 0)) := lk_aload_n (k := 0) (by decide +kernel) rfl
theorem k_26_20 (L : Nat) (xs : Nat → Int32) : ll_OK1 cX2_readAtom RX2 (some .int) false ll_mN ll_mR ll_mK ll_cnt L xs false 20 (.inl (lo_getf 23 2 3)) := lk_getf (ix := 26) (ci := 2) (k := 3) (C := RX2) (T := TX2) (N := 5) (by decide +kernel) rfl in_2 (by decide) tb_100
theorem k_26_23 (L : Nat) (xs : Nat → Int32) : ll_OK1 cX2_readAtom RX2 (some .int) false ll_mN ll_mR ll_mK ll_cnt L xs false 23 (.inl (lo_putf 26 2 4 0)) := lk_putf (ix := 9) (ci := 2) (k := 4) (C := RX2) (T := TX2) (N := 5) (ty0 := tyX2) (by decide +kernel) rfl in_2 tyX2_ok nmX2 (by decide) tb_96 (fun B adr v w h1 h2 => ll_fit_int (B := B) (adr := adr) h1 h2) (Or.inl rfl)
theorem k_26_26 (L : Nat) (xs : Nat → Int32) : ll_OK1 cX2_readAtom RX2 (some .int) false ll_mN ll_mR ll_mK ll_cnt L xs false 26 (.inl (lo_push 27 (.int 0))) := lk_iconst (n := 0) (by decide +kernel) (by decide)
theorem k_26_27 (L : Nat) (xs : Nat → Int32) : ll_OK1 cX2_readAtom RX2 (some .int) false ll_mN ll_mR ll_mK ll_cnt L xs false 27 (.inr (.inr 1)) := ⟨(fun h => by cases h), (fun _ => ⟨(by decide +kernel), rfl⟩), fun h => by cases h⟩
theorem k_26_28 (L : Nat) (xs : Nat → Int32) : ll_OK1 cX2_readAtom RX2 (some .int) false ll_mN ll_mR ll_mK ll_cnt L xs false 28 (.inl (lo_aload 29 0)) := lk_aload_n (k := 0) (by decide +kernel) rfl
theorem k_26_29 (L : Nat) (xs : Nat → Int32) : ll_OK1 cX2_readAtom RX2 (some .int) false ll_mN ll_mR ll_mK ll_cnt L xs false 29 (.inl (lo_dup 30)) := lk_dup (by decide +kernel)
theorem k_26_30 (L : Nat) (xs : Nat → Int32) : ll_OK1 cX2_readAtom RX2 (some .int) false ll_mN ll_mR ll_mK ll_cnt L xs false 30 (.inl (lo_getf 33 2 3)) := lk_getf (ix := 26) (ci := 2) (k := 3) (C := RX2) (T := TX2) (N := 5) (by decide +kernel) rfl in_2 (by decide) tb_100
theorem k_26_33 (L : Nat) (xs : Nat → Int32) : ll_OK1 cX2_readAtom RX2 (some .int) false ll_mN ll_mR ll_mK ll_cnt L xs false 33 (.inl (lo_push 34 (.int 1))) := lk_iconst (n := 1) (by decide +kernel) (by decide)
theorem k_26_34 (L : Nat) (xs : Nat → Int32) : ll_OK1 cX2_readAtom RX2 (some .int) false ll_mN ll_mR ll_mK ll_cnt L xs false 34 (.inl (lo_bin 35 (fun x y => x + y))) := lk_iadd (by decide +kernel)
theorem k_26_35 (L : Nat) (xs : Nat → Int32) : ll_OK1 cX2_readAtom RX2 (some .int) false ll_mN ll_mR ll_mK ll_cnt L xs false 35 (.inl (lo_putf 38 2 3 0)) := lk_putf (ix := 26) (ci := 2) (k := 3) (C := RX2) (T := TX2) (N := 5) (ty0 := tyX2) (by decide +kernel) rfl in_2 tyX2_ok nmX2 (by decide) tb_100 (fun B adr v w h1 h2 => ll_fit_int (B := B) (adr := adr) h1 h2) (Or.inl rfl)
theorem k_26_38 (L : Nat) (xs : Nat → Int32) : ll_OK1 cX2_readAtom RX2 (some .int) false ll_mN ll_mR ll_mK ll_cnt L xs false 38 (.inl (lo_iload 39 2)) := lk_iload_n (k := 2) (by decide +kernel) rfl
theorem k_26_39 (L : Nat) (xs : Nat → Int32) : ll_OK1 cX2_readAtom RX2 (some .int) false ll_mN ll_mR ll_mK ll_cnt L xs false 39 (.inl (lo_push 41 (.int 40))) := lk_bipush (n := 40) (by decide +kernel) (by decide)
theorem k_26_41 (L : Nat) (xs : Nat → Int32) : ll_OK1 cX2_readAtom RX2 (some .int) false ll_mN ll_mR ll_mK ll_cnt L xs false 41 (.inl (lo_cmp 66 44 (fun x y => decide (x = y)))) := lk_icmp_eq (off := 25) (by decide +kernel) rfl
theorem k_26_44 (L : Nat) (xs : Nat → Int32) : ll_OK1 cX2_readAtom RX2 (some .int) false ll_mN ll_mR ll_mK ll_cnt L xs false 44 (.inl (lo_iload 45 2)) := lk_iload_n (k := 2) (by decide +kernel) rfl
theorem k_26_45 (L : Nat) (xs : Nat → Int32) : ll_OK1 cX2_readAtom RX2 (some .int) false ll_mN ll_mR ll_mK ll_cnt L xs false 45 (.inl (lo_push 47 (.int 97))) := lk_bipush (n := 97) (by decide +kernel) (by decide)
theorem k_26_47 (L : Nat) (xs : Nat → Int32) : ll_OK1 cX2_readAtom RX2 (some .int) false ll_mN ll_mR ll_mK ll_cnt L xs false 47 (.inl (lo_cmp 59 50 (fun x y => decide (y ≤ x)))) := lk_icmp_ge (off := 12) (by decide +kernel) rfl
theorem k_26_50 (L : Nat) (xs : Nat → Int32) : ll_OK1 cX2_readAtom RX2 (some .int) false ll_mN ll_mR ll_mK ll_cnt L xs false 50 (.inl (lo_push 51 (.int 0))) := lk_iconst (n := 0) (by decide +kernel) (by decide)
theorem k_26_51 (L : Nat) (xs : Nat → Int32) : ll_OK1 cX2_readAtom RX2 (some .int) false ll_mN ll_mR ll_mK ll_cnt L xs false 51 (.inl (lo_iload 52 2)) := lk_iload_n (k := 2) (by decide +kernel) rfl
theorem k_26_52 (L : Nat) (xs : Nat → Int32) : ll_OK1 cX2_readAtom RX2 (some .int) false ll_mN ll_mR ll_mK ll_cnt L xs false 52 (.inl (lo_bin 53 (fun x y => x + y))) := lk_iadd (by decide +kernel)
theorem k_26_53 (L : Nat) (xs : Nat → Int32) : ll_OK1 cX2_readAtom RX2 (some .int) false ll_mN ll_mR ll_mK ll_cnt L xs false 53 (.inl (lo_push 55 (.int 48))) := lk_bipush (n := 48) (by decide +kernel) (by decide)
theorem k_26_55 (L : Nat) (xs : Nat → Int32) : ll_OK1 cX2_readAtom RX2 (some .int) false ll_mN ll_mR ll_mK ll_cnt L xs false 55 (.inl (lo_bin 56 (fun x y => x - y))) := lk_isub (by decide +kernel)
theorem k_26_56 (L : Nat) (xs : Nat → Int32) : ll_OK1 cX2_readAtom RX2 (some .int) false ll_mN ll_mR ll_mK ll_cnt L xs false 56 (.inl (lo_goto 65)) := lk_goto (off := 9) (by decide +kernel) rfl
theorem k_26_59 (L : Nat) (xs : Nat → Int32) : ll_OK1 cX2_readAtom RX2 (some .int) false ll_mN ll_mR ll_mK ll_cnt L xs false 59 (.inl (lo_push 60 (.int 2))) := lk_iconst (n := 2) (by decide +kernel) (by decide)
theorem k_26_60 (L : Nat) (xs : Nat → Int32) : ll_OK1 cX2_readAtom RX2 (some .int) false ll_mN ll_mR ll_mK ll_cnt L xs false 60 (.inl (lo_iload 61 2)) := lk_iload_n (k := 2) (by decide +kernel) rfl
theorem k_26_61 (L : Nat) (xs : Nat → Int32) : ll_OK1 cX2_readAtom RX2 (some .int) false ll_mN ll_mR ll_mK ll_cnt L xs false 61 (.inl (lo_bin 62 (fun x y => x + y))) := lk_iadd (by decide +kernel)
theorem k_26_62 (L : Nat) (xs : Nat → Int32) : ll_OK1 cX2_readAtom RX2 (some .int) false ll_mN ll_mR ll_mK ll_cnt L xs false 62 (.inl (lo_push 64 (.int 97))) := lk_bipush (n := 97) (by decide +kernel) (by decide)
theorem k_26_64 (L : Nat) (xs : Nat → Int32) : ll_OK1 cX2_readAtom RX2 (some .int) false ll_mN ll_mR ll_mK ll_cnt L xs false 64 (.inl (lo_bin 65 (fun x y => x - y))) := lk_isub (by decide +kernel)
theorem k_26_65 (L : Nat) (xs : Nat → Int32) : ll_OK1 cX2_readAtom RX2 (some .int) false ll_mN ll_mR ll_mK ll_cnt L xs false 65 (.inr (.inr 1)) := ⟨(fun h => by cases h), (fun _ => ⟨(by decide +kernel), rfl⟩), fun h => by cases h⟩
theorem k_26_66 (L : Nat) (xs : Nat → Int32) : ll_OK1 cX2_readAtom RX2 (some .int) false ll_mN ll_mR ll_mK ll_cnt L xs false 66 (.inl (lo_aload 67 0)) := lk_aload_n (k := 0) (by decide +kernel) rfl
theorem k_26_67 (L : Nat) (xs : Nat → Int32) : ll_OK1 cX2_readAtom RX2 (some .int) false ll_mN ll_mR ll_mK ll_cnt L xs false 67 (.inl (lo_iload 68 1)) := lk_iload_n (k := 1) (by decide +kernel) rfl
theorem k_26_68 (L : Nat) (xs : Nat → Int32) : ll_OK1 cX2_readAtom RX2 (some .int) false ll_mN ll_mR ll_mK ll_cnt L xs false 68 (.inl (lo_push 69 (.int 1))) := lk_iconst (n := 1) (by decide +kernel) (by decide)
theorem k_26_69 (L : Nat) (xs : Nat → Int32) : ll_OK1 cX2_readAtom RX2 (some .int) false ll_mN ll_mR ll_mK ll_cnt L xs false 69 (.inl (lo_bin 70 (fun x y => x + y))) := lk_iadd (by decide +kernel)
theorem k_26_70 (L : Nat) (xs : Nat → Int32) : ll_OK1 cX2_readAtom RX2 (some .int) false ll_mN ll_mR ll_mK ll_cnt L xs false 70 (.inr (.inl (23, 2, 73))) := ⟨rfl, by decide, by rw [mN_23, mK_23, mR_23]; exact lj_v 34 1 2 (RX2, TX2, 5) (by decide +kernel) tb_104 tb_105 tb_106 rfl rfl rfl rfl (by decide +kernel)⟩
theorem k_26_73 (L : Nat) (xs : Nat → Int32) : ll_OK1 cX2_readAtom RX2 (some .int) false ll_mN ll_mR ll_mK ll_cnt L xs false 73 (.inl (lo_istore 74 3)) := lk_istore_n (k := 3) (by decide +kernel) rfl
theorem k_26_74 (L : Nat) (xs : Nat → Int32) : ll_OK1 cX2_readAtom RX2 (some .int) false ll_mN ll_mR ll_mK ll_cnt L xs false 74 (.inl (lo_aload 75 0)) := lk_aload_n (k := 0) (by decide +kernel) rfl
theorem k_26_75 (L : Nat) (xs : Nat → Int32) : ll_OK1 cX2_readAtom RX2 (some .int) false ll_mN ll_mR ll_mK ll_cnt L xs false 75 (.inl (lo_getf 78 2 4)) := lk_getf (ix := 9) (ci := 2) (k := 4) (C := RX2) (T := TX2) (N := 5) (by decide +kernel) rfl in_2 (by decide) tb_96
theorem k_26_78 (L : Nat) (xs : Nat → Int32) : ll_OK1 cX2_readAtom RX2 (some .int) false ll_mN ll_mR ll_mK ll_cnt L xs false 78 (.inl (lo_push 79 (.int (-1)))) := lk_iconst (n := (-1)) (by decide +kernel) (by decide)
theorem k_26_79 (L : Nat) (xs : Nat → Int32) : ll_OK1 cX2_readAtom RX2 (some .int) false ll_mN ll_mR ll_mK ll_cnt L xs false 79 (.inl (lo_cmp 112 82 (fun x y => decide (¬ x = y)))) := lk_icmp_ne (off := 33) (by decide +kernel) rfl
theorem k_26_82 (L : Nat) (xs : Nat → Int32) : ll_OK1 cX2_readAtom RX2 (some .int) false ll_mN ll_mR ll_mK ll_cnt L xs false 82 (.inl (lo_aload 83 0)) := lk_aload_n (k := 0) (by decide +kernel) rfl
theorem k_26_83 (L : Nat) (xs : Nat → Int32) : ll_OK1 cX2_readAtom RX2 (some .int) false ll_mN ll_mR ll_mK ll_cnt L xs false 83 (.inr (.inl (27, 1, 86))) := ⟨rfl, by decide, by rw [mN_27, mK_27, mR_27]; exact lj_v 38 0 2 (RX2, TX2, 5) (by decide +kernel) tb_107 tb_108 tb_109 rfl rfl rfl rfl (by decide +kernel)⟩
theorem k_26_86 (L : Nat) (xs : Nat → Int32) : ll_OK1 cX2_readAtom RX2 (some .int) false ll_mN ll_mR ll_mK ll_cnt L xs false 86 (.inl (lo_push 88 (.int 41))) := lk_bipush (n := 41) (by decide +kernel) (by decide)
theorem k_26_88 (L : Nat) (xs : Nat → Int32) : ll_OK1 cX2_readAtom RX2 (some .int) false ll_mN ll_mR ll_mK ll_cnt L xs false 88 (.inl (lo_cmp 104 91 (fun x y => decide (¬ x = y)))) := lk_icmp_ne (off := 16) (by decide +kernel) rfl
theorem k_26_91 (L : Nat) (xs : Nat → Int32) : ll_OK1 cX2_readAtom RX2 (some .int) false ll_mN ll_mR ll_mK ll_cnt L xs false 91 (.inl (lo_aload 92 0)) := lk_aload_n (k := 0) (by decide +kernel) rfl
theorem k_26_92 (L : Nat) (xs : Nat → Int32) : ll_OK1 cX2_readAtom RX2 (some .int) false ll_mN ll_mR ll_mK ll_cnt L xs false 92 (.inl (lo_dup 93)) := lk_dup (by decide +kernel)
theorem k_26_93 (L : Nat) (xs : Nat → Int32) : ll_OK1 cX2_readAtom RX2 (some .int) false ll_mN ll_mR ll_mK ll_cnt L xs false 93 (.inl (lo_getf 96 2 3)) := lk_getf (ix := 26) (ci := 2) (k := 3) (C := RX2) (T := TX2) (N := 5) (by decide +kernel) rfl in_2 (by decide) tb_100
theorem k_26_96 (L : Nat) (xs : Nat → Int32) : ll_OK1 cX2_readAtom RX2 (some .int) false ll_mN ll_mR ll_mK ll_cnt L xs false 96 (.inl (lo_push 97 (.int 1))) := lk_iconst (n := 1) (by decide +kernel) (by decide)
theorem k_26_97 (L : Nat) (xs : Nat → Int32) : ll_OK1 cX2_readAtom RX2 (some .int) false ll_mN ll_mR ll_mK ll_cnt L xs false 97 (.inl (lo_bin 98 (fun x y => x + y))) := lk_iadd (by decide +kernel)
theorem k_26_98 (L : Nat) (xs : Nat → Int32) : ll_OK1 cX2_readAtom RX2 (some .int) false ll_mN ll_mR ll_mK ll_cnt L xs false 98 (.inl (lo_putf 101 2 3 0)) := lk_putf (ix := 26) (ci := 2) (k := 3) (C := RX2) (T := TX2) (N := 5) (ty0 := tyX2) (by decide +kernel) rfl in_2 tyX2_ok nmX2 (by decide) tb_100 (fun B adr v w h1 h2 => ll_fit_int (B := B) (adr := adr) h1 h2) (Or.inl rfl)
theorem k_26_101 (L : Nat) (xs : Nat → Int32) : ll_OK1 cX2_readAtom RX2 (some .int) false ll_mN ll_mR ll_mK ll_cnt L xs false 101 (.inl (lo_goto 112)) := lk_goto (off := 11) (by decide +kernel) rfl
theorem k_26_104 (L : Nat) (xs : Nat → Int32) : ll_OK1 cX2_readAtom RX2 (some .int) false ll_mN ll_mR ll_mK ll_cnt L xs false 104 (.inl (lo_aload 105 0)) := lk_aload_n (k := 0) (by decide +kernel) rfl
theorem k_26_105 (L : Nat) (xs : Nat → Int32) : ll_OK1 cX2_readAtom RX2 (some .int) false ll_mN ll_mR ll_mK ll_cnt L xs false 105 (.inl (lo_aload 106 0)) := lk_aload_n (k := 0) (by decide +kernel) rfl
theorem k_26_106 (L : Nat) (xs : Nat → Int32) : ll_OK1 cX2_readAtom RX2 (some .int) false ll_mN ll_mR ll_mK ll_cnt L xs false 106 (.inl (lo_getf 109 2 3)) := lk_getf (ix := 26) (ci := 2) (k := 3) (C := RX2) (T := TX2) (N := 5) (by decide +kernel) rfl in_2 (by decide) tb_100
theorem k_26_109 (L : Nat) (xs : Nat → Int32) : ll_OK1 cX2_readAtom RX2 (some .int) false ll_mN ll_mR ll_mK ll_cnt L xs false 109 (.inl (lo_putf 112 2 4 0)) := lk_putf (ix := 9) (ci := 2) (k := 4) (C := RX2) (T := TX2) (N := 5) (ty0 := tyX2) (by decide +kernel) rfl in_2 tyX2_ok nmX2 (by decide) tb_96 (fun B adr v w h1 h2 => ll_fit_int (B := B) (adr := adr) h1 h2) (Or.inl rfl)
theorem k_26_112 (L : Nat) (xs : Nat → Int32) : ll_OK1 cX2_readAtom RX2 (some .int) false ll_mN ll_mR ll_mK ll_cnt L xs false 112 (.inl (lo_iload 113 3)) := lk_iload_n (k := 3) (by decide +kernel) rfl
theorem k_26_113 (L : Nat) (xs : Nat → Int32) : ll_OK1 cX2_readAtom RX2 (some .int) false ll_mN ll_mR ll_mK ll_cnt L xs false 113 (.inr (.inr 1)) := ⟨(fun h => by cases h), (fun _ => ⟨(by decide +kernel), rfl⟩), fun h => by cases h⟩
theorem ok_26 (L : Nat) (xs : Nat → Int32) : ∀ q ∈ cd_26, ll_OK1 cX2_readAtom RX2 (some .int) false ll_mN ll_mR ll_mK ll_cnt L xs false q.1 q.2 :=
  List.forall_mem_cons.mpr ⟨k_26_0 L xs, List.forall_mem_cons.mpr ⟨k_26_1 L xs, List.forall_mem_cons.mpr ⟨k_26_4 L xs, List.forall_mem_cons.mpr ⟨k_26_5 L xs, List.forall_mem_cons.mpr ⟨k_26_6 L xs, List.forall_mem_cons.mpr ⟨k_26_9 L xs, List.forall_mem_cons.mpr ⟨k_26_12 L xs, List.forall_mem_cons.mpr ⟨k_26_13 L xs, List.forall_mem_cons.mpr ⟨k_26_15 L xs, List.forall_mem_cons.mpr ⟨k_26_18 L xs, List.forall_mem_cons.mpr ⟨k_26_19 L xs, List.forall_mem_cons.mpr ⟨k_26_20 L xs, List.forall_mem_cons.mpr ⟨k_26_23 L xs, List.forall_mem_cons.mpr ⟨k_26_26 L xs, List.forall_mem_cons.mpr ⟨k_26_27 L xs, List.forall_mem_cons.mpr ⟨k_26_28 L xs, List.forall_mem_cons.mpr ⟨k_26_29 L xs, List.forall_mem_cons.mpr ⟨k_26_30 L xs, List.forall_mem_cons.mpr ⟨k_26_33 L xs, List.forall_mem_cons.mpr ⟨k_26_34 L xs, List.forall_mem_cons.mpr ⟨k_26_35 L xs, List.forall_mem_cons.mpr ⟨k_26_38 L xs, List.forall_mem_cons.mpr ⟨k_26_39 L xs, List.forall_mem_cons.mpr ⟨k_26_41 L xs, List.forall_mem_cons.mpr ⟨k_26_44 L xs, List.forall_mem_cons.mpr ⟨k_26_45 L xs, List.forall_mem_cons.mpr ⟨k_26_47 L xs, List.forall_mem_cons.mpr ⟨k_26_50 L xs, List.forall_mem_cons.mpr ⟨k_26_51 L xs, List.forall_mem_cons.mpr ⟨k_26_52 L xs, List.forall_mem_cons.mpr ⟨k_26_53 L xs, List.forall_mem_cons.mpr ⟨k_26_55 L xs, List.forall_mem_cons.mpr ⟨k_26_56 L xs, List.forall_mem_cons.mpr ⟨k_26_59 L xs, List.forall_mem_cons.mpr ⟨k_26_60 L xs, List.forall_mem_cons.mpr ⟨k_26_61 L xs, List.forall_mem_cons.mpr ⟨k_26_62 L xs, List.forall_mem_cons.mpr ⟨k_26_64 L xs, List.forall_mem_cons.mpr ⟨k_26_65 L xs, List.forall_mem_cons.mpr ⟨k_26_66 L xs, List.forall_mem_cons.mpr ⟨k_26_67 L xs, List.forall_mem_cons.mpr ⟨k_26_68 L xs, List.forall_mem_cons.mpr ⟨k_26_69 L xs, List.forall_mem_cons.mpr ⟨k_26_70 L xs, List.forall_mem_cons.mpr ⟨k_26_73 L xs, List.forall_mem_cons.mpr ⟨k_26_74 L xs, List.forall_mem_cons.mpr ⟨k_26_75 L xs, List.forall_mem_cons.mpr ⟨k_26_78 L xs, List.forall_mem_cons.mpr ⟨k_26_79 L xs, List.forall_mem_cons.mpr ⟨k_26_82 L xs, List.forall_mem_cons.mpr ⟨k_26_83 L xs, List.forall_mem_cons.mpr ⟨k_26_86 L xs, List.forall_mem_cons.mpr ⟨k_26_88 L xs, List.forall_mem_cons.mpr ⟨k_26_91 L xs, List.forall_mem_cons.mpr ⟨k_26_92 L xs, List.forall_mem_cons.mpr ⟨k_26_93 L xs, List.forall_mem_cons.mpr ⟨k_26_96 L xs, List.forall_mem_cons.mpr ⟨k_26_97 L xs, List.forall_mem_cons.mpr ⟨k_26_98 L xs, List.forall_mem_cons.mpr ⟨k_26_101 L xs, List.forall_mem_cons.mpr ⟨k_26_104 L xs, List.forall_mem_cons.mpr ⟨k_26_105 L xs, List.forall_mem_cons.mpr ⟨k_26_106 L xs, List.forall_mem_cons.mpr ⟨k_26_109 L xs, List.forall_mem_cons.mpr ⟨k_26_112 L xs, List.forall_mem_cons.mpr ⟨k_26_113 L xs, fun _ h => absurd h List.not_mem_nil⟩⟩⟩⟩⟩⟩⟩⟩⟩⟩⟩⟩⟩⟩⟩⟩⟩⟩⟩⟩⟩⟩⟩⟩⟩⟩⟩⟩⟩⟩⟩⟩⟩⟩⟩⟩⟩⟩⟩⟩⟩⟩⟩⟩⟩⟩⟩⟩⟩⟩⟩⟩⟩⟩⟩⟩⟩⟩⟩⟩⟩⟩⟩⟩⟩⟩
/-- InclusionProver$Reader.next.()I -/
def cd_27 : List (Nat × ll_O) := [
  (0, .inl (lo_aload 1 0)),
  (1, .inl (lo_getf 4 2 3)),
  (4, .inl (lo_aload 5 0)),
  (5, .inl (lo_getf 8 2 2)),
  (8, .inl (lo_cmp 40 11 (fun x y => decide (y ≤ x)))),
  (11, .inl (lo_aload 12 0)),
  (12, .inl (lo_getf 15 2 1)),
  (15, .inl (lo_aload 16 0)),
  (16, .inl (lo_getf 19 2 3)),
  (19, .inr (.inl (77, 2, 22))),
  (22, .inl (lo_push 24 (.int 32))),
  (24, .inl (lo_cmp 40 27 (fun x y => decide (¬ x = y)))),
  (27, .inl (lo_aload 28 0)),
  (28, .inl (lo_dup 29)),
  (29, .inl (lo_getf 32 2 3)),
  (32, .inl (lo_push 33 (.int 1))),
  (33, .inl (lo_bin 34 (fun x y => x + y))),
  (34, .inl (lo_putf 37 2 3 0)),
  (37, .inl (lo_goto 0)),
  (40, .inl (lo_aload 41 0)),
  (41, .inl (lo_getf 44 2 3)),
  (44, .inl (lo_aload 45 0)),
  (45, .inl (lo_getf 48 2 2)),
  (48, .inl (lo_cmp 65 51 (fun x y => decide (y ≤ x)))),
  (51, .inl (lo_aload 52 0)),
  (52, .inl (lo_getf 55 2 1)),
  (55, .inl (lo_aload 56 0)),
  (56, .inl (lo_getf 59 2 3)),
  (59, .inr (.inl (77, 2, 62))),
  (62, .inl (lo_goto 66)),
  (65, .inl (lo_push 66 (.int (-1)))),
  (66, .inr (.inr 1))]
theorem k_27_0 (L : Nat) (xs : Nat → Int32) : ll_OK1 cX2_next RX2 (some .int) false ll_mN ll_mR ll_mK ll_cnt L xs false 0 (.inl (lo_aload 1 0)) := lk_aload_n (k := 0) (by decide +kernel) rfl
theorem k_27_1 (L : Nat) (xs : Nat → Int32) : ll_OK1 cX2_next RX2 (some .int) false ll_mN ll_mR ll_mK ll_cnt L xs false 1 (.inl (lo_getf 4 2 3)) := lk_getf (ix := 26) (ci := 2) (k := 3) (C := RX2) (T := TX2) (N := 5) (by decide +kernel) rfl in_2 (by decide) tb_100
theorem k_27_4 (L : Nat) (xs : Nat → Int32) : ll_OK1 cX2_next RX2 (some .int) false ll_mN ll_mR ll_mK ll_cnt L xs false 4 (.inl (lo_aload 5 0)) := lk_aload_n (k := 0) (by decide +kernel) rfl
theorem k_27_5 (L : Nat) (xs : Nat → Int32) : ll_OK1 cX2_next RX2 (some .int) false ll_mN ll_mR ll_mK ll_cnt L xs false 5 (.inl (lo_getf 8 2 2)) := lk_getf (ix := 23) (ci := 2) (k := 2) (C := RX2) (T := TX2) (N := 5) (by decide +kernel) rfl in_2 (by decide) tb_99
theorem k_27_8 (L : Nat) (xs : Nat → Int32) : ll_OK1 cX2_next RX2 (some .int) false ll_mN ll_mR ll_mK ll_cnt L xs false 8 (.inl (lo_cmp 40 11 (fun x y => decide (y ≤ x)))) := lk_icmp_ge (off := 32) (by decide +kernel) rfl
theorem k_27_11 (L : Nat) (xs : Nat → Int32) : ll_OK1 cX2_next RX2 (some .int) false ll_mN ll_mR ll_mK ll_cnt L xs false 11 (.inl (lo_aload 12 0)) := lk_aload_n (k := 0) (by decide +kernel) rfl
theorem k_27_12 (L : Nat) (xs : Nat → Int32) : ll_OK1 cX2_next RX2 (some .int) false ll_mN ll_mR ll_mK ll_cnt L xs false 12 (.inl (lo_getf 15 2 1)) := lk_getf (ix := 19) (ci := 2) (k := 1) (C := RX2) (T := TX2) (N := 5) (by decide +kernel) rfl in_2 (by decide) tb_98
theorem k_27_15 (L : Nat) (xs : Nat → Int32) : ll_OK1 cX2_next RX2 (some .int) false ll_mN ll_mR ll_mK ll_cnt L xs false 15 (.inl (lo_aload 16 0)) := lk_aload_n (k := 0) (by decide +kernel) rfl
theorem k_27_16 (L : Nat) (xs : Nat → Int32) : ll_OK1 cX2_next RX2 (some .int) false ll_mN ll_mR ll_mK ll_cnt L xs false 16 (.inl (lo_getf 19 2 3)) := lk_getf (ix := 26) (ci := 2) (k := 3) (C := RX2) (T := TX2) (N := 5) (by decide +kernel) rfl in_2 (by decide) tb_100
theorem k_27_19 (L : Nat) (xs : Nat → Int32) : ll_OK1 cX2_next RX2 (some .int) false ll_mN ll_mR ll_mK ll_cnt L xs false 19 (.inr (.inl (77, 2, 22))) := ⟨rfl, by decide, by rw [mN_77, mK_77, mR_77]; exact lj_v 75 1 7 (RX7, TX7, 2) (by decide +kernel) tb_139 tb_140 tb_141 rfl rfl rfl rfl (by decide +kernel)⟩
theorem k_27_22 (L : Nat) (xs : Nat → Int32) : ll_OK1 cX2_next RX2 (some .int) false ll_mN ll_mR ll_mK ll_cnt L xs false 22 (.inl (lo_push 24 (.int 32))) := lk_bipush (n := 32) (by decide +kernel) (by decide)
theorem k_27_24 (L : Nat) (xs : Nat → Int32) : ll_OK1 cX2_next RX2 (some .int) false ll_mN ll_mR ll_mK ll_cnt L xs false 24 (.inl (lo_cmp 40 27 (fun x y => decide (¬ x = y)))) := lk_icmp_ne (off := 16) (by decide +kernel) rfl
theorem k_27_27 (L : Nat) (xs : Nat → Int32) : ll_OK1 cX2_next RX2 (some .int) false ll_mN ll_mR ll_mK ll_cnt L xs false 27 (.inl (lo_aload 28 0)) := lk_aload_n (k := 0) (by decide +kernel) rfl
theorem k_27_28 (L : Nat) (xs : Nat → Int32) : ll_OK1 cX2_next RX2 (some .int) false ll_mN ll_mR ll_mK ll_cnt L xs false 28 (.inl (lo_dup 29)) := lk_dup (by decide +kernel)
theorem k_27_29 (L : Nat) (xs : Nat → Int32) : ll_OK1 cX2_next RX2 (some .int) false ll_mN ll_mR ll_mK ll_cnt L xs false 29 (.inl (lo_getf 32 2 3)) := lk_getf (ix := 26) (ci := 2) (k := 3) (C := RX2) (T := TX2) (N := 5) (by decide +kernel) rfl in_2 (by decide) tb_100
theorem k_27_32 (L : Nat) (xs : Nat → Int32) : ll_OK1 cX2_next RX2 (some .int) false ll_mN ll_mR ll_mK ll_cnt L xs false 32 (.inl (lo_push 33 (.int 1))) := lk_iconst (n := 1) (by decide +kernel) (by decide)
theorem k_27_33 (L : Nat) (xs : Nat → Int32) : ll_OK1 cX2_next RX2 (some .int) false ll_mN ll_mR ll_mK ll_cnt L xs false 33 (.inl (lo_bin 34 (fun x y => x + y))) := lk_iadd (by decide +kernel)
theorem k_27_34 (L : Nat) (xs : Nat → Int32) : ll_OK1 cX2_next RX2 (some .int) false ll_mN ll_mR ll_mK ll_cnt L xs false 34 (.inl (lo_putf 37 2 3 0)) := lk_putf (ix := 26) (ci := 2) (k := 3) (C := RX2) (T := TX2) (N := 5) (ty0 := tyX2) (by decide +kernel) rfl in_2 tyX2_ok nmX2 (by decide) tb_100 (fun B adr v w h1 h2 => ll_fit_int (B := B) (adr := adr) h1 h2) (Or.inl rfl)
theorem k_27_37 (L : Nat) (xs : Nat → Int32) : ll_OK1 cX2_next RX2 (some .int) false ll_mN ll_mR ll_mK ll_cnt L xs false 37 (.inl (lo_goto 0)) := lk_goto (off := (-37)) (by decide +kernel) rfl
theorem k_27_40 (L : Nat) (xs : Nat → Int32) : ll_OK1 cX2_next RX2 (some .int) false ll_mN ll_mR ll_mK ll_cnt L xs false 40 (.inl (lo_aload 41 0)) := lk_aload_n (k := 0) (by decide +kernel) rfl
theorem k_27_41 (L : Nat) (xs : Nat → Int32) : ll_OK1 cX2_next RX2 (some .int) false ll_mN ll_mR ll_mK ll_cnt L xs false 41 (.inl (lo_getf 44 2 3)) := lk_getf (ix := 26) (ci := 2) (k := 3) (C := RX2) (T := TX2) (N := 5) (by decide +kernel) rfl in_2 (by decide) tb_100
theorem k_27_44 (L : Nat) (xs : Nat → Int32) : ll_OK1 cX2_next RX2 (some .int) false ll_mN ll_mR ll_mK ll_cnt L xs false 44 (.inl (lo_aload 45 0)) := lk_aload_n (k := 0) (by decide +kernel) rfl
theorem k_27_45 (L : Nat) (xs : Nat → Int32) : ll_OK1 cX2_next RX2 (some .int) false ll_mN ll_mR ll_mK ll_cnt L xs false 45 (.inl (lo_getf 48 2 2)) := lk_getf (ix := 23) (ci := 2) (k := 2) (C := RX2) (T := TX2) (N := 5) (by decide +kernel) rfl in_2 (by decide) tb_99
theorem k_27_48 (L : Nat) (xs : Nat → Int32) : ll_OK1 cX2_next RX2 (some .int) false ll_mN ll_mR ll_mK ll_cnt L xs false 48 (.inl (lo_cmp 65 51 (fun x y => decide (y ≤ x)))) := lk_icmp_ge (off := 17) (by decide +kernel) rfl
theorem k_27_51 (L : Nat) (xs : Nat → Int32) : ll_OK1 cX2_next RX2 (some .int) false ll_mN ll_mR ll_mK ll_cnt L xs false 51 (.inl (lo_aload 52 0)) := lk_aload_n (k := 0) (by decide +kernel) rfl
theorem k_27_52 (L : Nat) (xs : Nat → Int32) : ll_OK1 cX2_next RX2 (some .int) false ll_mN ll_mR ll_mK ll_cnt L xs false 52 (.inl (lo_getf 55 2 1)) := lk_getf (ix := 19) (ci := 2) (k := 1) (C := RX2) (T := TX2) (N := 5) (by decide +kernel) rfl in_2 (by decide) tb_98
theorem k_27_55 (L : Nat) (xs : Nat → Int32) : ll_OK1 cX2_next RX2 (some .int) false ll_mN ll_mR ll_mK ll_cnt L xs false 55 (.inl (lo_aload 56 0)) := lk_aload_n (k := 0) (by decide +kernel) rfl
theorem k_27_56 (L : Nat) (xs : Nat → Int32) : ll_OK1 cX2_next RX2 (some .int) false ll_mN ll_mR ll_mK ll_cnt L xs false 56 (.inl (lo_getf 59 2 3)) := lk_getf (ix := 26) (ci := 2) (k := 3) (C := RX2) (T := TX2) (N := 5) (by decide +kernel) rfl in_2 (by decide) tb_100
theorem k_27_59 (L : Nat) (xs : Nat → Int32) : ll_OK1 cX2_next RX2 (some .int) false ll_mN ll_mR ll_mK ll_cnt L xs false 59 (.inr (.inl (77, 2, 62))) := ⟨rfl, by decide, by rw [mN_77, mK_77, mR_77]; exact lj_v 75 1 7 (RX7, TX7, 2) (by decide +kernel) tb_139 tb_140 tb_141 rfl rfl rfl rfl (by decide +kernel)⟩
theorem k_27_62 (L : Nat) (xs : Nat → Int32) : ll_OK1 cX2_next RX2 (some .int) false ll_mN ll_mR ll_mK ll_cnt L xs false 62 (.inl (lo_goto 66)) := lk_goto (off := 4) (by decide +kernel) rfl
theorem k_27_65 (L : Nat) (xs : Nat → Int32) : ll_OK1 cX2_next RX2 (some .int) false ll_mN ll_mR ll_mK ll_cnt L xs false 65 (.inl (lo_push 66 (.int (-1)))) := lk_iconst (n := (-1)) (by decide +kernel) (by decide)
theorem k_27_66 (L : Nat) (xs : Nat → Int32) : ll_OK1 cX2_next RX2 (some .int) false ll_mN ll_mR ll_mK ll_cnt L xs false 66 (.inr (.inr 1)) := ⟨(fun h => by cases h), (fun _ => ⟨(by decide +kernel), rfl⟩), fun h => by cases h⟩
theorem ok_27 (L : Nat) (xs : Nat → Int32) : ∀ q ∈ cd_27, ll_OK1 cX2_next RX2 (some .int) false ll_mN ll_mR ll_mK ll_cnt L xs false q.1 q.2 :=
  List.forall_mem_cons.mpr ⟨k_27_0 L xs, List.forall_mem_cons.mpr ⟨k_27_1 L xs, List.forall_mem_cons.mpr ⟨k_27_4 L xs, List.forall_mem_cons.mpr ⟨k_27_5 L xs, List.forall_mem_cons.mpr ⟨k_27_8 L xs, List.forall_mem_cons.mpr ⟨k_27_11 L xs, List.forall_mem_cons.mpr ⟨k_27_12 L xs, List.forall_mem_cons.mpr ⟨k_27_15 L xs, List.forall_mem_cons.mpr ⟨k_27_16 L xs, List.forall_mem_cons.mpr ⟨k_27_19 L xs, List.forall_mem_cons.mpr ⟨k_27_22 L xs, List.forall_mem_cons.mpr ⟨k_27_24 L xs, List.forall_mem_cons.mpr ⟨k_27_27 L xs, List.forall_mem_cons.mpr ⟨k_27_28 L xs, List.forall_mem_cons.mpr ⟨k_27_29 L xs, List.forall_mem_cons.mpr ⟨k_27_32 L xs, List.forall_mem_cons.mpr ⟨k_27_33 L xs, List.forall_mem_cons.mpr ⟨k_27_34 L xs, List.forall_mem_cons.mpr ⟨k_27_37 L xs, List.forall_mem_cons.mpr ⟨k_27_40 L xs, List.forall_mem_cons.mpr ⟨k_27_41 L xs, List.forall_mem_cons.mpr ⟨k_27_44 L xs, List.forall_mem_cons.mpr ⟨k_27_45 L xs, List.forall_mem_cons.mpr ⟨k_27_48 L xs, List.forall_mem_cons.mpr ⟨k_27_51 L xs, List.forall_mem_cons.mpr ⟨k_27_52 L xs, List.forall_mem_cons.mpr ⟨k_27_55 L xs, List.forall_mem_cons.mpr ⟨k_27_56 L xs, List.forall_mem_cons.mpr ⟨k_27_59 L xs, List.forall_mem_cons.mpr ⟨k_27_62 L xs, List.forall_mem_cons.mpr ⟨k_27_65 L xs, List.forall_mem_cons.mpr ⟨k_27_66 L xs, fun _ h => absurd h List.not_mem_nil⟩⟩⟩⟩⟩⟩⟩⟩⟩⟩⟩⟩⟩⟩⟩⟩⟩⟩⟩⟩⟩⟩⟩⟩⟩⟩⟩⟩⟩⟩⟩⟩
/-- InclusionProver$Reader.beginsAtom.(I)Z -/
def cd_28 : List (Nat × ll_O) := [
  (0, .inl (lo_iload 1 0)),
  (1, .inl (lo_push 3 (.int 48))),
  (3, .inl (lo_cmp 30 6 (fun x y => decide (x = y)))),
  (6, .inl (lo_iload 7 0)),
  (7, .inl (lo_push 9 (.int 49))),
  (9, .inl (lo_cmp 30 12 (fun x y => decide (x = y)))),
  (12, .inl (lo_iload 13 0)),
  (13, .inl (lo_push 15 (.int 40))),
  (15, .inl (lo_cmp 30 18 (fun x y => decide (x = y)))),
  (18, .inl (lo_iload 19 0)),
  (19, .inl (lo_push 21 (.int 97))),
  (21, .inl (lo_cmp 34 24 (fun x y => decide (x < y)))),
  (24, .inl (lo_iload 25 0)),
  (25, .inl (lo_push 27 (.int 99))),
  (27, .inl (lo_cmp 34 30 (fun x y => decide (y < x)))),
  (30, .inl (lo_push 31 (.int 1))),
  (31, .inl (lo_goto 35)),
  (34, .inl (lo_push 35 (.int 0))),
  (35, .inr (.inr 2))]
theorem k_28_0 (L : Nat) (xs : Nat → Int32) : ll_OK1 cX2_beginsAtom RX2 (some .boolean) false ll_mN ll_mR ll_mK ll_cnt L xs false 0 (.inl (lo_iload 1 0)) := lk_iload_n (k := 0) (by decide +kernel) rfl
theorem k_28_1 (L : Nat) (xs : Nat → Int32) : ll_OK1 cX2_beginsAtom RX2 (some .boolean) false ll_mN ll_mR ll_mK ll_cnt L xs false 1 (.inl (lo_push 3 (.int 48))) := lk_bipush (n := 48) (by decide +kernel) (by decide)
theorem k_28_3 (L : Nat) (xs : Nat → Int32) : ll_OK1 cX2_beginsAtom RX2 (some .boolean) false ll_mN ll_mR ll_mK ll_cnt L xs false 3 (.inl (lo_cmp 30 6 (fun x y => decide (x = y)))) := lk_icmp_eq (off := 27) (by decide +kernel) rfl
theorem k_28_6 (L : Nat) (xs : Nat → Int32) : ll_OK1 cX2_beginsAtom RX2 (some .boolean) false ll_mN ll_mR ll_mK ll_cnt L xs false 6 (.inl (lo_iload 7 0)) := lk_iload_n (k := 0) (by decide +kernel) rfl
theorem k_28_7 (L : Nat) (xs : Nat → Int32) : ll_OK1 cX2_beginsAtom RX2 (some .boolean) false ll_mN ll_mR ll_mK ll_cnt L xs false 7 (.inl (lo_push 9 (.int 49))) := lk_bipush (n := 49) (by decide +kernel) (by decide)
theorem k_28_9 (L : Nat) (xs : Nat → Int32) : ll_OK1 cX2_beginsAtom RX2 (some .boolean) false ll_mN ll_mR ll_mK ll_cnt L xs false 9 (.inl (lo_cmp 30 12 (fun x y => decide (x = y)))) := lk_icmp_eq (off := 21) (by decide +kernel) rfl
theorem k_28_12 (L : Nat) (xs : Nat → Int32) : ll_OK1 cX2_beginsAtom RX2 (some .boolean) false ll_mN ll_mR ll_mK ll_cnt L xs false 12 (.inl (lo_iload 13 0)) := lk_iload_n (k := 0) (by decide +kernel) rfl
theorem k_28_13 (L : Nat) (xs : Nat → Int32) : ll_OK1 cX2_beginsAtom RX2 (some .boolean) false ll_mN ll_mR ll_mK ll_cnt L xs false 13 (.inl (lo_push 15 (.int 40))) := lk_bipush (n := 40) (by decide +kernel) (by decide)
theorem k_28_15 (L : Nat) (xs : Nat → Int32) : ll_OK1 cX2_beginsAtom RX2 (some .boolean) false ll_mN ll_mR ll_mK ll_cnt L xs false 15 (.inl (lo_cmp 30 18 (fun x y => decide (x = y)))) := lk_icmp_eq (off := 15) (by decide +kernel) rfl
theorem k_28_18 (L : Nat) (xs : Nat → Int32) : ll_OK1 cX2_beginsAtom RX2 (some .boolean) false ll_mN ll_mR ll_mK ll_cnt L xs false 18 (.inl (lo_iload 19 0)) := lk_iload_n (k := 0) (by decide +kernel) rfl
theorem k_28_19 (L : Nat) (xs : Nat → Int32) : ll_OK1 cX2_beginsAtom RX2 (some .boolean) false ll_mN ll_mR ll_mK ll_cnt L xs false 19 (.inl (lo_push 21 (.int 97))) := lk_bipush (n := 97) (by decide +kernel) (by decide)
theorem k_28_21 (L : Nat) (xs : Nat → Int32) : ll_OK1 cX2_beginsAtom RX2 (some .boolean) false ll_mN ll_mR ll_mK ll_cnt L xs false 21 (.inl (lo_cmp 34 24 (fun x y => decide (x < y)))) := lk_icmp_lt (off := 13) (by decide +kernel) rfl
theorem k_28_24 (L : Nat) (xs : Nat → Int32) : ll_OK1 cX2_beginsAtom RX2 (some .boolean) false ll_mN ll_mR ll_mK ll_cnt L xs false 24 (.inl (lo_iload 25 0)) := lk_iload_n (k := 0) (by decide +kernel) rfl
theorem k_28_25 (L : Nat) (xs : Nat → Int32) : ll_OK1 cX2_beginsAtom RX2 (some .boolean) false ll_mN ll_mR ll_mK ll_cnt L xs false 25 (.inl (lo_push 27 (.int 99))) := lk_bipush (n := 99) (by decide +kernel) (by decide)
theorem k_28_27 (L : Nat) (xs : Nat → Int32) : ll_OK1 cX2_beginsAtom RX2 (some .boolean) false ll_mN ll_mR ll_mK ll_cnt L xs false 27 (.inl (lo_cmp 34 30 (fun x y => decide (y < x)))) := lk_icmp_gt (off := 7) (by decide +kernel) rfl
theorem k_28_30 (L : Nat) (xs : Nat → Int32) : ll_OK1 cX2_beginsAtom RX2 (some .boolean) false ll_mN ll_mR ll_mK ll_cnt L xs false 30 (.inl (lo_push 31 (.int 1))) := lk_iconst (n := 1) (by decide +kernel) (by decide)
theorem k_28_31 (L : Nat) (xs : Nat → Int32) : ll_OK1 cX2_beginsAtom RX2 (some .boolean) false ll_mN ll_mR ll_mK ll_cnt L xs false 31 (.inl (lo_goto 35)) := lk_goto (off := 4) (by decide +kernel) rfl
theorem k_28_34 (L : Nat) (xs : Nat → Int32) : ll_OK1 cX2_beginsAtom RX2 (some .boolean) false ll_mN ll_mR ll_mK ll_cnt L xs false 34 (.inl (lo_push 35 (.int 0))) := lk_iconst (n := 0) (by decide +kernel) (by decide)
theorem k_28_35 (L : Nat) (xs : Nat → Int32) : ll_OK1 cX2_beginsAtom RX2 (some .boolean) false ll_mN ll_mR ll_mK ll_cnt L xs false 35 (.inr (.inr 2)) := ⟨(fun h => by cases h), (fun h => by cases h), fun _ => ⟨(by decide +kernel), rfl⟩⟩
theorem ok_28 (L : Nat) (xs : Nat → Int32) : ∀ q ∈ cd_28, ll_OK1 cX2_beginsAtom RX2 (some .boolean) false ll_mN ll_mR ll_mK ll_cnt L xs false q.1 q.2 :=
  List.forall_mem_cons.mpr ⟨k_28_0 L xs, List.forall_mem_cons.mpr ⟨k_28_1 L xs, List.forall_mem_cons.mpr ⟨k_28_3 L xs, List.forall_mem_cons.mpr ⟨k_28_6 L xs, List.forall_mem_cons.mpr ⟨k_28_7 L xs, List.forall_mem_cons.mpr ⟨k_28_9 L xs, List.forall_mem_cons.mpr ⟨k_28_12 L xs, List.forall_mem_cons.mpr ⟨k_28_13 L xs, List.forall_mem_cons.mpr ⟨k_28_15 L xs, List.forall_mem_cons.mpr ⟨k_28_18 L xs, List.forall_mem_cons.mpr ⟨k_28_19 L xs, List.forall_mem_cons.mpr ⟨k_28_21 L xs, List.forall_mem_cons.mpr ⟨k_28_24 L xs, List.forall_mem_cons.mpr ⟨k_28_25 L xs, List.forall_mem_cons.mpr ⟨k_28_27 L xs, List.forall_mem_cons.mpr ⟨k_28_30 L xs, List.forall_mem_cons.mpr ⟨k_28_31 L xs, List.forall_mem_cons.mpr ⟨k_28_34 L xs, List.forall_mem_cons.mpr ⟨k_28_35 L xs, fun _ h => absurd h List.not_mem_nil⟩⟩⟩⟩⟩⟩⟩⟩⟩⟩⟩⟩⟩⟩⟩⟩⟩⟩⟩
/-- InclusionProver$Room.<init>.()V -/
def cd_29 : List (Nat × ll_O) := [
  (0, .inl (lo_aload 1 0)),
  (1, .inl (lo_init 4)),
  (4, .inl (lo_aload 5 0)),
  (5, .inl (lo_new 8 7 2 [.null, .int 0])),
  (8, .inl (lo_dup 9)),
  (9, .inl (lo_push 11 (.int 60))),
  (11, .inr (.inl (70, 2, 14))),
  (14, .inl (lo_putf 17 3 0 2)),
  (17, .inl (lo_aload 18 0)),
  (18, .inl (lo_push 19 (.int 2))),
  (19, .inl (lo_anew 22 5)),
  (22, .inl (lo_dup 23)),
  (23, .inl (lo_push 24 (.int 0))),
  (24, .inl (lo_new 27 5 11 [.null, .null, .null, .null, .null, .null, .int 0, .int 0, .int 0, .int 0, .int 0])),
  (27, .inl (lo_dup 28)),
  (28, .inr (.inl (38, 1, 31))),
  (31, .inl (lo_aast 32)),
  (32, .inl (lo_dup 33)),
  (33, .inl (lo_push 34 (.int 1))),
  (34, .inl (lo_new 37 5 11 [.null, .null, .null, .null, .null, .null, .int 0, .int 0, .int 0, .int 0, .int 0])),
  (37, .inl (lo_dup 38)),
  (38, .inr (.inl (38, 1, 41))),
  (41, .inl (lo_aast 42)),
  (42, .inl (lo_putf 45 3 1 2)),
  (45, .inl (lo_aload 46 0)),
  (46, .inl (lo_push 47 (.int 4))),
  (47, .inl (lo_anew 50 7)),
  (50, .inl (lo_putf 53 3 2 2)),
  (53, .inl (lo_aload 54 0)),
  (54, .inl (lo_new 57 1 12 [.null, .null, .null, .null, .null, .null, .null, .null, .int 0, .int 0, .int 0, .int 0])),
  (57, .inl (lo_dup 58)),
  (58, .inr (.inl (8, 1, 61))),
  (61, .inl (lo_putf 64 3 3 2)),
  (64, .inl (lo_aload 65 0)),
  (65, .inl (lo_push 66 (.int (-1)))),
  (66, .inl (lo_putf 69 3 4 0)),
  (69, .inl (lo_push 70 (.int 0))),
  (70, .inl (lo_istore 71 1)),
  (71, .inl (lo_iload 72 1)),
  (72, .inl (lo_push 73 (.int 4))),
  (73, .inl (lo_cmp 97 76 (fun x y => decide (y ≤ x)))),
  (76, .inl (lo_aload 77 0)),
  (77, .inl (lo_getf 80 3 2)),
  (80, .inl (lo_iload 81 1)),
  (81, .inl (lo_new 84 7 2 [.null, .int 0])),
  (84, .inl (lo_dup 85)),
  (85, .inl (lo_push 87 (.int 30))),
  (87, .inr (.inl (70, 2, 90))),
  (90, .inl (lo_aast 91)),
  (91, .inl (lo_iinc 94 1 1)),
  (94, .inl (lo_goto 71)),
  (97, .inr (.inr 0))]
theorem k_29_0 (L : Nat) (xs : Nat → Int32) : ll_OK1 cX3_init RX3 none true ll_mN ll_mR ll_mK ll_cnt L xs false 0 (.inl (lo_aload 1 0)) := lk_aload_n (k := 0) (by decide +kernel) rfl
theorem k_29_1 (L : Nat) (xs : Nat → Int32) : ll_OK1 cX3_init RX3 none true ll_mN ll_mR ll_mK ll_cnt L xs false 1 (.inl (lo_init 4)) := lk_init (ix := 3) (by decide +kernel) tb_142 tb_1 tb_2
theorem k_29_4 (L : Nat) (xs : Nat → Int32) : ll_OK1 cX3_init RX3 none true ll_mN ll_mR ll_mK ll_cnt L xs false 4 (.inl (lo_aload 5 0)) := lk_aload_n (k := 0) (by decide +kernel) rfl
theorem k_29_5 (L : Nat) (xs : Nat → Int32) : ll_OK1 cX3_init RX3 none true ll_mN ll_mR ll_mK ll_cnt L xs false 5 (.inl (lo_new 8 7 2 [.null, .int 0])) := lk_new (ix := 9) (ci := 7) (N := 2) (C := RX7) (T := TX7) (ty0 := tyX7) (by decide +kernel) rfl in_7 tyX7_ok tb_143 tb_69 tb_70 rfl (by decide +kernel) (by decide +kernel)
theorem k_29_8 (L : Nat) (xs : Nat → Int32) : ll_OK1 cX3_init RX3 none true ll_mN ll_mR ll_mK ll_cnt L xs false 8 (.inl (lo_dup 9)) := lk_dup (by decide +kernel)
theorem k_29_9 (L : Nat) (xs : Nat → Int32) : ll_OK1 cX3_init RX3 none true ll_mN ll_mR ll_mK ll_cnt L xs false 9 (.inl (lo_push 11 (.int 60))) := lk_bipush (n := 60) (by decide +kernel) (by decide)
theorem k_29_11 (L : Nat) (xs : Nat → Int32) : ll_OK1 cX3_init RX3 none true ll_mN ll_mR ll_mK ll_cnt L xs false 11 (.inr (.inl (70, 2, 14))) := ⟨rfl, by decide, by rw [mN_70, mK_70, mR_70]; exact lj_i 11 1 7 (by decide +kernel) (Or.inl tb_144) tb_72 rfl rfl rfl (by decide +kernel) rfl⟩
theorem k_29_14 (L : Nat) (xs : Nat → Int32) : ll_OK1 cX3_init RX3 none true ll_mN ll_mR ll_mK ll_cnt L xs false 14 (.inl (lo_putf 17 3 0 2)) := lk_putf (ix := 14) (ci := 3) (k := 0) (C := RX3) (T := TX3) (N := 5) (ty0 := tyX3) (by decide +kernel) rfl in_3 tyX3_ok nmX3 (by decide) tb_145 (fun B adr v w h1 h2 => ll_fit_obj (B := B) (adr := adr) h1 h2) (Or.inr ⟨rfl, rfl, rfl⟩)
theorem k_29_17 (L : Nat) (xs : Nat → Int32) : ll_OK1 cX3_init RX3 none true ll_mN ll_mR ll_mK ll_cnt L xs false 17 (.inl (lo_aload 18 0)) := lk_aload_n (k := 0) (by decide +kernel) rfl
theorem k_29_18 (L : Nat) (xs : Nat → Int32) : ll_OK1 cX3_init RX3 none true ll_mN ll_mR ll_mK ll_cnt L xs false 18 (.inl (lo_push 19 (.int 2))) := lk_iconst (n := 2) (by decide +kernel) (by decide)
theorem k_29_19 (L : Nat) (xs : Nat → Int32) : ll_OK1 cX3_init RX3 none true ll_mN ll_mR ll_mK ll_cnt L xs false 19 (.inl (lo_anew 22 5)) := lk_anew (ix := 20) (t := 5) (by decide +kernel) tb_146 (by decide +kernel)
theorem k_29_22 (L : Nat) (xs : Nat → Int32) : ll_OK1 cX3_init RX3 none true ll_mN ll_mR ll_mK ll_cnt L xs false 22 (.inl (lo_dup 23)) := lk_dup (by decide +kernel)
theorem k_29_23 (L : Nat) (xs : Nat → Int32) : ll_OK1 cX3_init RX3 none true ll_mN ll_mR ll_mK ll_cnt L xs false 23 (.inl (lo_push 24 (.int 0))) := lk_iconst (n := 0) (by decide +kernel) (by decide)
theorem k_29_24 (L : Nat) (xs : Nat → Int32) : ll_OK1 cX3_init RX3 none true ll_mN ll_mR ll_mK ll_cnt L xs false 24 (.inl (lo_new 27 5 11 [.null, .null, .null, .null, .null, .null, .int 0, .int 0, .int 0, .int 0, .int 0])) := lk_new (ix := 20) (ci := 5) (N := 11) (C := RX5) (T := TX5) (ty0 := tyX5) (by decide +kernel) rfl in_5 tyX5_ok tb_147 tb_148 tb_149 rfl (by decide +kernel) (by decide +kernel)
theorem k_29_27 (L : Nat) (xs : Nat → Int32) : ll_OK1 cX3_init RX3 none true ll_mN ll_mR ll_mK ll_cnt L xs false 27 (.inl (lo_dup 28)) := lk_dup (by decide +kernel)
theorem k_29_28 (L : Nat) (xs : Nat → Int32) : ll_OK1 cX3_init RX3 none true ll_mN ll_mR ll_mK ll_cnt L xs false 28 (.inr (.inl (38, 1, 31))) := ⟨rfl, by decide, by rw [mN_38, mK_38, mR_38]; exact lj_i 22 0 5 (by decide +kernel) (Or.inr ⟨"InclusionProver", by decide +kernel⟩) tb_150 rfl rfl rfl (by decide +kernel) rfl⟩
theorem k_29_31 (L : Nat) (xs : Nat → Int32) : ll_OK1 cX3_init RX3 none true ll_mN ll_mR ll_mK ll_cnt L xs false 31 (.inl (lo_aast 32)) := lk_aast (by decide +kernel)
theorem k_29_32 (L : Nat) (xs : Nat → Int32) : ll_OK1 cX3_init RX3 none true ll_mN ll_mR ll_mK ll_cnt L xs false 32 (.inl (lo_dup 33)) := lk_dup (by decide +kernel)
theorem k_29_33 (L : Nat) (xs : Nat → Int32) : ll_OK1 cX3_init RX3 none true ll_mN ll_mR ll_mK ll_cnt L xs false 33 (.inl (lo_push 34 (.int 1))) := lk_iconst (n := 1) (by decide +kernel) (by decide)
theorem k_29_34 (L : Nat) (xs : Nat → Int32) : ll_OK1 cX3_init RX3 none true ll_mN ll_mR ll_mK ll_cnt L xs false 34 (.inl (lo_new 37 5 11 [.null, .null, .null, .null, .null, .null, .int 0, .int 0, .int 0, .int 0, .int 0])) := lk_new (ix := 20) (ci := 5) (N := 11) (C := RX5) (T := TX5) (ty0 := tyX5) (by decide +kernel) rfl in_5 tyX5_ok tb_147 tb_148 tb_149 rfl (by decide +kernel) (by decide +kernel)
theorem k_29_37 (L : Nat) (xs : Nat → Int32) : ll_OK1 cX3_init RX3 none true ll_mN ll_mR ll_mK ll_cnt L xs false 37 (.inl (lo_dup 38)) := lk_dup (by decide +kernel)
theorem k_29_38 (L : Nat) (xs : Nat → Int32) : ll_OK1 cX3_init RX3 none true ll_mN ll_mR ll_mK ll_cnt L xs false 38 (.inr (.inl (38, 1, 41))) := ⟨rfl, by decide, by rw [mN_38, mK_38, mR_38]; exact lj_i 22 0 5 (by decide +kernel) (Or.inr ⟨"InclusionProver", by decide +kernel⟩) tb_150 rfl rfl rfl (by decide +kernel) rfl⟩
theorem k_29_41 (L : Nat) (xs : Nat → Int32) : ll_OK1 cX3_init RX3 none true ll_mN ll_mR ll_mK ll_cnt L xs false 41 (.inl (lo_aast 42)) := lk_aast (by decide +kernel)
theorem k_29_42 (L : Nat) (xs : Nat → Int32) : ll_OK1 cX3_init RX3 none true ll_mN ll_mR ll_mK ll_cnt L xs false 42 (.inl (lo_putf 45 3 1 2)) := lk_putf (ix := 23) (ci := 3) (k := 1) (C := RX3) (T := TX3) (N := 5) (ty0 := tyX3) (by decide +kernel) rfl in_3 tyX3_ok nmX3 (by decide) tb_151 (fun B adr v w h1 h2 => ll_fit_arr (B := B) (adr := adr) h1 h2) (Or.inr ⟨rfl, rfl, rfl⟩)
theorem k_29_45 (L : Nat) (xs : Nat → Int32) : ll_OK1 cX3_init RX3 none true ll_mN ll_mR ll_mK ll_cnt L xs false 45 (.inl (lo_aload 46 0)) := lk_aload_n (k := 0) (by decide +kernel) rfl
theorem k_29_46 (L : Nat) (xs : Nat → Int32) : ll_OK1 cX3_init RX3 none true ll_mN ll_mR ll_mK ll_cnt L xs false 46 (.inl (lo_push 47 (.int 4))) := lk_iconst (n := 4) (by decide +kernel) (by decide)
theorem k_29_47 (L : Nat) (xs : Nat → Int32) : ll_OK1 cX3_init RX3 none true ll_mN ll_mR ll_mK ll_cnt L xs false 47 (.inl (lo_anew 50 7)) := lk_anew (ix := 9) (t := 7) (by decide +kernel) tb_152 (by decide +kernel)
theorem k_29_50 (L : Nat) (xs : Nat → Int32) : ll_OK1 cX3_init RX3 none true ll_mN ll_mR ll_mK ll_cnt L xs false 50 (.inl (lo_putf 53 3 2 2)) := lk_putf (ix := 27) (ci := 3) (k := 2) (C := RX3) (T := TX3) (N := 5) (ty0 := tyX3) (by decide +kernel) rfl in_3 tyX3_ok nmX3 (by decide) tb_153 (fun B adr v w h1 h2 => ll_fit_arr (B := B) (adr := adr) h1 h2) (Or.inr ⟨rfl, rfl, rfl⟩)
theorem k_29_53 (L : Nat) (xs : Nat → Int32) : ll_OK1 cX3_init RX3 none true ll_mN ll_mR ll_mK ll_cnt L xs false 53 (.inl (lo_aload 54 0)) := lk_aload_n (k := 0) (by decide +kernel) rfl
theorem k_29_54 (L : Nat) (xs : Nat → Int32) : ll_OK1 cX3_init RX3 none true ll_mN ll_mR ll_mK ll_cnt L xs false 54 (.inl (lo_new 57 1 12 [.null, .null, .null, .null, .null, .null, .null, .null, .int 0, .int 0, .int 0, .int 0])) := lk_new (ix := 31) (ci := 1) (N := 12) (C := RX1) (T := TX1) (ty0 := tyX1) (by decide +kernel) rfl in_1 tyX1_ok tb_154 tb_155 tb_156 rfl (by decide +kernel) (by decide +kernel)
theorem k_29_57 (L : Nat) (xs : Nat → Int32) : ll_OK1 cX3_init RX3 none true ll_mN ll_mR ll_mK ll_cnt L xs false 57 (.inl (lo_dup 58)) := lk_dup (by decide +kernel)
theorem k_29_58 (L : Nat) (xs : Nat → Int32) : ll_OK1 cX3_init RX3 none true ll_mN ll_mR ll_mK ll_cnt L xs false 58 (.inr (.inl (8, 1, 61))) := ⟨rfl, by decide, by rw [mN_8, mK_8, mR_8]; exact lj_i 33 0 1 (by decide +kernel) (Or.inr ⟨"InclusionProver", by decide +kernel⟩) tb_157 rfl rfl rfl (by decide +kernel) rfl⟩
theorem k_29_61 (L : Nat) (xs : Nat → Int32) : ll_OK1 cX3_init RX3 none true ll_mN ll_mR ll_mK ll_cnt L xs false 61 (.inl (lo_putf 64 3 3 2)) := lk_putf (ix := 34) (ci := 3) (k := 3) (C := RX3) (T := TX3) (N := 5) (ty0 := tyX3) (by decide +kernel) rfl in_3 tyX3_ok nmX3 (by decide) tb_158 (fun B adr v w h1 h2 => ll_fit_obj (B := B) (adr := adr) h1 h2) (Or.inr ⟨rfl, rfl, rfl⟩)
theorem k_29_64 (L : Nat) (xs : Nat → Int32) : ll_OK1 cX3_init RX3 none true ll_mN ll_mR ll_mK ll_cnt L xs false 64 (.inl (lo_aload 65 0)) := lk_aload_n (k := 0) (by decide +kernel) rfl
theorem k_29_65 (L : Nat) (xs : Nat → Int32) : ll_OK1 cX3_init RX3 none true ll_mN ll_mR ll_mK ll_cnt L xs false 65 (.inl (lo_push 66 (.int (-1)))) := lk_iconst (n := (-1)) (by decide +kernel) (by decide)
theorem k_29_66 (L : Nat) (xs : Nat → Int32) : ll_OK1 cX3_init RX3 none true ll_mN ll_mR ll_mK ll_cnt L xs false 66 (.inl (lo_putf 69 3 4 0)) := lk_putf (ix := 38) (ci := 3) (k := 4) (C := RX3) (T := TX3) (N := 5) (ty0 := tyX3) (by decide +kernel) rfl in_3 tyX3_ok nmX3 (by decide) tb_159 (fun B adr v w h1 h2 => ll_fit_int (B := B) (adr := adr) h1 h2) (Or.inl rfl)
theorem k_29_69 (L : Nat) (xs : Nat → Int32) : ll_OK1 cX3_init RX3 none true ll_mN ll_mR ll_mK ll_cnt L xs false 69 (.inl (lo_push 70 (.int 0))) := lk_iconst (n := 0) (by decide +kernel) (by decide)
theorem k_29_70 (L : Nat) (xs : Nat → Int32) : ll_OK1 cX3_init RX3 none true ll_mN ll_mR ll_mK ll_cnt L xs false 70 (.inl (lo_istore 71 1)) := lk_istore_n (k := 1) (by decide +kernel) rfl
theorem k_29_71 (L : Nat) (xs : Nat → Int32) : ll_OK1 cX3_init RX3 none true ll_mN ll_mR ll_mK ll_cnt L xs false 71 (.inl (lo_iload 72 1)) := lk_iload_n (k := 1) (by decide +kernel) rfl
theorem k_29_72 (L : Nat) (xs : Nat → Int32) : ll_OK1 cX3_init RX3 none true ll_mN ll_mR ll_mK ll_cnt L xs false 72 (.inl (lo_push 73 (.int 4))) := lk_iconst (n := 4) (by decide +kernel) (by decide)
theorem k_29_73 (L : Nat) (xs : Nat → Int32) : ll_OK1 cX3_init RX3 none true ll_mN ll_mR ll_mK ll_cnt L xs false 73 (.inl (lo_cmp 97 76 (fun x y => decide (y ≤ x)))) := lk_icmp_ge (off := 24) (by decide +kernel) rfl
theorem k_29_76 (L : Nat) (xs : Nat → Int32) : ll_OK1 cX3_init RX3 none true ll_mN ll_mR ll_mK ll_cnt L xs false 76 (.inl (lo_aload 77 0)) := lk_aload_n (k := 0) (by decide +kernel) rfl
theorem k_29_77 (L : Nat) (xs : Nat → Int32) : ll_OK1 cX3_init RX3 none true ll_mN ll_mR ll_mK ll_cnt L xs false 77 (.inl (lo_getf 80 3 2)) := lk_getf (ix := 27) (ci := 3) (k := 2) (C := RX3) (T := TX3) (N := 5) (by decide +kernel) rfl in_3 (by decide) tb_153
theorem k_29_80 (L : Nat) (xs : Nat → Int32) : ll_OK1 cX3_init RX3 none true ll_mN ll_mR ll_mK ll_cnt L xs false 80 (.inl (lo_iload 81 1)) := lk_iload_n (k := 1) (by decide +kernel) rfl
theorem k_29_81 (L : Nat) (xs : Nat → Int32) : ll_OK1 cX3_init RX3 none true ll_mN ll_mR ll_mK ll_cnt L xs false 81 (.inl (lo_new 84 7 2 [.null, .int 0])) := lk_new (ix := 9) (ci := 7) (N := 2) (C := RX7) (T := TX7) (ty0 := tyX7) (by decide +kernel) rfl in_7 tyX7_ok tb_143 tb_69 tb_70 rfl (by decide +kernel) (by decide +kernel)
theorem k_29_84 (L : Nat) (xs : Nat → Int32) : ll_OK1 cX3_init RX3 none true ll_mN ll_mR ll_mK ll_cnt L xs false 84 (.inl (lo_dup 85)) := lk_dup (by decide +kernel)
theorem k_29_85 (L : Nat) (xs : Nat → Int32) : ll_OK1 cX3_init RX3 none true ll_mN ll_mR ll_mK ll_cnt L xs false 85 (.inl (lo_push 87 (.int 30))) := lk_bipush (n := 30) (by decide +kernel) (by decide)
theorem k_29_87 (L : Nat) (xs : Nat → Int32) : ll_OK1 cX3_init RX3 none true ll_mN ll_mR ll_mK ll_cnt L xs false 87 (.inr (.inl (70, 2, 90))) := ⟨rfl, by decide, by rw [mN_70, mK_70, mR_70]; exact lj_i 11 1 7 (by decide +kernel) (Or.inl tb_144) tb_72 rfl rfl rfl (by decide +kernel) rfl⟩
theorem k_29_90 (L : Nat) (xs : Nat → Int32) : ll_OK1 cX3_init RX3 none true ll_mN ll_mR ll_mK ll_cnt L xs false 90 (.inl (lo_aast 91)) := lk_aast (by decide +kernel)
theorem k_29_91 (L : Nat) (xs : Nat → Int32) : ll_OK1 cX3_init RX3 none true ll_mN ll_mR ll_mK ll_cnt L xs false 91 (.inl (lo_iinc 94 1 1)) := lk_iinc (n := 1) (by decide +kernel) (by decide)
theorem k_29_94 (L : Nat) (xs : Nat → Int32) : ll_OK1 cX3_init RX3 none true ll_mN ll_mR ll_mK ll_cnt L xs false 94 (.inl (lo_goto 71)) := lk_goto (off := (-23)) (by decide +kernel) rfl
theorem k_29_97 (L : Nat) (xs : Nat → Int32) : ll_OK1 cX3_init RX3 none true ll_mN ll_mR ll_mK ll_cnt L xs false 97 (.inr (.inr 0)) := ⟨fun _ => ⟨(by decide +kernel), rfl⟩, (fun h => by cases h), fun h => by cases h⟩
theorem ok_29 (L : Nat) (xs : Nat → Int32) : ∀ q ∈ cd_29, ll_OK1 cX3_init RX3 none true ll_mN ll_mR ll_mK ll_cnt L xs false q.1 q.2 :=
  List.forall_mem_cons.mpr ⟨k_29_0 L xs, List.forall_mem_cons.mpr ⟨k_29_1 L xs, List.forall_mem_cons.mpr ⟨k_29_4 L xs, List.forall_mem_cons.mpr ⟨k_29_5 L xs, List.forall_mem_cons.mpr ⟨k_29_8 L xs, List.forall_mem_cons.mpr ⟨k_29_9 L xs, List.forall_mem_cons.mpr ⟨k_29_11 L xs, List.forall_mem_cons.mpr ⟨k_29_14 L xs, List.forall_mem_cons.mpr ⟨k_29_17 L xs, List.forall_mem_cons.mpr ⟨k_29_18 L xs, List.forall_mem_cons.mpr ⟨k_29_19 L xs, List.forall_mem_cons.mpr ⟨k_29_22 L xs, List.forall_mem_cons.mpr ⟨k_29_23 L xs, List.forall_mem_cons.mpr ⟨k_29_24 L xs, List.forall_mem_cons.mpr ⟨k_29_27 L xs, List.forall_mem_cons.mpr ⟨k_29_28 L xs, List.forall_mem_cons.mpr ⟨k_29_31 L xs, List.forall_mem_cons.mpr ⟨k_29_32 L xs, List.forall_mem_cons.mpr ⟨k_29_33 L xs, List.forall_mem_cons.mpr ⟨k_29_34 L xs, List.forall_mem_cons.mpr ⟨k_29_37 L xs, List.forall_mem_cons.mpr ⟨k_29_38 L xs, List.forall_mem_cons.mpr ⟨k_29_41 L xs, List.forall_mem_cons.mpr ⟨k_29_42 L xs, List.forall_mem_cons.mpr ⟨k_29_45 L xs, List.forall_mem_cons.mpr ⟨k_29_46 L xs, List.forall_mem_cons.mpr ⟨k_29_47 L xs, List.forall_mem_cons.mpr ⟨k_29_50 L xs, List.forall_mem_cons.mpr ⟨k_29_53 L xs, List.forall_mem_cons.mpr ⟨k_29_54 L xs, List.forall_mem_cons.mpr ⟨k_29_57 L xs, List.forall_mem_cons.mpr ⟨k_29_58 L xs, List.forall_mem_cons.mpr ⟨k_29_61 L xs, List.forall_mem_cons.mpr ⟨k_29_64 L xs, List.forall_mem_cons.mpr ⟨k_29_65 L xs, List.forall_mem_cons.mpr ⟨k_29_66 L xs, List.forall_mem_cons.mpr ⟨k_29_69 L xs, List.forall_mem_cons.mpr ⟨k_29_70 L xs, List.forall_mem_cons.mpr ⟨k_29_71 L xs, List.forall_mem_cons.mpr ⟨k_29_72 L xs, List.forall_mem_cons.mpr ⟨k_29_73 L xs, List.forall_mem_cons.mpr ⟨k_29_76 L xs, List.forall_mem_cons.mpr ⟨k_29_77 L xs, List.forall_mem_cons.mpr ⟨k_29_80 L xs, List.forall_mem_cons.mpr ⟨k_29_81 L xs, List.forall_mem_cons.mpr ⟨k_29_84 L xs, List.forall_mem_cons.mpr ⟨k_29_85 L xs, List.forall_mem_cons.mpr ⟨k_29_87 L xs, List.forall_mem_cons.mpr ⟨k_29_90 L xs, List.forall_mem_cons.mpr ⟨k_29_91 L xs, List.forall_mem_cons.mpr ⟨k_29_94 L xs, List.forall_mem_cons.mpr ⟨k_29_97 L xs, fun _ h => absurd h List.not_mem_nil⟩⟩⟩⟩⟩⟩⟩⟩⟩⟩⟩⟩⟩⟩⟩⟩⟩⟩⟩⟩⟩⟩⟩⟩⟩⟩⟩⟩⟩⟩⟩⟩⟩⟩⟩⟩⟩⟩⟩⟩⟩⟩⟩⟩⟩⟩⟩⟩⟩⟩⟩⟩
/-- InclusionProver$Room.become.(LInclusionProver$Room;)V -/
def cd_30 : List (Nat × ll_O) := [
  (0, .inl (lo_aload 1 0)),
  (1, .inl (lo_getf 4 3 0)),
  (4, .inl (lo_aload 5 1)),
  (5, .inl (lo_getf 8 3 0)),
  (8, .inr (.inl (75, 2, 11))),
  (11, .inl (lo_aload 12 0)),
  (12, .inl (lo_aload 13 1)),
  (13, .inl (lo_getf 16 3 4)),
  (16, .inl (lo_putf 19 3 4 0)),
  (19, .inl (lo_aload 20 0)),
  (20, .inl (lo_getf 23 3 3)),
  (23, .inl (lo_aload 24 1)),
  (24, .inl (lo_getf 27 3 3)),
  (27, .inr (.inl (20, 2, 30))),
  (30, .inl (lo_push 31 (.int 0))),
  (31, .inl (lo_istore 32 2)),
  (32, .inl (lo_iload 33 2)),
  (33, .inl (lo_push 34 (.int 2))),
  (34, .inl (lo_cmp 58 37 (fun x y => decide (y ≤ x)))),
  (37, .inl (lo_aload 38 0)),
  (38, .inl (lo_getf 41 3 1)),
  (41, .inl (lo_iload 42 2)),
  (42, .inl (lo_aald 43)),
  (43, .inl (lo_aload 44 1)),
  (44, .inl (lo_getf 47 3 1)),
  (47, .inl (lo_iload 48 2)),
  (48, .inl (lo_aald 49)),
  (49, .inr (.inl (44, 2, 52))),
  (52, .inl (lo_iinc 55 2 1)),
  (55, .inl (lo_goto 32)),
  (58, .inl (lo_push 59 (.int 0))),
  (59, .inl (lo_istore 60 2)),
  (60, .inl (lo_iload 61 2)),
  (61, .inl (lo_push 62 (.int 4))),
  (62, .inl (lo_cmp 86 65 (fun x y => decide (y ≤ x)))),
  (65, .inl (lo_aload 66 0)),
  (66, .inl (lo_getf 69 3 2)),
  (69, .inl (lo_iload 70 2)),
  (70, .inl (lo_aald 71)),
  (71, .inl (lo_aload 72 1)),
  (72, .inl (lo_getf 75 3 2)),
  (75, .inl (lo_iload 76 2)),
  (76, .inl (lo_aald 77)),
  (77, .inr (.inl (75, 2, 80))),
  (80, .inl (lo_iinc 83 2 1)),
  (83, .inl (lo_goto 60)),
  (86, .inr (.inr 0))]
theorem k_30_0 (L : Nat) (xs : Nat → Int32) : ll_OK1 cX3_become RX3 none false ll_mN ll_mR ll_mK ll_cnt L xs false 0 (.inl (lo_aload 1 0)) := lk_aload_n (k := 0) (by decide +kernel) rfl
theorem k_30_1 (L : Nat) (xs : Nat → Int32) : ll_OK1 cX3_become RX3 none false ll_mN ll_mR ll_mK ll_cnt L xs false 1 (.inl (lo_getf 4 3 0)) := lk_getf (ix := 14) (ci := 3) (k := 0) (C := RX3) (T := TX3) (N := 5) (by decide +kernel) rfl in_3 (by decide) tb_145
theorem k_30_4 (L : Nat) (xs : Nat → Int32) : ll_OK1 cX3_become RX3 none false ll_mN ll_mR ll_mK ll_cnt L xs false 4 (.inl (lo_aload 5 1)) := lk_aload_n (k := 1) (by decide +kernel) rfl
theorem k_30_5 (L : Nat) (xs : Nat → Int32) : ll_OK1 cX3_become RX3 none false ll_mN ll_mR ll_mK ll_cnt L xs false 5 (.inl (lo_getf 8 3 0)) := lk_getf (ix := 14) (ci := 3) (k := 0) (C := RX3) (T := TX3) (N := 5) (by decide +kernel) rfl in_3 (by decide) tb_145
theorem k_30_8 (L : Nat) (xs : Nat → Int32) : ll_OK1 cX3_become RX3 none false ll_mN ll_mR ll_mK ll_cnt L xs false 8 (.inr (.inl (75, 2, 11))) := ⟨rfl, by decide, by rw [mN_75, mK_75, mR_75]; exact lj_v 42 1 7 (RX7, TX7, 2) (by decide +kernel) tb_160 tb_89 tb_90 rfl rfl rfl rfl (by decide +kernel)⟩
theorem k_30_11 (L : Nat) (xs : Nat → Int32) : ll_OK1 cX3_become RX3 none false ll_mN ll_mR ll_mK ll_cnt L xs false 11 (.inl (lo_aload 12 0)) := lk_aload_n (k := 0) (by decide +kernel) rfl
theorem k_30_12 (L : Nat) (xs : Nat → Int32) : ll_OK1 cX3_become RX3 none false ll_mN ll_mR ll_mK ll_cnt L xs false 12 (.inl (lo_aload 13 1)) := lk_aload_n (k := 1) (by decide +kernel) rfl
theorem k_30_13 (L : Nat) (xs : Nat → Int32) : ll_OK1 cX3_become RX3 none false ll_mN ll_mR ll_mK ll_cnt L xs false 13 (.inl (lo_getf 16 3 4)) := lk_getf (ix := 38) (ci := 3) (k := 4) (C := RX3) (T := TX3) (N := 5) (by decide +kernel) rfl in_3 (by decide) tb_159
theorem k_30_16 (L : Nat) (xs : Nat → Int32) : ll_OK1 cX3_become RX3 none false ll_mN ll_mR ll_mK ll_cnt L xs false 16 (.inl (lo_putf 19 3 4 0)) := lk_putf (ix := 38) (ci := 3) (k := 4) (C := RX3) (T := TX3) (N := 5) (ty0 := tyX3) (by decide +kernel) rfl in_3 tyX3_ok nmX3 (by decide) tb_159 (fun B adr v w h1 h2 => ll_fit_int (B := B) (adr := adr) h1 h2) (Or.inl rfl)
theorem k_30_19 (L : Nat) (xs : Nat → Int32) : ll_OK1 cX3_become RX3 none false ll_mN ll_mR ll_mK ll_cnt L xs false 19 (.inl (lo_aload 20 0)) := lk_aload_n (k := 0) (by decide +kernel) rfl
theorem k_30_20 (L : Nat) (xs : Nat → Int32) : ll_OK1 cX3_become RX3 none false ll_mN ll_mR ll_mK ll_cnt L xs false 20 (.inl (lo_getf 23 3 3)) := lk_getf (ix := 34) (ci := 3) (k := 3) (C := RX3) (T := TX3) (N := 5) (by decide +kernel) rfl in_3 (by decide) tb_158
theorem k_30_23 (L : Nat) (xs : Nat → Int32) : ll_OK1 cX3_become RX3 none false ll_mN ll_mR ll_mK ll_cnt L xs false 23 (.inl (lo_aload 24 1)) := lk_aload_n (k := 1) (by decide +kernel) rfl
theorem k_30_24 (L : Nat) (xs : Nat → Int32) : ll_OK1 cX3_become RX3 none false ll_mN ll_mR ll_mK ll_cnt L xs false 24 (.inl (lo_getf 27 3 3)) := lk_getf (ix := 34) (ci := 3) (k := 3) (C := RX3) (T := TX3) (N := 5) (by decide +kernel) rfl in_3 (by decide) tb_158
theorem k_30_27 (L : Nat) (xs : Nat → Int32) : ll_OK1 cX3_become RX3 none false ll_mN ll_mR ll_mK ll_cnt L xs false 27 (.inr (.inl (20, 2, 30))) := ⟨rfl, by decide, by rw [mN_20, mK_20, mR_20]; exact lj_v 46 1 1 (RX1, TX1, 12) (by decide +kernel) tb_161 tb_162 tb_163 rfl rfl rfl rfl (by decide +kernel)⟩
theorem k_30_30 (L : Nat) (xs : Nat → Int32) : ll_OK1 cX3_become RX3 none false ll_mN ll_mR ll_mK ll_cnt L xs false 30 (.inl (lo_push 31 (.int 0))) := lk_iconst (n := 0) (by decide +kernel) (by decide)
theorem k_30_31 (L : Nat) (xs : Nat → Int32) : ll_OK1 cX3_become RX3 none false ll_mN ll_mR ll_mK ll_cnt L xs false 31 (.inl (lo_istore 32 2)) := lk_istore_n (k := 2) (by decide +kernel) rfl
theorem k_30_32 (L : Nat) (xs : Nat → Int32) : ll_OK1 cX3_become RX3 none false ll_mN ll_mR ll_mK ll_cnt L xs false 32 (.inl (lo_iload 33 2)) := lk_iload_n (k := 2) (by decide +kernel) rfl
theorem k_30_33 (L : Nat) (xs : Nat → Int32) : ll_OK1 cX3_become RX3 none false ll_mN ll_mR ll_mK ll_cnt L xs false 33 (.inl (lo_push 34 (.int 2))) := lk_iconst (n := 2) (by decide +kernel) (by decide)
theorem k_30_34 (L : Nat) (xs : Nat → Int32) : ll_OK1 cX3_become RX3 none false ll_mN ll_mR ll_mK ll_cnt L xs false 34 (.inl (lo_cmp 58 37 (fun x y => decide (y ≤ x)))) := lk_icmp_ge (off := 24) (by decide +kernel) rfl
theorem k_30_37 (L : Nat) (xs : Nat → Int32) : ll_OK1 cX3_become RX3 none false ll_mN ll_mR ll_mK ll_cnt L xs false 37 (.inl (lo_aload 38 0)) := lk_aload_n (k := 0) (by decide +kernel) rfl
theorem k_30_38 (L : Nat) (xs : Nat → Int32) : ll_OK1 cX3_become RX3 none false ll_mN ll_mR ll_mK ll_cnt L xs false 38 (.inl (lo_getf 41 3 1)) := lk_getf (ix := 23) (ci := 3) (k := 1) (C := RX3) (T := TX3) (N := 5) (by decide +kernel) rfl in_3 (by decide) tb_151
theorem k_30_41 (L : Nat) (xs : Nat → Int32) : ll_OK1 cX3_become RX3 none false ll_mN ll_mR ll_mK ll_cnt L xs false 41 (.inl (lo_iload 42 2)) := lk_iload_n (k := 2) (by decide +kernel) rfl
theorem k_30_42 (L : Nat) (xs : Nat → Int32) : ll_OK1 cX3_become RX3 none false ll_mN ll_mR ll_mK ll_cnt L xs false 42 (.inl (lo_aald 43)) := lk_aald (by decide +kernel)
theorem k_30_43 (L : Nat) (xs : Nat → Int32) : ll_OK1 cX3_become RX3 none false ll_mN ll_mR ll_mK ll_cnt L xs false 43 (.inl (lo_aload 44 1)) := lk_aload_n (k := 1) (by decide +kernel) rfl
theorem k_30_44 (L : Nat) (xs : Nat → Int32) : ll_OK1 cX3_become RX3 none false ll_mN ll_mR ll_mK ll_cnt L xs false 44 (.inl (lo_getf 47 3 1)) := lk_getf (ix := 23) (ci := 3) (k := 1) (C := RX3) (T := TX3) (N := 5) (by decide +kernel) rfl in_3 (by decide) tb_151
theorem k_30_47 (L : Nat) (xs : Nat → Int32) : ll_OK1 cX3_become RX3 none false ll_mN ll_mR ll_mK ll_cnt L xs false 47 (.inl (lo_iload 48 2)) := lk_iload_n (k := 2) (by decide +kernel) rfl
theorem k_30_48 (L : Nat) (xs : Nat → Int32) : ll_OK1 cX3_become RX3 none false ll_mN ll_mR ll_mK ll_cnt L xs false 48 (.inl (lo_aald 49)) := lk_aald (by decide +kernel)
theorem k_30_49 (L : Nat) (xs : Nat → Int32) : ll_OK1 cX3_become RX3 none false ll_mN ll_mR ll_mK ll_cnt L xs false 49 (.inr (.inl (44, 2, 52))) := ⟨rfl, by decide, by rw [mN_44, mK_44, mR_44]; exact lj_v 49 1 5 (RX5, TX5, 11) (by decide +kernel) tb_164 tb_165 tb_166 rfl rfl rfl rfl (by decide +kernel)⟩
theorem k_30_52 (L : Nat) (xs : Nat → Int32) : ll_OK1 cX3_become RX3 none false ll_mN ll_mR ll_mK ll_cnt L xs false 52 (.inl (lo_iinc 55 2 1)) := lk_iinc (n := 1) (by decide +kernel) (by decide)
theorem k_30_55 (L : Nat) (xs : Nat → Int32) : ll_OK1 cX3_become RX3 none false ll_mN ll_mR ll_mK ll_cnt L xs false 55 (.inl (lo_goto 32)) := lk_goto (off := (-23)) (by decide +kernel) rfl
theorem k_30_58 (L : Nat) (xs : Nat → Int32) : ll_OK1 cX3_become RX3 none false ll_mN ll_mR ll_mK ll_cnt L xs false 58 (.inl (lo_push 59 (.int 0))) := lk_iconst (n := 0) (by decide +kernel) (by decide)
theorem k_30_59 (L : Nat) (xs : Nat → Int32) : ll_OK1 cX3_become RX3 none false ll_mN ll_mR ll_mK ll_cnt L xs false 59 (.inl (lo_istore 60 2)) := lk_istore_n (k := 2) (by decide +kernel) rfl
theorem k_30_60 (L : Nat) (xs : Nat → Int32) : ll_OK1 cX3_become RX3 none false ll_mN ll_mR ll_mK ll_cnt L xs false 60 (.inl (lo_iload 61 2)) := lk_iload_n (k := 2) (by decide +kernel) rfl
theorem k_30_61 (L : Nat) (xs : Nat → Int32) : ll_OK1 cX3_become RX3 none false ll_mN ll_mR ll_mK ll_cnt L xs false 61 (.inl (lo_push 62 (.int 4))) := lk_iconst (n := 4) (by decide +kernel) (by decide)
theorem k_30_62 (L : Nat) (xs : Nat → Int32) : ll_OK1 cX3_become RX3 none false ll_mN ll_mR ll_mK ll_cnt L xs false 62 (.inl (lo_cmp 86 65 (fun x y => decide (y ≤ x)))) := lk_icmp_ge (off := 24) (by decide +kernel) rfl
theorem k_30_65 (L : Nat) (xs : Nat → Int32) : ll_OK1 cX3_become RX3 none false ll_mN ll_mR ll_mK ll_cnt L xs false 65 (.inl (lo_aload 66 0)) := lk_aload_n (k := 0) (by decide +kernel) rfl
theorem k_30_66 (L : Nat) (xs : Nat → Int32) : ll_OK1 cX3_become RX3 none false ll_mN ll_mR ll_mK ll_cnt L xs false 66 (.inl (lo_getf 69 3 2)) := lk_getf (ix := 27) (ci := 3) (k := 2) (C := RX3) (T := TX3) (N := 5) (by decide +kernel) rfl in_3 (by decide) tb_153
theorem k_30_69 (L : Nat) (xs : Nat → Int32) : ll_OK1 cX3_become RX3 none false ll_mN ll_mR ll_mK ll_cnt L xs false 69 (.inl (lo_iload 70 2)) := lk_iload_n (k := 2) (by decide +kernel) rfl
theorem k_30_70 (L : Nat) (xs : Nat → Int32) : ll_OK1 cX3_become RX3 none false ll_mN ll_mR ll_mK ll_cnt L xs false 70 (.inl (lo_aald 71)) := lk_aald (by decide +kernel)
theorem k_30_71 (L : Nat) (xs : Nat → Int32) : ll_OK1 cX3_become RX3 none false ll_mN ll_mR ll_mK ll_cnt L xs false 71 (.inl (lo_aload 72 1)) := lk_aload_n (k := 1) (by decide +kernel) rfl
theorem k_30_72 (L : Nat) (xs : Nat → Int32) : ll_OK1 cX3_become RX3 none false ll_mN ll_mR ll_mK ll_cnt L xs false 72 (.inl (lo_getf 75 3 2)) := lk_getf (ix := 27) (ci := 3) (k := 2) (C := RX3) (T := TX3) (N := 5) (by decide +kernel) rfl in_3 (by decide) tb_153
theorem k_30_75 (L : Nat) (xs : Nat → Int32) : ll_OK1 cX3_become RX3 none false ll_mN ll_mR ll_mK ll_cnt L xs false 75 (.inl (lo_iload 76 2)) := lk_iload_n (k := 2) (by decide +kernel) rfl
theorem k_30_76 (L : Nat) (xs : Nat → Int32) : ll_OK1 cX3_become RX3 none false ll_mN ll_mR ll_mK ll_cnt L xs false 76 (.inl (lo_aald 77)) := lk_aald (by decide +kernel)
theorem k_30_77 (L : Nat) (xs : Nat → Int32) : ll_OK1 cX3_become RX3 none false ll_mN ll_mR ll_mK ll_cnt L xs false 77 (.inr (.inl (75, 2, 80))) := ⟨rfl, by decide, by rw [mN_75, mK_75, mR_75]; exact lj_v 42 1 7 (RX7, TX7, 2) (by decide +kernel) tb_160 tb_89 tb_90 rfl rfl rfl rfl (by decide +kernel)⟩
theorem k_30_80 (L : Nat) (xs : Nat → Int32) : ll_OK1 cX3_become RX3 none false ll_mN ll_mR ll_mK ll_cnt L xs false 80 (.inl (lo_iinc 83 2 1)) := lk_iinc (n := 1) (by decide +kernel) (by decide)
theorem k_30_83 (L : Nat) (xs : Nat → Int32) : ll_OK1 cX3_become RX3 none false ll_mN ll_mR ll_mK ll_cnt L xs false 83 (.inl (lo_goto 60)) := lk_goto (off := (-23)) (by decide +kernel) rfl
theorem k_30_86 (L : Nat) (xs : Nat → Int32) : ll_OK1 cX3_become RX3 none false ll_mN ll_mR ll_mK ll_cnt L xs false 86 (.inr (.inr 0)) := ⟨fun _ => ⟨(by decide +kernel), rfl⟩, (fun h => by cases h), fun h => by cases h⟩
theorem ok_30 (L : Nat) (xs : Nat → Int32) : ∀ q ∈ cd_30, ll_OK1 cX3_become RX3 none false ll_mN ll_mR ll_mK ll_cnt L xs false q.1 q.2 :=
  List.forall_mem_cons.mpr ⟨k_30_0 L xs, List.forall_mem_cons.mpr ⟨k_30_1 L xs, List.forall_mem_cons.mpr ⟨k_30_4 L xs, List.forall_mem_cons.mpr ⟨k_30_5 L xs, List.forall_mem_cons.mpr ⟨k_30_8 L xs, List.forall_mem_cons.mpr ⟨k_30_11 L xs, List.forall_mem_cons.mpr ⟨k_30_12 L xs, List.forall_mem_cons.mpr ⟨k_30_13 L xs, List.forall_mem_cons.mpr ⟨k_30_16 L xs, List.forall_mem_cons.mpr ⟨k_30_19 L xs, List.forall_mem_cons.mpr ⟨k_30_20 L xs, List.forall_mem_cons.mpr ⟨k_30_23 L xs, List.forall_mem_cons.mpr ⟨k_30_24 L xs, List.forall_mem_cons.mpr ⟨k_30_27 L xs, List.forall_mem_cons.mpr ⟨k_30_30 L xs, List.forall_mem_cons.mpr ⟨k_30_31 L xs, List.forall_mem_cons.mpr ⟨k_30_32 L xs, List.forall_mem_cons.mpr ⟨k_30_33 L xs, List.forall_mem_cons.mpr ⟨k_30_34 L xs, List.forall_mem_cons.mpr ⟨k_30_37 L xs, List.forall_mem_cons.mpr ⟨k_30_38 L xs, List.forall_mem_cons.mpr ⟨k_30_41 L xs, List.forall_mem_cons.mpr ⟨k_30_42 L xs, List.forall_mem_cons.mpr ⟨k_30_43 L xs, List.forall_mem_cons.mpr ⟨k_30_44 L xs, List.forall_mem_cons.mpr ⟨k_30_47 L xs, List.forall_mem_cons.mpr ⟨k_30_48 L xs, List.forall_mem_cons.mpr ⟨k_30_49 L xs, List.forall_mem_cons.mpr ⟨k_30_52 L xs, List.forall_mem_cons.mpr ⟨k_30_55 L xs, List.forall_mem_cons.mpr ⟨k_30_58 L xs, List.forall_mem_cons.mpr ⟨k_30_59 L xs, List.forall_mem_cons.mpr ⟨k_30_60 L xs, List.forall_mem_cons.mpr ⟨k_30_61 L xs, List.forall_mem_cons.mpr ⟨k_30_62 L xs, List.forall_mem_cons.mpr ⟨k_30_65 L xs, List.forall_mem_cons.mpr ⟨k_30_66 L xs, List.forall_mem_cons.mpr ⟨k_30_69 L xs, List.forall_mem_cons.mpr ⟨k_30_70 L xs, List.forall_mem_cons.mpr ⟨k_30_71 L xs, List.forall_mem_cons.mpr ⟨k_30_72 L xs, List.forall_mem_cons.mpr ⟨k_30_75 L xs, List.forall_mem_cons.mpr ⟨k_30_76 L xs, List.forall_mem_cons.mpr ⟨k_30_77 L xs, List.forall_mem_cons.mpr ⟨k_30_80 L xs, List.forall_mem_cons.mpr ⟨k_30_83 L xs, List.forall_mem_cons.mpr ⟨k_30_86 L xs, fun _ h => absurd h List.not_mem_nil⟩⟩⟩⟩⟩⟩⟩⟩⟩⟩⟩⟩⟩⟩⟩⟩⟩⟩⟩⟩⟩⟩⟩⟩⟩⟩⟩⟩⟩⟩⟩⟩⟩⟩⟩⟩⟩⟩⟩⟩⟩⟩⟩⟩⟩⟩⟩
/-- InclusionProver$Search.<init>.(LInclusionProver$Side;LInclusionProver$Side;LInclusionProver$Lines;)V -/
def cd_31 : List (Nat × ll_O) := [
  (0, .inl (lo_aload 1 0)),
  (1, .inl (lo_init 4)),
  (4, .inl (lo_aload 5 0)),
  (5, .inl (lo_push 8 (.int 300))),
  (8, .inl (lo_newa 10 0)),
  (10, .inl (lo_putf 13 4 0 2)),
  (13, .inl (lo_aload 14 0)),
  (14, .inl (lo_push 17 (.int 300))),
  (17, .inl (lo_newa 19 0)),
  (19, .inl (lo_putf 22 4 1 2)),
  (22, .inl (lo_aload 23 0)),
  (23, .inl (lo_push 26 (.int 300))),
  (26, .inl (lo_newa 28 0)),
  (28, .inl (lo_putf 31 4 2 2)),
  (31, .inl (lo_aload 32 0)),
  (32, .inl (lo_push 34 (.int 31))),
  (34, .inl (lo_newa 36 0)),
  (36, .inl (lo_putf 39 4 3 2)),
  (39, .inl (lo_aload 40 0)),
  (40, .inl (lo_push 42 (.int 31))),
  (42, .inl (lo_newa 44 0)),
  (44, .inl (lo_putf 47 4 4 2)),
  (47, .inl (lo_aload 48 0)),
  (48, .inl (lo_push 51 (.int 300))),
  (51, .inl (lo_newa 53 0)),
  (53, .inl (lo_putf 56 4 5 2)),
  (56, .inl (lo_aload 57 0)),
  (57, .inl (lo_push 59 (.int 31))),
  (59, .inl (lo_newa 61 0)),
  (61, .inl (lo_putf 64 4 6 2)),
  (64, .inl (lo_aload 65 0)),
  (65, .inl (lo_aload 66 1)),
  (66, .inl (lo_putf 69 4 7 2)),
  (69, .inl (lo_aload 70 0)),
  (70, .inl (lo_aload 71 2)),
  (71, .inl (lo_putf 74 4 8 2)),
  (74, .inl (lo_aload 75 0)),
  (75, .inl (lo_aload 76 3)),
  (76, .inl (lo_putf 79 4 9 2)),
  (79, .inr (.inr 0))]
theorem k_31_0 (L : Nat) (xs : Nat → Int32) : ll_OK1 cX4_init RX4 none true ll_mN ll_mR ll_mK ll_cnt L xs false 0 (.inl (lo_aload 1 0)) := lk_aload_n (k := 0) (by decide +kernel) rfl
theorem k_31_1 (L : Nat) (xs : Nat → Int32) : ll_OK1 cX4_init RX4 none true ll_mN ll_mR ll_mK ll_cnt L xs false 1 (.inl (lo_init 4)) := lk_init (ix := 3) (by decide +kernel) tb_167 tb_1 tb_2
theorem k_31_4 (L : Nat) (xs : Nat → Int32) : ll_OK1 cX4_init RX4 none true ll_mN ll_mR ll_mK ll_cnt L xs false 4 (.inl (lo_aload 5 0)) := lk_aload_n (k := 0) (by decide +kernel) rfl
theorem k_31_5 (L : Nat) (xs : Nat → Int32) : ll_OK1 cX4_init RX4 none true ll_mN ll_mR ll_mK ll_cnt L xs false 5 (.inl (lo_push 8 (.int 300))) := lk_sipush (n := 300) (by decide +kernel) (by decide)
theorem k_31_8 (L : Nat) (xs : Nat → Int32) : ll_OK1 cX4_init RX4 none true ll_mN ll_mR ll_mK ll_cnt L xs false 8 (.inl (lo_newa 10 0)) := lk_newa_int (by decide +kernel) tb_61
theorem k_31_10 (L : Nat) (xs : Nat → Int32) : ll_OK1 cX4_init RX4 none true ll_mN ll_mR ll_mK ll_cnt L xs false 10 (.inl (lo_putf 13 4 0 2)) := lk_putf (ix := 9) (ci := 4) (k := 0) (C := RX4) (T := TX4) (N := 10) (ty0 := tyX4) (by decide +kernel) rfl in_4 tyX4_ok nmX4 (by decide) tb_168 (fun B adr v w h1 h2 => ll_fit_arr (B := B) (adr := adr) h1 h2) (Or.inr ⟨rfl, rfl, rfl⟩)
theorem k_31_13 (L : Nat) (xs : Nat → Int32) : ll_OK1 cX4_init RX4 none true ll_mN ll_mR ll_mK ll_cnt L xs false 13 (.inl (lo_aload 14 0)) := lk_aload_n (k := 0) (by decide +kernel) rfl
theorem k_31_14 (L : Nat) (xs : Nat → Int32) : ll_OK1 cX4_init RX4 none true ll_mN ll_mR ll_mK ll_cnt L xs false 14 (.inl (lo_push 17 (.int 300))) := lk_sipush (n := 300) (by decide +kernel) (by decide)
theorem k_31_17 (L : Nat) (xs : Nat → Int32) : ll_OK1 cX4_init RX4 none true ll_mN ll_mR ll_mK ll_cnt L xs false 17 (.inl (lo_newa 19 0)) := lk_newa_int (by decide +kernel) tb_61
theorem k_31_19 (L : Nat) (xs : Nat → Int32) : ll_OK1 cX4_init RX4 none true ll_mN ll_mR ll_mK ll_cnt L xs false 19 (.inl (lo_putf 22 4 1 2)) := lk_putf (ix := 15) (ci := 4) (k := 1) (C := RX4) (T := TX4) (N := 10) (ty0 := tyX4) (by decide +kernel) rfl in_4 tyX4_ok nmX4 (by decide) tb_169 (fun B adr v w h1 h2 => ll_fit_arr (B := B) (adr := adr) h1 h2) (Or.inr ⟨rfl, rfl, rfl⟩)
theorem k_31_22 (L : Nat) (xs : Nat → Int32) : ll_OK1 cX4_init RX4 none true ll_mN ll_mR ll_mK ll_cnt L xs false 22 (.inl (lo_aload 23 0)) := lk_aload_n (k := 0) (by decide +kernel) rfl
theorem k_31_23 (L : Nat) (xs : Nat → Int32) : ll_OK1 cX4_init RX4 none true ll_mN ll_mR ll_mK ll_cnt L xs false 23 (.inl (lo_push 26 (.int 300))) := lk_sipush (n := 300) (by decide +kernel) (by decide)
theorem k_31_26 (L : Nat) (xs : Nat → Int32) : ll_OK1 cX4_init RX4 none true ll_mN ll_mR ll_mK ll_cnt L xs false 26 (.inl (lo_newa 28 0)) := lk_newa_int (by decide +kernel) tb_61
theorem k_31_28 (L : Nat) (xs : Nat → Int32) : ll_OK1 cX4_init RX4 none true ll_mN ll_mR ll_mK ll_cnt L xs false 28 (.inl (lo_putf 31 4 2 2)) := lk_putf (ix := 18) (ci := 4) (k := 2) (C := RX4) (T := TX4) (N := 10) (ty0 := tyX4) (by decide +kernel) rfl in_4 tyX4_ok nmX4 (by decide) tb_170 (fun B adr v w h1 h2 => ll_fit_arr (B := B) (adr := adr) h1 h2) (Or.inr ⟨rfl, rfl, rfl⟩)
theorem k_31_31 (L : Nat) (xs : Nat → Int32) : ll_OK1 cX4_init RX4 none true ll_mN ll_mR ll_mK ll_cnt L xs false 31 (.inl (lo_aload 32 0)) := lk_aload_n (k := 0) (by decide +kernel) rfl
theorem k_31_32 (L : Nat) (xs : Nat → Int32) : ll_OK1 cX4_init RX4 none true ll_mN ll_mR ll_mK ll_cnt L xs false 32 (.inl (lo_push 34 (.int 31))) := lk_bipush (n := 31) (by decide +kernel) (by decide)
theorem k_31_34 (L : Nat) (xs : Nat → Int32) : ll_OK1 cX4_init RX4 none true ll_mN ll_mR ll_mK ll_cnt L xs false 34 (.inl (lo_newa 36 0)) := lk_newa_int (by decide +kernel) tb_61
theorem k_31_36 (L : Nat) (xs : Nat → Int32) : ll_OK1 cX4_init RX4 none true ll_mN ll_mR ll_mK ll_cnt L xs false 36 (.inl (lo_putf 39 4 3 2)) := lk_putf (ix := 21) (ci := 4) (k := 3) (C := RX4) (T := TX4) (N := 10) (ty0 := tyX4) (by decide +kernel) rfl in_4 tyX4_ok nmX4 (by decide) tb_171 (fun B adr v w h1 h2 => ll_fit_arr (B := B) (adr := adr) h1 h2) (Or.inr ⟨rfl, rfl, rfl⟩)
theorem k_31_39 (L : Nat) (xs : Nat → Int32) : ll_OK1 cX4_init RX4 none true ll_mN ll_mR ll_mK ll_cnt L xs false 39 (.inl (lo_aload 40 0)) := lk_aload_n (k := 0) (by decide +kernel) rfl
theorem k_31_40 (L : Nat) (xs : Nat → Int32) : ll_OK1 cX4_init RX4 none true ll_mN ll_mR ll_mK ll_cnt L xs false 40 (.inl (lo_push 42 (.int 31))) := lk_bipush (n := 31) (by decide +kernel) (by decide)
theorem k_31_42 (L : Nat) (xs : Nat → Int32) : ll_OK1 cX4_init RX4 none true ll_mN ll_mR ll_mK ll_cnt L xs false 42 (.inl (lo_newa 44 0)) := lk_newa_int (by decide +kernel) tb_61
theorem k_31_44 (L : Nat) (xs : Nat → Int32) : ll_OK1 cX4_init RX4 none true ll_mN ll_mR ll_mK ll_cnt L xs false 44 (.inl (lo_putf 47 4 4 2)) := lk_putf (ix := 24) (ci := 4) (k := 4) (C := RX4) (T := TX4) (N := 10) (ty0 := tyX4) (by decide +kernel) rfl in_4 tyX4_ok nmX4 (by decide) tb_172 (fun B adr v w h1 h2 => ll_fit_arr (B := B) (adr := adr) h1 h2) (Or.inr ⟨rfl, rfl, rfl⟩)
theorem k_31_47 (L : Nat) (xs : Nat → Int32) : ll_OK1 cX4_init RX4 none true ll_mN ll_mR ll_mK ll_cnt L xs false 47 (.inl (lo_aload 48 0)) := lk_aload_n (k := 0) (by decide +kernel) rfl
theorem k_31_48 (L : Nat) (xs : Nat → Int32) : ll_OK1 cX4_init RX4 none true ll_mN ll_mR ll_mK ll_cnt L xs false 48 (.inl (lo_push 51 (.int 300))) := lk_sipush (n := 300) (by decide +kernel) (by decide)
theorem k_31_51 (L : Nat) (xs : Nat → Int32) : ll_OK1 cX4_init RX4 none true ll_mN ll_mR ll_mK ll_cnt L xs false 51 (.inl (lo_newa 53 0)) := lk_newa_int (by decide +kernel) tb_61
theorem k_31_53 (L : Nat) (xs : Nat → Int32) : ll_OK1 cX4_init RX4 none true ll_mN ll_mR ll_mK ll_cnt L xs false 53 (.inl (lo_putf 56 4 5 2)) := lk_putf (ix := 27) (ci := 4) (k := 5) (C := RX4) (T := TX4) (N := 10) (ty0 := tyX4) (by decide +kernel) rfl in_4 tyX4_ok nmX4 (by decide) tb_173 (fun B adr v w h1 h2 => ll_fit_arr (B := B) (adr := adr) h1 h2) (Or.inr ⟨rfl, rfl, rfl⟩)
theorem k_31_56 (L : Nat) (xs : Nat → Int32) : ll_OK1 cX4_init RX4 none true ll_mN ll_mR ll_mK ll_cnt L xs false 56 (.inl (lo_aload 57 0)) := lk_aload_n (k := 0) (by decide +kernel) rfl
theorem k_31_57 (L : Nat) (xs : Nat → Int32) : ll_OK1 cX4_init RX4 none true ll_mN ll_mR ll_mK ll_cnt L xs false 57 (.inl (lo_push 59 (.int 31))) := lk_bipush (n := 31) (by decide +kernel) (by decide)
theorem k_31_59 (L : Nat) (xs : Nat → Int32) : ll_OK1 cX4_init RX4 none true ll_mN ll_mR ll_mK ll_cnt L xs false 59 (.inl (lo_newa 61 0)) := lk_newa_int (by decide +kernel) tb_61
theorem k_31_61 (L : Nat) (xs : Nat → Int32) : ll_OK1 cX4_init RX4 none true ll_mN ll_mR ll_mK ll_cnt L xs false 61 (.inl (lo_putf 64 4 6 2)) := lk_putf (ix := 30) (ci := 4) (k := 6) (C := RX4) (T := TX4) (N := 10) (ty0 := tyX4) (by decide +kernel) rfl in_4 tyX4_ok nmX4 (by decide) tb_174 (fun B adr v w h1 h2 => ll_fit_arr (B := B) (adr := adr) h1 h2) (Or.inr ⟨rfl, rfl, rfl⟩)
theorem k_31_64 (L : Nat) (xs : Nat → Int32) : ll_OK1 cX4_init RX4 none true ll_mN ll_mR ll_mK ll_cnt L xs false 64 (.inl (lo_aload 65 0)) := lk_aload_n (k := 0) (by decide +kernel) rfl
theorem k_31_65 (L : Nat) (xs : Nat → Int32) : ll_OK1 cX4_init RX4 none true ll_mN ll_mR ll_mK ll_cnt L xs false 65 (.inl (lo_aload 66 1)) := lk_aload_n (k := 1) (by decide +kernel) rfl
theorem k_31_66 (L : Nat) (xs : Nat → Int32) : ll_OK1 cX4_init RX4 none true ll_mN ll_mR ll_mK ll_cnt L xs false 66 (.inl (lo_putf 69 4 7 2)) := lk_putf (ix := 33) (ci := 4) (k := 7) (C := RX4) (T := TX4) (N := 10) (ty0 := tyX4) (by decide +kernel) rfl in_4 tyX4_ok nmX4 (by decide) tb_175 (fun B adr v w h1 h2 => ll_fit_obj (B := B) (adr := adr) h1 h2) (Or.inl rfl)
theorem k_31_69 (L : Nat) (xs : Nat → Int32) : ll_OK1 cX4_init RX4 none true ll_mN ll_mR ll_mK ll_cnt L xs false 69 (.inl (lo_aload 70 0)) := lk_aload_n (k := 0) (by decide +kernel) rfl
theorem k_31_70 (L : Nat) (xs : Nat → Int32) : ll_OK1 cX4_init RX4 none true ll_mN ll_mR ll_mK ll_cnt L xs false 70 (.inl (lo_aload 71 2)) := lk_aload_n (k := 2) (by decide +kernel) rfl
theorem k_31_71 (L : Nat) (xs : Nat → Int32) : ll_OK1 cX4_init RX4 none true ll_mN ll_mR ll_mK ll_cnt L xs false 71 (.inl (lo_putf 74 4 8 2)) := lk_putf (ix := 37) (ci := 4) (k := 8) (C := RX4) (T := TX4) (N := 10) (ty0 := tyX4) (by decide +kernel) rfl in_4 tyX4_ok nmX4 (by decide) tb_176 (fun B adr v w h1 h2 => ll_fit_obj (B := B) (adr := adr) h1 h2) (Or.inl rfl)
theorem k_31_74 (L : Nat) (xs : Nat → Int32) : ll_OK1 cX4_init RX4 none true ll_mN ll_mR ll_mK ll_cnt L xs false 74 (.inl (lo_aload 75 0)) := lk_aload_n (k := 0) (by decide +kernel) rfl
theorem k_31_75 (L : Nat) (xs : Nat → Int32) : ll_OK1 cX4_init RX4 none true ll_mN ll_mR ll_mK ll_cnt L xs false 75 (.inl (lo_aload 76 3)) := lk_aload_n (k := 3) (by decide +kernel) rfl
theorem k_31_76 (L : Nat) (xs : Nat → Int32) : ll_OK1 cX4_init RX4 none true ll_mN ll_mR ll_mK ll_cnt L xs false 76 (.inl (lo_putf 79 4 9 2)) := lk_putf (ix := 40) (ci := 4) (k := 9) (C := RX4) (T := TX4) (N := 10) (ty0 := tyX4) (by decide +kernel) rfl in_4 tyX4_ok nmX4 (by decide) tb_177 (fun B adr v w h1 h2 => ll_fit_obj (B := B) (adr := adr) h1 h2) (Or.inl rfl)
theorem k_31_79 (L : Nat) (xs : Nat → Int32) : ll_OK1 cX4_init RX4 none true ll_mN ll_mR ll_mK ll_cnt L xs false 79 (.inr (.inr 0)) := ⟨fun _ => ⟨(by decide +kernel), rfl⟩, (fun h => by cases h), fun h => by cases h⟩
theorem ok_31 (L : Nat) (xs : Nat → Int32) : ∀ q ∈ cd_31, ll_OK1 cX4_init RX4 none true ll_mN ll_mR ll_mK ll_cnt L xs false q.1 q.2 :=
  List.forall_mem_cons.mpr ⟨k_31_0 L xs, List.forall_mem_cons.mpr ⟨k_31_1 L xs, List.forall_mem_cons.mpr ⟨k_31_4 L xs, List.forall_mem_cons.mpr ⟨k_31_5 L xs, List.forall_mem_cons.mpr ⟨k_31_8 L xs, List.forall_mem_cons.mpr ⟨k_31_10 L xs, List.forall_mem_cons.mpr ⟨k_31_13 L xs, List.forall_mem_cons.mpr ⟨k_31_14 L xs, List.forall_mem_cons.mpr ⟨k_31_17 L xs, List.forall_mem_cons.mpr ⟨k_31_19 L xs, List.forall_mem_cons.mpr ⟨k_31_22 L xs, List.forall_mem_cons.mpr ⟨k_31_23 L xs, List.forall_mem_cons.mpr ⟨k_31_26 L xs, List.forall_mem_cons.mpr ⟨k_31_28 L xs, List.forall_mem_cons.mpr ⟨k_31_31 L xs, List.forall_mem_cons.mpr ⟨k_31_32 L xs, List.forall_mem_cons.mpr ⟨k_31_34 L xs, List.forall_mem_cons.mpr ⟨k_31_36 L xs, List.forall_mem_cons.mpr ⟨k_31_39 L xs, List.forall_mem_cons.mpr ⟨k_31_40 L xs, List.forall_mem_cons.mpr ⟨k_31_42 L xs, List.forall_mem_cons.mpr ⟨k_31_44 L xs, List.forall_mem_cons.mpr ⟨k_31_47 L xs, List.forall_mem_cons.mpr ⟨k_31_48 L xs, List.forall_mem_cons.mpr ⟨k_31_51 L xs, List.forall_mem_cons.mpr ⟨k_31_53 L xs, List.forall_mem_cons.mpr ⟨k_31_56 L xs, List.forall_mem_cons.mpr ⟨k_31_57 L xs, List.forall_mem_cons.mpr ⟨k_31_59 L xs, List.forall_mem_cons.mpr ⟨k_31_61 L xs, List.forall_mem_cons.mpr ⟨k_31_64 L xs, List.forall_mem_cons.mpr ⟨k_31_65 L xs, List.forall_mem_cons.mpr ⟨k_31_66 L xs, List.forall_mem_cons.mpr ⟨k_31_69 L xs, List.forall_mem_cons.mpr ⟨k_31_70 L xs, List.forall_mem_cons.mpr ⟨k_31_71 L xs, List.forall_mem_cons.mpr ⟨k_31_74 L xs, List.forall_mem_cons.mpr ⟨k_31_75 L xs, List.forall_mem_cons.mpr ⟨k_31_76 L xs, List.forall_mem_cons.mpr ⟨k_31_79 L xs, fun _ h => absurd h List.not_mem_nil⟩⟩⟩⟩⟩⟩⟩⟩⟩⟩⟩⟩⟩⟩⟩⟩⟩⟩⟩⟩⟩⟩⟩⟩⟩⟩⟩⟩⟩⟩⟩⟩⟩⟩⟩⟩⟩⟩⟩⟩
end
