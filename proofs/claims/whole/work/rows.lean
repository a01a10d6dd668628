section
-- ===== PART A: goes FIRST, ahead of the names: the tables' words, and 'selects' of the private methods out of them =====
/-- a private method of a class that the tables say can be made, by its rows of tables_1 -/
def lw_okq (q : MethodName × Nat) : Prop := (q.1.cls ≠ "java/lang/invoke/MethodHandle" ∧ q.1.cls ≠ "java/lang/invoke/VarHandle") ∧ Cond.instantiable q.1.cls q.2 ∈ tables_1 ∧ Cond.privateMethod q.1 ∈ tables_1 ∧ Cond.instanceMethod q.1 ∈ tables_1
theorem lw_p0 : lw_okq (⟨"InclusionProver$Tree", "spellNode", "(IILInclusionProver$Text;I)V"⟩, 10) := ⟨⟨by decide +kernel, by decide +kernel⟩, List.mem_of_getElem? (i := 25) (by decide +kernel), List.mem_of_getElem? (i := 406) (by decide +kernel), List.mem_of_getElem? (i := 407) (by decide +kernel)⟩
theorem lw_p1 : lw_okq (⟨"InclusionProver$Tree", "spellChildren", "(IILInclusionProver$Text;I)V"⟩, 10) := ⟨⟨by decide +kernel, by decide +kernel⟩, List.mem_of_getElem? (i := 25) (by decide +kernel), List.mem_of_getElem? (i := 422) (by decide +kernel), List.mem_of_getElem? (i := 423) (by decide +kernel)⟩
theorem lw_p2 : lw_okq (⟨"InclusionProver$TermFinder", "pushFactors", "(I)V"⟩, 8) := ⟨⟨by decide +kernel, by decide +kernel⟩, List.mem_of_getElem? (i := 105) (by decide +kernel), List.mem_of_getElem? (i := 438) (by decide +kernel), List.mem_of_getElem? (i := 439) (by decide +kernel)⟩
theorem lw_p3 : lw_okq (⟨"InclusionProver$TermFinder", "push", "(I)V"⟩, 8) := ⟨⟨by decide +kernel, by decide +kernel⟩, List.mem_of_getElem? (i := 105) (by decide +kernel), List.mem_of_getElem? (i := 445) (by decide +kernel), List.mem_of_getElem? (i := 446) (by decide +kernel)⟩
theorem lw_p4 : lw_okq (⟨"InclusionProver$TermFinder", "numberOfTerm", "()I"⟩, 8) := ⟨⟨by decide +kernel, by decide +kernel⟩, List.mem_of_getElem? (i := 105) (by decide +kernel), List.mem_of_getElem? (i := 449) (by decide +kernel), List.mem_of_getElem? (i := 450) (by decide +kernel)⟩
theorem lw_p5 : lw_okq (⟨"InclusionProver$TermFinder", "isBehind", "(I)Z"⟩, 8) := ⟨⟨by decide +kernel, by decide +kernel⟩, List.mem_of_getElem? (i := 105) (by decide +kernel), List.mem_of_getElem? (i := 453) (by decide +kernel), List.mem_of_getElem? (i := 454) (by decide +kernel)⟩
theorem lw_p6 : lw_okq (⟨"InclusionProver$TermFinder", "tellTerm", "(ILInclusionProver$Side;)V"⟩, 8) := ⟨⟨by decide +kernel, by decide +kernel⟩, List.mem_of_getElem? (i := 105) (by decide +kernel), List.mem_of_getElem? (i := 457) (by decide +kernel), List.mem_of_getElem? (i := 458) (by decide +kernel)⟩
theorem lw_p7 : lw_okq (⟨"InclusionProver$TermFinder", "findParts", "(IILInclusionProver$Side;)V"⟩, 8) := ⟨⟨by decide +kernel, by decide +kernel⟩, List.mem_of_getElem? (i := 105) (by decide +kernel), List.mem_of_getElem? (i := 470) (by decide +kernel), List.mem_of_getElem? (i := 471) (by decide +kernel)⟩
theorem lw_p8 : lw_okq (⟨"InclusionProver$TermFinder", "gatherFactors", "(ILInclusionProver$Side;I)V"⟩, 8) := ⟨⟨by decide +kernel, by decide +kernel⟩, List.mem_of_getElem? (i := 105) (by decide +kernel), List.mem_of_getElem? (i := 478) (by decide +kernel), List.mem_of_getElem? (i := 479) (by decide +kernel)⟩
theorem lw_p9 : lw_okq (⟨"InclusionProver$TermFinder", "gatherNode", "(ILInclusionProver$Side;I)V"⟩, 8) := ⟨⟨by decide +kernel, by decide +kernel⟩, List.mem_of_getElem? (i := 105) (by decide +kernel), List.mem_of_getElem? (i := 482) (by decide +kernel), List.mem_of_getElem? (i := 483) (by decide +kernel)⟩
theorem lw_p10 : lw_okq (⟨"InclusionProver$Reader", "readSum", "(I)I"⟩, 5) := ⟨⟨by decide +kernel, by decide +kernel⟩, List.mem_of_getElem? (i := 82) (by decide +kernel), List.mem_of_getElem? (i := 571) (by decide +kernel), List.mem_of_getElem? (i := 572) (by decide +kernel)⟩
theorem lw_p11 : lw_okq (⟨"InclusionProver$Reader", "readProduct", "(I)I"⟩, 5) := ⟨⟨by decide +kernel, by decide +kernel⟩, List.mem_of_getElem? (i := 82) (by decide +kernel), List.mem_of_getElem? (i := 579) (by decide +kernel), List.mem_of_getElem? (i := 580) (by decide +kernel)⟩
theorem lw_p12 : lw_okq (⟨"InclusionProver$Reader", "readFactor", "(I)I"⟩, 5) := ⟨⟨by decide +kernel, by decide +kernel⟩, List.mem_of_getElem? (i := 82) (by decide +kernel), List.mem_of_getElem? (i := 583) (by decide +kernel), List.mem_of_getElem? (i := 584) (by decide +kernel)⟩
theorem lw_p13 : lw_okq (⟨"InclusionProver$Reader", "readAtom", "(I)I"⟩, 5) := ⟨⟨by decide +kernel, by decide +kernel⟩, List.mem_of_getElem? (i := 82) (by decide +kernel), List.mem_of_getElem? (i := 587) (by decide +kernel), List.mem_of_getElem? (i := 588) (by decide +kernel)⟩
theorem lw_p14 : lw_okq (⟨"InclusionProver$Reader", "next", "()I"⟩, 5) := ⟨⟨by decide +kernel, by decide +kernel⟩, List.mem_of_getElem? (i := 82) (by decide +kernel), List.mem_of_getElem? (i := 591) (by decide +kernel), List.mem_of_getElem? (i := 592) (by decide +kernel)⟩
theorem lw_p15 : lw_okq (⟨"InclusionProver$Tree", "push", "(I)V"⟩, 10) := ⟨⟨by decide +kernel, by decide +kernel⟩, List.mem_of_getElem? (i := 25) (by decide +kernel), List.mem_of_getElem? (i := 606) (by decide +kernel), List.mem_of_getElem? (i := 607) (by decide +kernel)⟩
def lw_privs_1 : List (MethodName × Nat) := [(⟨"InclusionProver$Tree", "spellNode", "(IILInclusionProver$Text;I)V"⟩, 10), (⟨"InclusionProver$Tree", "spellChildren", "(IILInclusionProver$Text;I)V"⟩, 10), (⟨"InclusionProver$TermFinder", "pushFactors", "(I)V"⟩, 8), (⟨"InclusionProver$TermFinder", "push", "(I)V"⟩, 8), (⟨"InclusionProver$TermFinder", "numberOfTerm", "()I"⟩, 8), (⟨"InclusionProver$TermFinder", "isBehind", "(I)Z"⟩, 8), (⟨"InclusionProver$TermFinder", "tellTerm", "(ILInclusionProver$Side;)V"⟩, 8), (⟨"InclusionProver$TermFinder", "findParts", "(IILInclusionProver$Side;)V"⟩, 8), (⟨"InclusionProver$TermFinder", "gatherFactors", "(ILInclusionProver$Side;I)V"⟩, 8), (⟨"InclusionProver$TermFinder", "gatherNode", "(ILInclusionProver$Side;I)V"⟩, 8), (⟨"InclusionProver$Reader", "readSum", "(I)I"⟩, 5), (⟨"InclusionProver$Reader", "readProduct", "(I)I"⟩, 5), (⟨"InclusionProver$Reader", "readFactor", "(I)I"⟩, 5), (⟨"InclusionProver$Reader", "readAtom", "(I)I"⟩, 5), (⟨"InclusionProver$Reader", "next", "()I"⟩, 5), (⟨"InclusionProver$Tree", "push", "(I)V"⟩, 10)]
theorem lw_r1 : ∀ q ∈ lw_privs_1, lw_okq q := List.forall_mem_cons.mpr ⟨lw_p0, List.forall_mem_cons.mpr ⟨lw_p1, List.forall_mem_cons.mpr ⟨lw_p2, List.forall_mem_cons.mpr ⟨lw_p3, List.forall_mem_cons.mpr ⟨lw_p4, List.forall_mem_cons.mpr ⟨lw_p5, List.forall_mem_cons.mpr ⟨lw_p6, List.forall_mem_cons.mpr ⟨lw_p7, List.forall_mem_cons.mpr ⟨lw_p8, List.forall_mem_cons.mpr ⟨lw_p9, List.forall_mem_cons.mpr ⟨lw_p10, List.forall_mem_cons.mpr ⟨lw_p11, List.forall_mem_cons.mpr ⟨lw_p12, List.forall_mem_cons.mpr ⟨lw_p13, List.forall_mem_cons.mpr ⟨lw_p14, List.forall_mem_cons.mpr ⟨lw_p15, fun _ h => absurd h List.not_mem_nil⟩⟩⟩⟩⟩⟩⟩⟩⟩⟩⟩⟩⟩⟩⟩⟩
theorem lw_p16 : lw_okq (⟨"InclusionProver$Tree", "nodeOf", "(II)I"⟩, 10) := ⟨⟨by decide +kernel, by decide +kernel⟩, List.mem_of_getElem? (i := 25) (by decide +kernel), List.mem_of_getElem? (i := 610) (by decide +kernel), List.mem_of_getElem? (i := 611) (by decide +kernel)⟩
theorem lw_p17 : lw_okq (⟨"InclusionProver$Tree", "hasChildren", "(II)Z"⟩, 10) := ⟨⟨by decide +kernel, by decide +kernel⟩, List.mem_of_getElem? (i := 25) (by decide +kernel), List.mem_of_getElem? (i := 614) (by decide +kernel), List.mem_of_getElem? (i := 615) (by decide +kernel)⟩
theorem lw_p18 : lw_okq (⟨"InclusionProver$Tree", "newNode", "(II)I"⟩, 10) := ⟨⟨by decide +kernel, by decide +kernel⟩, List.mem_of_getElem? (i := 25) (by decide +kernel), List.mem_of_getElem? (i := 618) (by decide +kernel), List.mem_of_getElem? (i := 619) (by decide +kernel)⟩
theorem lw_p19 : lw_okq (⟨"InclusionProver$Tree", "close", "(III)I"⟩, 10) := ⟨⟨by decide +kernel, by decide +kernel⟩, List.mem_of_getElem? (i := 25) (by decide +kernel), List.mem_of_getElem? (i := 632) (by decide +kernel), List.mem_of_getElem? (i := 633) (by decide +kernel)⟩
theorem lw_p20 : lw_okq (⟨"InclusionProver$Tree", "addOnce", "(II)V"⟩, 10) := ⟨⟨by decide +kernel, by decide +kernel⟩, List.mem_of_getElem? (i := 25) (by decide +kernel), List.mem_of_getElem? (i := 640) (by decide +kernel), List.mem_of_getElem? (i := 641) (by decide +kernel)⟩
theorem lw_p21 : lw_okq (⟨"InclusionProver", "faultOf", "(II)I"⟩, 11) := ⟨⟨by decide +kernel, by decide +kernel⟩, List.mem_of_getElem? (i := 17) (by decide +kernel), List.mem_of_getElem? (i := 648) (by decide +kernel), List.mem_of_getElem? (i := 649) (by decide +kernel)⟩
theorem lw_p22 : lw_okq (⟨"InclusionProver", "put", "(II)I"⟩, 11) := ⟨⟨by decide +kernel, by decide +kernel⟩, List.mem_of_getElem? (i := 17) (by decide +kernel), List.mem_of_getElem? (i := 653) (by decide +kernel), List.mem_of_getElem? (i := 654) (by decide +kernel)⟩
theorem lw_p23 : lw_okq (⟨"InclusionProver", "draftOf", "(ILInclusionProver$Text;LInclusionProver$Text;)V"⟩, 11) := ⟨⟨by decide +kernel, by decide +kernel⟩, List.mem_of_getElem? (i := 17) (by decide +kernel), List.mem_of_getElem? (i := 681) (by decide +kernel), List.mem_of_getElem? (i := 682) (by decide +kernel)⟩
theorem lw_p24 : lw_okq (⟨"InclusionProver$Side", "signsStart", "(I)I"⟩, 11) := ⟨⟨by decide +kernel, by decide +kernel⟩, List.mem_of_getElem? (i := 139) (by decide +kernel), List.mem_of_getElem? (i := 727) (by decide +kernel), List.mem_of_getElem? (i := 728) (by decide +kernel)⟩
theorem lw_p25 : lw_okq (⟨"InclusionProver$Side", "isAlike", "(ILInclusionProver$Side;I)Z"⟩, 11) := ⟨⟨by decide +kernel, by decide +kernel⟩, List.mem_of_getElem? (i := 139) (by decide +kernel), List.mem_of_getElem? (i := 752) (by decide +kernel), List.mem_of_getElem? (i := 753) (by decide +kernel)⟩
theorem lw_p26 : lw_okq (⟨"InclusionProver", "tapeIsWordOf", "(LInclusionProver$Side;)Z"⟩, 11) := ⟨⟨by decide +kernel, by decide +kernel⟩, List.mem_of_getElem? (i := 17) (by decide +kernel), List.mem_of_getElem? (i := 760) (by decide +kernel), List.mem_of_getElem? (i := 761) (by decide +kernel)⟩
theorem lw_p27 : lw_okq (⟨"InclusionProver$WordCounter", "begin", "(LInclusionProver$Side;LInclusionProver$Side;I)V"⟩, 7) := ⟨⟨by decide +kernel, by decide +kernel⟩, List.mem_of_getElem? (i := 327) (by decide +kernel), List.mem_of_getElem? (i := 779) (by decide +kernel), List.mem_of_getElem? (i := 780) (by decide +kernel)⟩
theorem lw_p28 : lw_okq (⟨"InclusionProver$WordCounter", "startLeft", "()I"⟩, 7) := ⟨⟨by decide +kernel, by decide +kernel⟩, List.mem_of_getElem? (i := 327) (by decide +kernel), List.mem_of_getElem? (i := 786) (by decide +kernel), List.mem_of_getElem? (i := 787) (by decide +kernel)⟩
theorem lw_p29 : lw_okq (⟨"InclusionProver$WordCounter", "startRight", "()I"⟩, 7) := ⟨⟨by decide +kernel, by decide +kernel⟩, List.mem_of_getElem? (i := 327) (by decide +kernel), List.mem_of_getElem? (i := 790) (by decide +kernel), List.mem_of_getElem? (i := 791) (by decide +kernel)⟩
theorem lw_p30 : lw_okq (⟨"InclusionProver$WordCounter", "countFrom", "(III)I"⟩, 7) := ⟨⟨by decide +kernel, by decide +kernel⟩, List.mem_of_getElem? (i := 327) (by decide +kernel), List.mem_of_getElem? (i := 794) (by decide +kernel), List.mem_of_getElem? (i := 795) (by decide +kernel)⟩
theorem lw_p31 : lw_okq (⟨"InclusionProver$WordCounter", "fits", "(ZZ)Z"⟩, 7) := ⟨⟨by decide +kernel, by decide +kernel⟩, List.mem_of_getElem? (i := 327) (by decide +kernel), List.mem_of_getElem? (i := 799) (by decide +kernel), List.mem_of_getElem? (i := 800) (by decide +kernel)⟩
def lw_privs_2 : List (MethodName × Nat) := [(⟨"InclusionProver$Tree", "nodeOf", "(II)I"⟩, 10), (⟨"InclusionProver$Tree", "hasChildren", "(II)Z"⟩, 10), (⟨"InclusionProver$Tree", "newNode", "(II)I"⟩, 10), (⟨"InclusionProver$Tree", "close", "(III)I"⟩, 10), (⟨"InclusionProver$Tree", "addOnce", "(II)V"⟩, 10), (⟨"InclusionProver", "faultOf", "(II)I"⟩, 11), (⟨"InclusionProver", "put", "(II)I"⟩, 11), (⟨"InclusionProver", "draftOf", "(ILInclusionProver$Text;LInclusionProver$Text;)V"⟩, 11), (⟨"InclusionProver$Side", "signsStart", "(I)I"⟩, 11), (⟨"InclusionProver$Side", "isAlike", "(ILInclusionProver$Side;I)Z"⟩, 11), (⟨"InclusionProver", "tapeIsWordOf", "(LInclusionProver$Side;)Z"⟩, 11), (⟨"InclusionProver$WordCounter", "begin", "(LInclusionProver$Side;LInclusionProver$Side;I)V"⟩, 7), (⟨"InclusionProver$WordCounter", "startLeft", "()I"⟩, 7), (⟨"InclusionProver$WordCounter", "startRight", "()I"⟩, 7), (⟨"InclusionProver$WordCounter", "countFrom", "(III)I"⟩, 7), (⟨"InclusionProver$WordCounter", "fits", "(ZZ)Z"⟩, 7)]
theorem lw_r2 : ∀ q ∈ lw_privs_2, lw_okq q := List.forall_mem_cons.mpr ⟨lw_p16, List.forall_mem_cons.mpr ⟨lw_p17, List.forall_mem_cons.mpr ⟨lw_p18, List.forall_mem_cons.mpr ⟨lw_p19, List.forall_mem_cons.mpr ⟨lw_p20, List.forall_mem_cons.mpr ⟨lw_p21, List.forall_mem_cons.mpr ⟨lw_p22, List.forall_mem_cons.mpr ⟨lw_p23, List.forall_mem_cons.mpr ⟨lw_p24, List.forall_mem_cons.mpr ⟨lw_p25, List.forall_mem_cons.mpr ⟨lw_p26, List.forall_mem_cons.mpr ⟨lw_p27, List.forall_mem_cons.mpr ⟨lw_p28, List.forall_mem_cons.mpr ⟨lw_p29, List.forall_mem_cons.mpr ⟨lw_p30, List.forall_mem_cons.mpr ⟨lw_p31, fun _ h => absurd h List.not_mem_nil⟩⟩⟩⟩⟩⟩⟩⟩⟩⟩⟩⟩⟩⟩⟩⟩
theorem lw_p32 : lw_okq (⟨"InclusionProver$WordCounter", "countBehind", "(IIII)I"⟩, 7) := ⟨⟨by decide +kernel, by decide +kernel⟩, List.mem_of_getElem? (i := 327) (by decide +kernel), List.mem_of_getElem? (i := 812) (by decide +kernel), List.mem_of_getElem? (i := 813) (by decide +kernel)⟩
theorem lw_p33 : lw_okq (⟨"InclusionProver$Search", "comeTo", "(IIII)I"⟩, 10) := ⟨⟨by decide +kernel, by decide +kernel⟩, List.mem_of_getElem? (i := 258) (by decide +kernel), List.mem_of_getElem? (i := 836) (by decide +kernel), List.mem_of_getElem? (i := 837) (by decide +kernel)⟩
theorem lw_p34 : lw_okq (⟨"InclusionProver$Search", "takeTurn", "(I)I"⟩, 10) := ⟨⟨by decide +kernel, by decide +kernel⟩, List.mem_of_getElem? (i := 258) (by decide +kernel), List.mem_of_getElem? (i := 845) (by decide +kernel), List.mem_of_getElem? (i := 846) (by decide +kernel)⟩
theorem lw_p35 : lw_okq (⟨"InclusionProver$Search", "tellApart", "(I)V"⟩, 10) := ⟨⟨by decide +kernel, by decide +kernel⟩, List.mem_of_getElem? (i := 258) (by decide +kernel), List.mem_of_getElem? (i := 850) (by decide +kernel), List.mem_of_getElem? (i := 851) (by decide +kernel)⟩
theorem lw_p36 : lw_okq (⟨"InclusionProver$Search", "step", "(III)Z"⟩, 10) := ⟨⟨by decide +kernel, by decide +kernel⟩, List.mem_of_getElem? (i := 258) (by decide +kernel), List.mem_of_getElem? (i := 859) (by decide +kernel), List.mem_of_getElem? (i := 860) (by decide +kernel)⟩
theorem lw_p37 : lw_okq (⟨"InclusionProver$Search", "lineFor", "(IIII)I"⟩, 10) := ⟨⟨by decide +kernel, by decide +kernel⟩, List.mem_of_getElem? (i := 258) (by decide +kernel), List.mem_of_getElem? (i := 877) (by decide +kernel), List.mem_of_getElem? (i := 878) (by decide +kernel)⟩
theorem lw_p38 : lw_okq (⟨"InclusionProver$Kernel", "reasonOf", "(I)I"⟩, 7) := ⟨⟨by decide +kernel, by decide +kernel⟩, List.mem_of_getElem? (i := 295) (by decide +kernel), List.mem_of_getElem? (i := 947) (by decide +kernel), List.mem_of_getElem? (i := 948) (by decide +kernel)⟩
theorem lw_p39 : lw_okq (⟨"InclusionProver$Kernel", "isMember", "(II)Z"⟩, 7) := ⟨⟨by decide +kernel, by decide +kernel⟩, List.mem_of_getElem? (i := 295) (by decide +kernel), List.mem_of_getElem? (i := 956) (by decide +kernel), List.mem_of_getElem? (i := 957) (by decide +kernel)⟩
theorem lw_p40 : lw_okq (⟨"InclusionProver$Kernel", "premisesAreLines", "(I)Z"⟩, 7) := ⟨⟨by decide +kernel, by decide +kernel⟩, List.mem_of_getElem? (i := 295) (by decide +kernel), List.mem_of_getElem? (i := 962) (by decide +kernel), List.mem_of_getElem? (i := 963) (by decide +kernel)⟩
theorem lw_p41 : lw_okq (⟨"InclusionProver$Kernel", "partsAreProved", "(III)Z"⟩, 7) := ⟨⟨by decide +kernel, by decide +kernel⟩, List.mem_of_getElem? (i := 295) (by decide +kernel), List.mem_of_getElem? (i := 968) (by decide +kernel), List.mem_of_getElem? (i := 969) (by decide +kernel)⟩
theorem lw_p42 : lw_okq (⟨"InclusionProver$Kernel", "hasPremiseFor", "(III)Z"⟩, 7) := ⟨⟨by decide +kernel, by decide +kernel⟩, List.mem_of_getElem? (i := 295) (by decide +kernel), List.mem_of_getElem? (i := 975) (by decide +kernel), List.mem_of_getElem? (i := 976) (by decide +kernel)⟩
theorem lw_p43 : lw_okq (⟨"InclusionProver$Kernel", "startsWell", "()Z"⟩, 7) := ⟨⟨by decide +kernel, by decide +kernel⟩, List.mem_of_getElem? (i := 295) (by decide +kernel), List.mem_of_getElem? (i := 979) (by decide +kernel), List.mem_of_getElem? (i := 980) (by decide +kernel)⟩
theorem lw_p44 : lw_okq (⟨"InclusionProver", "readSlot", "(I)I"⟩, 11) := ⟨⟨by decide +kernel, by decide +kernel⟩, List.mem_of_getElem? (i := 17) (by decide +kernel), List.mem_of_getElem? (i := 995) (by decide +kernel), List.mem_of_getElem? (i := 996) (by decide +kernel)⟩
theorem lw_p45 : lw_okq (⟨"InclusionProverModel", "zeroes", "(I)V"⟩, 46) := ⟨⟨by decide +kernel, by decide +kernel⟩, List.mem_of_getElem? (i := 1024) (by decide +kernel), List.mem_of_getElem? (i := 1032) (by decide +kernel), List.mem_of_getElem? (i := 1033) (by decide +kernel)⟩
theorem lw_p46 : lw_okq (⟨"InclusionProverModel", "laysBoth", "(II)V"⟩, 46) := ⟨⟨by decide +kernel, by decide +kernel⟩, List.mem_of_getElem? (i := 1024) (by decide +kernel), List.mem_of_getElem? (i := 1179) (by decide +kernel), List.mem_of_getElem? (i := 1180) (by decide +kernel)⟩
theorem lw_p47 : lw_okq (⟨"InclusionProverModel", "clears", "()V"⟩, 46) := ⟨⟨by decide +kernel, by decide +kernel⟩, List.mem_of_getElem? (i := 1024) (by decide +kernel), List.mem_of_getElem? (i := 1183) (by decide +kernel), List.mem_of_getElem? (i := 1184) (by decide +kernel)⟩
def lw_privs_3 : List (MethodName × Nat) := [(⟨"InclusionProver$WordCounter", "countBehind", "(IIII)I"⟩, 7), (⟨"InclusionProver$Search", "comeTo", "(IIII)I"⟩, 10), (⟨"InclusionProver$Search", "takeTurn", "(I)I"⟩, 10), (⟨"InclusionProver$Search", "tellApart", "(I)V"⟩, 10), (⟨"InclusionProver$Search", "step", "(III)Z"⟩, 10), (⟨"InclusionProver$Search", "lineFor", "(IIII)I"⟩, 10), (⟨"InclusionProver$Kernel", "reasonOf", "(I)I"⟩, 7), (⟨"InclusionProver$Kernel", "isMember", "(II)Z"⟩, 7), (⟨"InclusionProver$Kernel", "premisesAreLines", "(I)Z"⟩, 7), (⟨"InclusionProver$Kernel", "partsAreProved", "(III)Z"⟩, 7), (⟨"InclusionProver$Kernel", "hasPremiseFor", "(III)Z"⟩, 7), (⟨"InclusionProver$Kernel", "startsWell", "()Z"⟩, 7), (⟨"InclusionProver", "readSlot", "(I)I"⟩, 11), (⟨"InclusionProverModel", "zeroes", "(I)V"⟩, 46), (⟨"InclusionProverModel", "laysBoth", "(II)V"⟩, 46), (⟨"InclusionProverModel", "clears", "()V"⟩, 46)]
theorem lw_r3 : ∀ q ∈ lw_privs_3, lw_okq q := List.forall_mem_cons.mpr ⟨lw_p32, List.forall_mem_cons.mpr ⟨lw_p33, List.forall_mem_cons.mpr ⟨lw_p34, List.forall_mem_cons.mpr ⟨lw_p35, List.forall_mem_cons.mpr ⟨lw_p36, List.forall_mem_cons.mpr ⟨lw_p37, List.forall_mem_cons.mpr ⟨lw_p38, List.forall_mem_cons.mpr ⟨lw_p39, List.forall_mem_cons.mpr ⟨lw_p40, List.forall_mem_cons.mpr ⟨lw_p41, List.forall_mem_cons.mpr ⟨lw_p42, List.forall_mem_cons.mpr ⟨lw_p43, List.forall_mem_cons.mpr ⟨lw_p44, List.forall_mem_cons.mpr ⟨lw_p45, List.forall_mem_cons.mpr ⟨lw_p46, List.forall_mem_cons.mpr ⟨lw_p47, fun _ h => absurd h List.not_mem_nil⟩⟩⟩⟩⟩⟩⟩⟩⟩⟩⟩⟩⟩⟩⟩⟩
theorem lw_p48 : lw_okq (⟨"InclusionProverModel", "addsNode", "(II)I"⟩, 46) := ⟨⟨by decide +kernel, by decide +kernel⟩, List.mem_of_getElem? (i := 1024) (by decide +kernel), List.mem_of_getElem? (i := 1187) (by decide +kernel), List.mem_of_getElem? (i := 1188) (by decide +kernel)⟩
theorem lw_p49 : lw_okq (⟨"InclusionProverModel", "joins", "(III)V"⟩, 46) := ⟨⟨by decide +kernel, by decide +kernel⟩, List.mem_of_getElem? (i := 1024) (by decide +kernel), List.mem_of_getElem? (i := 1191) (by decide +kernel), List.mem_of_getElem? (i := 1192) (by decide +kernel)⟩
theorem lw_p50 : lw_okq (⟨"InclusionProverModel", "told", "([III)I"⟩, 46) := ⟨⟨by decide +kernel, by decide +kernel⟩, List.mem_of_getElem? (i := 1024) (by decide +kernel), List.mem_of_getElem? (i := 1195) (by decide +kernel), List.mem_of_getElem? (i := 1196) (by decide +kernel)⟩
theorem lw_p51 : lw_okq (⟨"InclusionProverModel", "opens", "()V"⟩, 46) := ⟨⟨by decide +kernel, by decide +kernel⟩, List.mem_of_getElem? (i := 1024) (by decide +kernel), List.mem_of_getElem? (i := 1199) (by decide +kernel), List.mem_of_getElem? (i := 1200) (by decide +kernel)⟩
theorem lw_p52 : lw_okq (⟨"InclusionProverModel", "addsFactor", "(I)V"⟩, 46) := ⟨⟨by decide +kernel, by decide +kernel⟩, List.mem_of_getElem? (i := 1024) (by decide +kernel), List.mem_of_getElem? (i := 1206) (by decide +kernel), List.mem_of_getElem? (i := 1207) (by decide +kernel)⟩
theorem lw_p53 : lw_okq (⟨"InclusionProverModel", "star", "(I)I"⟩, 46) := ⟨⟨by decide +kernel, by decide +kernel⟩, List.mem_of_getElem? (i := 1024) (by decide +kernel), List.mem_of_getElem? (i := 1210) (by decide +kernel), List.mem_of_getElem? (i := 1211) (by decide +kernel)⟩
theorem lw_p54 : lw_okq (⟨"InclusionProverModel", "kept", "(II)I"⟩, 46) := ⟨⟨by decide +kernel, by decide +kernel⟩, List.mem_of_getElem? (i := 1024) (by decide +kernel), List.mem_of_getElem? (i := 1214) (by decide +kernel), List.mem_of_getElem? (i := 1215) (by decide +kernel)⟩
theorem lw_p55 : lw_okq (⟨"InclusionProverModel", "endsProduct", "()V"⟩, 46) := ⟨⟨by decide +kernel, by decide +kernel⟩, List.mem_of_getElem? (i := 1024) (by decide +kernel), List.mem_of_getElem? (i := 1218) (by decide +kernel), List.mem_of_getElem? (i := 1219) (by decide +kernel)⟩
theorem lw_p56 : lw_okq (⟨"InclusionProverModel", "product", "([III)I"⟩, 46) := ⟨⟨by decide +kernel, by decide +kernel⟩, List.mem_of_getElem? (i := 1024) (by decide +kernel), List.mem_of_getElem? (i := 1222) (by decide +kernel), List.mem_of_getElem? (i := 1223) (by decide +kernel)⟩
theorem lw_p57 : lw_okq (⟨"InclusionProverModel", "notes", "(IZ)V"⟩, 46) := ⟨⟨by decide +kernel, by decide +kernel⟩, List.mem_of_getElem? (i := 1024) (by decide +kernel), List.mem_of_getElem? (i := 1226) (by decide +kernel), List.mem_of_getElem? (i := 1227) (by decide +kernel)⟩
theorem lw_p58 : lw_okq (⟨"InclusionProverModel", "endsSum", "()I"⟩, 46) := ⟨⟨by decide +kernel, by decide +kernel⟩, List.mem_of_getElem? (i := 1024) (by decide +kernel), List.mem_of_getElem? (i := 1230) (by decide +kernel), List.mem_of_getElem? (i := 1231) (by decide +kernel)⟩
theorem lw_p59 : lw_okq (⟨"InclusionProverModel", "sum", "([III)I"⟩, 46) := ⟨⟨by decide +kernel, by decide +kernel⟩, List.mem_of_getElem? (i := 1024) (by decide +kernel), List.mem_of_getElem? (i := 1234) (by decide +kernel), List.mem_of_getElem? (i := 1235) (by decide +kernel)⟩
theorem lw_p60 : lw_okq (⟨"InclusionProverModel", "laysTerms", "(II)V"⟩, 46) := ⟨⟨by decide +kernel, by decide +kernel⟩, List.mem_of_getElem? (i := 1024) (by decide +kernel), List.mem_of_getElem? (i := 1238) (by decide +kernel), List.mem_of_getElem? (i := 1239) (by decide +kernel)⟩
theorem lw_p61 : lw_okq (⟨"InclusionProverModel", "laysRow", "(III)V"⟩, 46) := ⟨⟨by decide +kernel, by decide +kernel⟩, List.mem_of_getElem? (i := 1024) (by decide +kernel), List.mem_of_getElem? (i := 1242) (by decide +kernel), List.mem_of_getElem? (i := 1243) (by decide +kernel)⟩
theorem lw_p62 : lw_okq (⟨"InclusionProverModel", "needs", "(II)V"⟩, 46) := ⟨⟨by decide +kernel, by decide +kernel⟩, List.mem_of_getElem? (i := 1024) (by decide +kernel), List.mem_of_getElem? (i := 1246) (by decide +kernel), List.mem_of_getElem? (i := 1247) (by decide +kernel)⟩
theorem lw_p63 : lw_okq (⟨"InclusionProverModel", "lacks", "(II)I"⟩, 46) := ⟨⟨by decide +kernel, by decide +kernel⟩, List.mem_of_getElem? (i := 1024) (by decide +kernel), List.mem_of_getElem? (i := 1250) (by decide +kernel), List.mem_of_getElem? (i := 1251) (by decide +kernel)⟩
def lw_privs_4 : List (MethodName × Nat) := [(⟨"InclusionProverModel", "addsNode", "(II)I"⟩, 46), (⟨"InclusionProverModel", "joins", "(III)V"⟩, 46), (⟨"InclusionProverModel", "told", "([III)I"⟩, 46), (⟨"InclusionProverModel", "opens", "()V"⟩, 46), (⟨"InclusionProverModel", "addsFactor", "(I)V"⟩, 46), (⟨"InclusionProverModel", "star", "(I)I"⟩, 46), (⟨"InclusionProverModel", "kept", "(II)I"⟩, 46), (⟨"InclusionProverModel", "endsProduct", "()V"⟩, 46), (⟨"InclusionProverModel", "product", "([III)I"⟩, 46), (⟨"InclusionProverModel", "notes", "(IZ)V"⟩, 46), (⟨"InclusionProverModel", "endsSum", "()I"⟩, 46), (⟨"InclusionProverModel", "sum", "([III)I"⟩, 46), (⟨"InclusionProverModel", "laysTerms", "(II)V"⟩, 46), (⟨"InclusionProverModel", "laysRow", "(III)V"⟩, 46), (⟨"InclusionProverModel", "needs", "(II)V"⟩, 46), (⟨"InclusionProverModel", "lacks", "(II)I"⟩, 46)]
theorem lw_r4 : ∀ q ∈ lw_privs_4, lw_okq q := List.forall_mem_cons.mpr ⟨lw_p48, List.forall_mem_cons.mpr ⟨lw_p49, List.forall_mem_cons.mpr ⟨lw_p50, List.forall_mem_cons.mpr ⟨lw_p51, List.forall_mem_cons.mpr ⟨lw_p52, List.forall_mem_cons.mpr ⟨lw_p53, List.forall_mem_cons.mpr ⟨lw_p54, List.forall_mem_cons.mpr ⟨lw_p55, List.forall_mem_cons.mpr ⟨lw_p56, List.forall_mem_cons.mpr ⟨lw_p57, List.forall_mem_cons.mpr ⟨lw_p58, List.forall_mem_cons.mpr ⟨lw_p59, List.forall_mem_cons.mpr ⟨lw_p60, List.forall_mem_cons.mpr ⟨lw_p61, List.forall_mem_cons.mpr ⟨lw_p62, List.forall_mem_cons.mpr ⟨lw_p63, fun _ h => absurd h List.not_mem_nil⟩⟩⟩⟩⟩⟩⟩⟩⟩⟩⟩⟩⟩⟩⟩⟩
theorem lw_p64 : lw_okq (⟨"InclusionProverModel", "behind", "(III)I"⟩, 46) := ⟨⟨by decide +kernel, by decide +kernel⟩, List.mem_of_getElem? (i := 1024) (by decide +kernel), List.mem_of_getElem? (i := 1254) (by decide +kernel), List.mem_of_getElem? (i := 1255) (by decide +kernel)⟩
theorem lw_p65 : lw_okq (⟨"InclusionProverModel", "laysParts", "(II)V"⟩, 46) := ⟨⟨by decide +kernel, by decide +kernel⟩, List.mem_of_getElem? (i := 1024) (by decide +kernel), List.mem_of_getElem? (i := 1258) (by decide +kernel), List.mem_of_getElem? (i := 1259) (by decide +kernel)⟩
theorem lw_p66 : lw_okq (⟨"InclusionProverModel", "lays", "(I)V"⟩, 46) := ⟨⟨by decide +kernel, by decide +kernel⟩, List.mem_of_getElem? (i := 1024) (by decide +kernel), List.mem_of_getElem? (i := 1262) (by decide +kernel), List.mem_of_getElem? (i := 1263) (by decide +kernel)⟩
theorem lw_p67 : lw_okq (⟨"InclusionProverModel", "partOf", "(III)I"⟩, 46) := ⟨⟨by decide +kernel, by decide +kernel⟩, List.mem_of_getElem? (i := 1024) (by decide +kernel), List.mem_of_getElem? (i := 1266) (by decide +kernel), List.mem_of_getElem? (i := 1267) (by decide +kernel)⟩
theorem lw_p68 : lw_okq (⟨"InclusionProverModel", "withStar", "(II)I"⟩, 46) := ⟨⟨by decide +kernel, by decide +kernel⟩, List.mem_of_getElem? (i := 1024) (by decide +kernel), List.mem_of_getElem? (i := 1270) (by decide +kernel), List.mem_of_getElem? (i := 1271) (by decide +kernel)⟩
theorem lw_p69 : lw_okq (⟨"InclusionProverModel", "termBy", "(II)I"⟩, 46) := ⟨⟨by decide +kernel, by decide +kernel⟩, List.mem_of_getElem? (i := 1024) (by decide +kernel), List.mem_of_getElem? (i := 1274) (by decide +kernel), List.mem_of_getElem? (i := 1275) (by decide +kernel)⟩
theorem lw_p70 : lw_okq (⟨"InclusionProverModel", "searches", "(I)I"⟩, 46) := ⟨⟨by decide +kernel, by decide +kernel⟩, List.mem_of_getElem? (i := 1024) (by decide +kernel), List.mem_of_getElem? (i := 1278) (by decide +kernel), List.mem_of_getElem? (i := 1279) (by decide +kernel)⟩
theorem lw_p71 : lw_okq (⟨"InclusionProverModel", "newLine", "(IIIII)V"⟩, 46) := ⟨⟨by decide +kernel, by decide +kernel⟩, List.mem_of_getElem? (i := 1024) (by decide +kernel), List.mem_of_getElem? (i := 1282) (by decide +kernel), List.mem_of_getElem? (i := 1283) (by decide +kernel)⟩
theorem lw_p72 : lw_okq (⟨"InclusionProverModel", "isMember", "(II)Z"⟩, 46) := ⟨⟨by decide +kernel, by decide +kernel⟩, List.mem_of_getElem? (i := 1024) (by decide +kernel), List.mem_of_getElem? (i := 1286) (by decide +kernel), List.mem_of_getElem? (i := 1287) (by decide +kernel)⟩
theorem lw_p73 : lw_okq (⟨"InclusionProverModel", "isFull", "(II)Z"⟩, 46) := ⟨⟨by decide +kernel, by decide +kernel⟩, List.mem_of_getElem? (i := 1024) (by decide +kernel), List.mem_of_getElem? (i := 1290) (by decide +kernel), List.mem_of_getElem? (i := 1291) (by decide +kernel)⟩
theorem lw_p74 : lw_okq (⟨"InclusionProverModel", "isFullSet", "(II)Z"⟩, 46) := ⟨⟨by decide +kernel, by decide +kernel⟩, List.mem_of_getElem? (i := 1024) (by decide +kernel), List.mem_of_getElem? (i := 1294) (by decide +kernel), List.mem_of_getElem? (i := 1295) (by decide +kernel)⟩
theorem lw_p75 : lw_okq (⟨"InclusionProverModel", "tellsWord", "(II)V"⟩, 46) := ⟨⟨by decide +kernel, by decide +kernel⟩, List.mem_of_getElem? (i := 1024) (by decide +kernel), List.mem_of_getElem? (i := 1298) (by decide +kernel), List.mem_of_getElem? (i := 1299) (by decide +kernel)⟩
theorem lw_p76 : lw_okq (⟨"InclusionProverModel", "steps", "(II)Z"⟩, 46) := ⟨⟨by decide +kernel, by decide +kernel⟩, List.mem_of_getElem? (i := 1024) (by decide +kernel), List.mem_of_getElem? (i := 1302) (by decide +kernel), List.mem_of_getElem? (i := 1303) (by decide +kernel)⟩
theorem lw_p77 : lw_okq (⟨"InclusionProverModel", "partsOf", "(III)I"⟩, 46) := ⟨⟨by decide +kernel, by decide +kernel⟩, List.mem_of_getElem? (i := 1024) (by decide +kernel), List.mem_of_getElem? (i := 1306) (by decide +kernel), List.mem_of_getElem? (i := 1307) (by decide +kernel)⟩
theorem lw_p78 : lw_okq (⟨"InclusionProverModel", "lineWith", "(III)I"⟩, 46) := ⟨⟨by decide +kernel, by decide +kernel⟩, List.mem_of_getElem? (i := 1024) (by decide +kernel), List.mem_of_getElem? (i := 1310) (by decide +kernel), List.mem_of_getElem? (i := 1311) (by decide +kernel)⟩
theorem lw_p79 : lw_okq (⟨"InclusionProverModel", "tried", "(II)I"⟩, 46) := ⟨⟨by decide +kernel, by decide +kernel⟩, List.mem_of_getElem? (i := 1024) (by decide +kernel), List.mem_of_getElem? (i := 1318) (by decide +kernel), List.mem_of_getElem? (i := 1319) (by decide +kernel)⟩
def lw_privs_5 : List (MethodName × Nat) := [(⟨"InclusionProverModel", "behind", "(III)I"⟩, 46), (⟨"InclusionProverModel", "laysParts", "(II)V"⟩, 46), (⟨"InclusionProverModel", "lays", "(I)V"⟩, 46), (⟨"InclusionProverModel", "partOf", "(III)I"⟩, 46), (⟨"InclusionProverModel", "withStar", "(II)I"⟩, 46), (⟨"InclusionProverModel", "termBy", "(II)I"⟩, 46), (⟨"InclusionProverModel", "searches", "(I)I"⟩, 46), (⟨"InclusionProverModel", "newLine", "(IIIII)V"⟩, 46), (⟨"InclusionProverModel", "isMember", "(II)Z"⟩, 46), (⟨"InclusionProverModel", "isFull", "(II)Z"⟩, 46), (⟨"InclusionProverModel", "isFullSet", "(II)Z"⟩, 46), (⟨"InclusionProverModel", "tellsWord", "(II)V"⟩, 46), (⟨"InclusionProverModel", "steps", "(II)Z"⟩, 46), (⟨"InclusionProverModel", "partsOf", "(III)I"⟩, 46), (⟨"InclusionProverModel", "lineWith", "(III)I"⟩, 46), (⟨"InclusionProverModel", "tried", "(II)I"⟩, 46)]
theorem lw_r5 : ∀ q ∈ lw_privs_5, lw_okq q := List.forall_mem_cons.mpr ⟨lw_p64, List.forall_mem_cons.mpr ⟨lw_p65, List.forall_mem_cons.mpr ⟨lw_p66, List.forall_mem_cons.mpr ⟨lw_p67, List.forall_mem_cons.mpr ⟨lw_p68, List.forall_mem_cons.mpr ⟨lw_p69, List.forall_mem_cons.mpr ⟨lw_p70, List.forall_mem_cons.mpr ⟨lw_p71, List.forall_mem_cons.mpr ⟨lw_p72, List.forall_mem_cons.mpr ⟨lw_p73, List.forall_mem_cons.mpr ⟨lw_p74, List.forall_mem_cons.mpr ⟨lw_p75, List.forall_mem_cons.mpr ⟨lw_p76, List.forall_mem_cons.mpr ⟨lw_p77, List.forall_mem_cons.mpr ⟨lw_p78, List.forall_mem_cons.mpr ⟨lw_p79, fun _ h => absurd h List.not_mem_nil⟩⟩⟩⟩⟩⟩⟩⟩⟩⟩⟩⟩⟩⟩⟩⟩
theorem lw_p80 : lw_okq (⟨"InclusionProverModel", "isTold", "(I)Z"⟩, 46) := ⟨⟨by decide +kernel, by decide +kernel⟩, List.mem_of_getElem? (i := 1024) (by decide +kernel), List.mem_of_getElem? (i := 1352) (by decide +kernel), List.mem_of_getElem? (i := 1353) (by decide +kernel)⟩
theorem lw_p81 : lw_okq (⟨"InclusionProverModel", "bad", "()I"⟩, 46) := ⟨⟨by decide +kernel, by decide +kernel⟩, List.mem_of_getElem? (i := 1024) (by decide +kernel), List.mem_of_getElem? (i := 1360) (by decide +kernel), List.mem_of_getElem? (i := 1361) (by decide +kernel)⟩
theorem lw_p82 : lw_okq (⟨"InclusionProverModel", "reason", "(I)I"⟩, 46) := ⟨⟨by decide +kernel, by decide +kernel⟩, List.mem_of_getElem? (i := 1024) (by decide +kernel), List.mem_of_getElem? (i := 1364) (by decide +kernel), List.mem_of_getElem? (i := 1365) (by decide +kernel)⟩
theorem lw_p83 : lw_okq (⟨"InclusionProverModel", "hasPremise", "(III)Z"⟩, 46) := ⟨⟨by decide +kernel, by decide +kernel⟩, List.mem_of_getElem? (i := 1024) (by decide +kernel), List.mem_of_getElem? (i := 1368) (by decide +kernel), List.mem_of_getElem? (i := 1369) (by decide +kernel)⟩
theorem lw_p84 : lw_okq (⟨"InclusionProverModel", "becomes", "(II)I"⟩, 46) := ⟨⟨by decide +kernel, by decide +kernel⟩, List.mem_of_getElem? (i := 1024) (by decide +kernel), List.mem_of_getElem? (i := 1388) (by decide +kernel), List.mem_of_getElem? (i := 1389) (by decide +kernel)⟩
theorem lw_p85 : lw_okq (⟨"InclusionProverModel", "spells", "(I)V"⟩, 46) := ⟨⟨by decide +kernel, by decide +kernel⟩, List.mem_of_getElem? (i := 1024) (by decide +kernel), List.mem_of_getElem? (i := 1392) (by decide +kernel), List.mem_of_getElem? (i := 1393) (by decide +kernel)⟩
theorem lw_p86 : lw_okq (⟨"InclusionProverModel", "pushes", "(II)V"⟩, 46) := ⟨⟨by decide +kernel, by decide +kernel⟩, List.mem_of_getElem? (i := 1024) (by decide +kernel), List.mem_of_getElem? (i := 1396) (by decide +kernel), List.mem_of_getElem? (i := 1397) (by decide +kernel)⟩
theorem lw_p87 : lw_okq (⟨"InclusionProverModel", "spellsOne", "(II)V"⟩, 46) := ⟨⟨by decide +kernel, by decide +kernel⟩, List.mem_of_getElem? (i := 1024) (by decide +kernel), List.mem_of_getElem? (i := 1400) (by decide +kernel), List.mem_of_getElem? (i := 1401) (by decide +kernel)⟩
theorem lw_p88 : lw_okq (⟨"InclusionProverModel", "pushesByte", "(I)V"⟩, 46) := ⟨⟨by decide +kernel, by decide +kernel⟩, List.mem_of_getElem? (i := 1024) (by decide +kernel), List.mem_of_getElem? (i := 1404) (by decide +kernel), List.mem_of_getElem? (i := 1405) (by decide +kernel)⟩
theorem lw_p89 : lw_okq (⟨"InclusionProverModel", "forgets", "(I)V"⟩, 46) := ⟨⟨by decide +kernel, by decide +kernel⟩, List.mem_of_getElem? (i := 1024) (by decide +kernel), List.mem_of_getElem? (i := 1408) (by decide +kernel), List.mem_of_getElem? (i := 1409) (by decide +kernel)⟩
theorem lw_p90 : lw_okq (⟨"InclusionProverModel", "copies", "(III)V"⟩, 46) := ⟨⟨by decide +kernel, by decide +kernel⟩, List.mem_of_getElem? (i := 1024) (by decide +kernel), List.mem_of_getElem? (i := 1420) (by decide +kernel), List.mem_of_getElem? (i := 1421) (by decide +kernel)⟩
theorem lw_p91 : lw_okq (⟨"InclusionProverModel", "spelled", "(I)I"⟩, 46) := ⟨⟨by decide +kernel, by decide +kernel⟩, List.mem_of_getElem? (i := 1024) (by decide +kernel), List.mem_of_getElem? (i := 1436) (by decide +kernel), List.mem_of_getElem? (i := 1437) (by decide +kernel)⟩
theorem lw_p92 : lw_okq (⟨"InclusionProverModel", "byteAt", "(I)I"⟩, 46) := ⟨⟨by decide +kernel, by decide +kernel⟩, List.mem_of_getElem? (i := 1024) (by decide +kernel), List.mem_of_getElem? (i := 1440) (by decide +kernel), List.mem_of_getElem? (i := 1441) (by decide +kernel)⟩
theorem lw_p93 : lw_okq (⟨"InclusionProverModel", "listed", "(III)I"⟩, 46) := ⟨⟨by decide +kernel, by decide +kernel⟩, List.mem_of_getElem? (i := 1024) (by decide +kernel), List.mem_of_getElem? (i := 1460) (by decide +kernel), List.mem_of_getElem? (i := 1461) (by decide +kernel)⟩
theorem lw_p94 : lw_okq (⟨"InclusionProverModel", "isOne", "(II)Z"⟩, 46) := ⟨⟨by decide +kernel, by decide +kernel⟩, List.mem_of_getElem? (i := 1024) (by decide +kernel), List.mem_of_getElem? (i := 1464) (by decide +kernel), List.mem_of_getElem? (i := 1465) (by decide +kernel)⟩
theorem lw_p95 : lw_okq (⟨"InclusionProverModel", "isWord", "(II)Z"⟩, 46) := ⟨⟨by decide +kernel, by decide +kernel⟩, List.mem_of_getElem? (i := 1024) (by decide +kernel), List.mem_of_getElem? (i := 1468) (by decide +kernel), List.mem_of_getElem? (i := 1469) (by decide +kernel)⟩
def lw_privs_6 : List (MethodName × Nat) := [(⟨"InclusionProverModel", "isTold", "(I)Z"⟩, 46), (⟨"InclusionProverModel", "bad", "()I"⟩, 46), (⟨"InclusionProverModel", "reason", "(I)I"⟩, 46), (⟨"InclusionProverModel", "hasPremise", "(III)Z"⟩, 46), (⟨"InclusionProverModel", "becomes", "(II)I"⟩, 46), (⟨"InclusionProverModel", "spells", "(I)V"⟩, 46), (⟨"InclusionProverModel", "pushes", "(II)V"⟩, 46), (⟨"InclusionProverModel", "spellsOne", "(II)V"⟩, 46), (⟨"InclusionProverModel", "pushesByte", "(I)V"⟩, 46), (⟨"InclusionProverModel", "forgets", "(I)V"⟩, 46), (⟨"InclusionProverModel", "copies", "(III)V"⟩, 46), (⟨"InclusionProverModel", "spelled", "(I)I"⟩, 46), (⟨"InclusionProverModel", "byteAt", "(I)I"⟩, 46), (⟨"InclusionProverModel", "listed", "(III)I"⟩, 46), (⟨"InclusionProverModel", "isOne", "(II)Z"⟩, 46), (⟨"InclusionProverModel", "isWord", "(II)Z"⟩, 46)]
theorem lw_r6 : ∀ q ∈ lw_privs_6, lw_okq q := List.forall_mem_cons.mpr ⟨lw_p80, List.forall_mem_cons.mpr ⟨lw_p81, List.forall_mem_cons.mpr ⟨lw_p82, List.forall_mem_cons.mpr ⟨lw_p83, List.forall_mem_cons.mpr ⟨lw_p84, List.forall_mem_cons.mpr ⟨lw_p85, List.forall_mem_cons.mpr ⟨lw_p86, List.forall_mem_cons.mpr ⟨lw_p87, List.forall_mem_cons.mpr ⟨lw_p88, List.forall_mem_cons.mpr ⟨lw_p89, List.forall_mem_cons.mpr ⟨lw_p90, List.forall_mem_cons.mpr ⟨lw_p91, List.forall_mem_cons.mpr ⟨lw_p92, List.forall_mem_cons.mpr ⟨lw_p93, List.forall_mem_cons.mpr ⟨lw_p94, List.forall_mem_cons.mpr ⟨lw_p95, fun _ h => absurd h List.not_mem_nil⟩⟩⟩⟩⟩⟩⟩⟩⟩⟩⟩⟩⟩⟩⟩⟩
theorem lw_p96 : lw_okq (⟨"InclusionProverModel", "number", "(I)I"⟩, 46) := ⟨⟨by decide +kernel, by decide +kernel⟩, List.mem_of_getElem? (i := 1024) (by decide +kernel), List.mem_of_getElem? (i := 1472) (by decide +kernel), List.mem_of_getElem? (i := 1473) (by decide +kernel)⟩
theorem lw_p97 : lw_okq (⟨"InclusionProverModel", "goesOn", "(I)Z"⟩, 46) := ⟨⟨by decide +kernel, by decide +kernel⟩, List.mem_of_getElem? (i := 1024) (by decide +kernel), List.mem_of_getElem? (i := 1476) (by decide +kernel), List.mem_of_getElem? (i := 1477) (by decide +kernel)⟩
def lw_privs_7 : List (MethodName × Nat) := [(⟨"InclusionProverModel", "number", "(I)I"⟩, 46), (⟨"InclusionProverModel", "goesOn", "(I)Z"⟩, 46)]
theorem lw_r7 : ∀ q ∈ lw_privs_7, lw_okq q := List.forall_mem_cons.mpr ⟨lw_p96, List.forall_mem_cons.mpr ⟨lw_p97, fun _ h => absurd h List.not_mem_nil⟩⟩
def lw_privs : List (MethodName × Nat) := lw_privs_1 ++ (lw_privs_2 ++ (lw_privs_3 ++ (lw_privs_4 ++ (lw_privs_5 ++ (lw_privs_6 ++ (lw_privs_7))))))
def lw_tbl : List Cond := k2_sels lw_privs ++ tables_1
theorem lw_privs_ok : ∀ q ∈ lw_privs, lw_okq q := by
  show ∀ q ∈ lw_privs_1 ++ (lw_privs_2 ++ (lw_privs_3 ++ (lw_privs_4 ++ (lw_privs_5 ++ (lw_privs_6 ++ (lw_privs_7)))))), lw_okq q
  exact List.forall_mem_append.mpr ⟨lw_r1, List.forall_mem_append.mpr ⟨lw_r2, List.forall_mem_append.mpr ⟨lw_r3, List.forall_mem_append.mpr ⟨lw_r4, List.forall_mem_append.mpr ⟨lw_r5, List.forall_mem_append.mpr ⟨lw_r6, lw_r7⟩⟩⟩⟩⟩⟩
end
section
/-! ===== BEGIN words of one list among another's, by their places ===== -/
theorem goodIn_r {big : List Cond} (ws : List Cond) (ps : List Nat) (hp : ws = ps.filterMap (fun i => big[i]?)) (h : ws.all goodWord = true) : GoodIn big ws := by
  intro w hw
  have h1 := List.all_eq_true.mp h w hw
  rw [hp] at hw
  obtain ⟨i, -, hi⟩ := List.mem_filterMap.mp hw
  have hm : w ∈ big := by first | exact List.mem_of_getElem? hi | exact List.getElem?_mem hi
  exact ⟨hm, good_of_word h1⟩
theorem goodIn_app {big a b : List Cond} (ha : GoodIn big a) (hb : GoodIn big b) : GoodIn big (a ++ b) := fun w h => (List.mem_append.mp h).elim (ha w) (hb w)
theorem goodIn_ca {big a b : List Cond} {c : Cond} (ha : GoodIn big (c :: a)) (hb : GoodIn big b) : GoodIn big (c :: (a ++ b)) := fun w h => (List.mem_cons.mp h).elim (fun e => ha w (List.mem_cons.mpr (Or.inl e))) (fun h => (List.mem_append.mp h).elim (fun h => ha w (List.mem_cons.mpr (Or.inr h))) (hb w))
theorem goodIn_sub {big ws : List Cond} (hm : ∀ w ∈ ws, w ∈ big) (h : ws.all goodWord = true) : GoodIn big ws := fun w hw => ⟨hm w hw, good_of_word (List.all_eq_true.mp h w hw)⟩
/-! ===== END ===== -/

/-! ===== BEGIN printed: names, fields, word lists, decode rows ===== -/
def RX0 : String := "InclusionProver$Kernel"
def TX0 : u_T := fun k => match k with
  | 0 => ("InclusionProver$Kernel", "left", "LInclusionProver$Side;", false)
  | 1 => ("InclusionProver$Kernel", "right", "LInclusionProver$Side;", false)
  | 2 => ("InclusionProver$Kernel", "lines", "LInclusionProver$Lines;", false)
  | 3 => ("InclusionProver$Kernel", "bad", "I", false)
  | 4 => ("InclusionProver$Kernel", "reason", "I", false)
  | 5 => ("InclusionProver$Kernel", "letter", "I", false)
  | _ => ("InclusionProver$Kernel", "detail", "I", false)
def tyX0 : Nat → FieldType := fun k => match k with
  | 0 => .object "InclusionProver$Side"
  | 1 => .object "InclusionProver$Side"
  | 2 => .object "InclusionProver$Lines"
  | 3 => .int
  | 4 => .int
  | 5 => .int
  | _ => .int
abbrev wsX00 : List Cond := u_ws RX0 TX0 7
theorem nmX0 : ∀ a, a < 7 → ∀ b, b < 7 → a ≠ b → (TX0 a).2.1 ≠ (TX0 b).2.1 := by decide +kernel
theorem tyX0_ok : ∀ k, k < 7 → parseFieldDescriptor (TX0 k).2.2.1 = some (tyX0 k) := by decide +kernel
abbrev cX0_init : ByteArray := prog_2_method_1_code
def yX0_init : MethodName := ⟨RX0, "<init>", "(LInclusionProver$Side;LInclusionProver$Side;LInclusionProver$Lines;)V"⟩
abbrev cX0_look : ByteArray := prog_2_method_2_code
def yX0_look : MethodName := ⟨RX0, "look", "(LInclusionProver$Side;LInclusionProver$Side;LInclusionProver$Lines;)V"⟩
abbrev cX0_startsWell : ByteArray := prog_2_method_3_code
def yX0_startsWell : MethodName := ⟨RX0, "startsWell", "()Z"⟩
abbrev cX0_reasonOf : ByteArray := prog_2_method_4_code
def yX0_reasonOf : MethodName := ⟨RX0, "reasonOf", "(I)I"⟩
abbrev cX0_isMember : ByteArray := prog_2_method_5_code
def yX0_isMember : MethodName := ⟨RX0, "isMember", "(II)Z"⟩
abbrev cX0_premisesAreLines : ByteArray := prog_2_method_6_code
def yX0_premisesAreLines : MethodName := ⟨RX0, "premisesAreLines", "(I)Z"⟩
abbrev cX0_partsAreProved : ByteArray := prog_2_method_7_code
def yX0_partsAreProved : MethodName := ⟨RX0, "partsAreProved", "(III)Z"⟩
abbrev cX0_hasPremiseFor : ByteArray := prog_2_method_8_code
def yX0_hasPremiseFor : MethodName := ⟨RX0, "hasPremiseFor", "(III)Z"⟩
def RX1 : String := "InclusionProver$Lines"
def TX1 : u_T := fun k => match k with
  | 0 => ("InclusionProver$Lines", "goal", "[I", true)
  | 1 => ("InclusionProver$Lines", "set", "[I", true)
  | 2 => ("InclusionProver$Lines", "rule", "[I", true)
  | 3 => ("InclusionProver$Lines", "from", "[I", true)
  | 4 => ("InclusionProver$Lines", "number", "[I", true)
  | 5 => ("InclusionProver$Lines", "premise", "[I", true)
  | 6 => ("InclusionProver$Lines", "apartWord", "LInclusionProver$Text;", true)
  | 7 => ("InclusionProver$Lines", "uses", "[I", true)
  | 8 => ("InclusionProver$Lines", "size", "I", false)
  | 9 => ("InclusionProver$Lines", "premises", "I", false)
  | 10 => ("InclusionProver$Lines", "longest", "I", false)
  | _ => ("InclusionProver$Lines", "separated", "Z", false)
def tyX1 : Nat → FieldType := fun k => match k with
  | 0 => .array .int
  | 1 => .array .int
  | 2 => .array .int
  | 3 => .array .int
  | 4 => .array .int
  | 5 => .array .int
  | 6 => .object "InclusionProver$Text"
  | 7 => .array .int
  | 8 => .int
  | 9 => .int
  | 10 => .int
  | _ => .boolean
abbrev wsX10 : List Cond := u_ws RX1 TX1 12
theorem nmX1 : ∀ a, a < 12 → ∀ b, b < 12 → a ≠ b → (TX1 a).2.1 ≠ (TX1 b).2.1 := by decide +kernel
theorem tyX1_ok : ∀ k, k < 12 → parseFieldDescriptor (TX1 k).2.2.1 = some (tyX1 k) := by decide +kernel
abbrev cX1_init : ByteArray := prog_3_method_1_code
def yX1_init : MethodName := ⟨RX1, "<init>", "()V"⟩
abbrev cX1_clear : ByteArray := prog_3_method_2_code
def yX1_clear : MethodName := ⟨RX1, "clear", "()V"⟩
abbrev cX1_isLine : ByteArray := prog_3_method_3_code
def yX1_isLine : MethodName := ⟨RX1, "isLine", "(I)Z"⟩
abbrev cX1_isPremise : ByteArray := prog_3_method_4_code
def yX1_isPremise : MethodName := ⟨RX1, "isPremise", "(II)Z"⟩
abbrev cX1_premiseOf : ByteArray := prog_3_method_5_code
def yX1_premiseOf : MethodName := ⟨RX1, "premiseOf", "(II)I"⟩
abbrev cX1_addLine : ByteArray := prog_3_method_6_code
def yX1_addLine : MethodName := ⟨RX1, "addLine", "(II)I"⟩
abbrev cX1_openPremises : ByteArray := prog_3_method_7_code
def yX1_openPremises : MethodName := ⟨RX1, "openPremises", "(I)V"⟩
abbrev cX1_addPremise : ByteArray := prog_3_method_8_code
def yX1_addPremise : MethodName := ⟨RX1, "addPremise", "(II)V"⟩
abbrev cX1_dropPremises : ByteArray := prog_3_method_9_code
def yX1_dropPremises : MethodName := ⟨RX1, "dropPremises", "(I)V"⟩
abbrev cX1_dropLast : ByteArray := prog_3_method_10_code
def yX1_dropLast : MethodName := ⟨RX1, "dropLast", "()I"⟩
abbrev cX1_ofRule : ByteArray := prog_3_method_11_code
def yX1_ofRule : MethodName := ⟨RX1, "ofRule", "(I)I"⟩
abbrev cX1_premisesOfNone : ByteArray := prog_3_method_12_code
def yX1_premisesOfNone : MethodName := ⟨RX1, "premisesOfNone", "()I"⟩
abbrev cX1_become : ByteArray := prog_3_method_13_code
def yX1_become : MethodName := ⟨RX1, "become", "(LInclusionProver$Lines;)V"⟩
def RX2 : String := "InclusionProver$Reader"
def TX2 : u_T := fun k => match k with
  | 0 => ("InclusionProver$Reader", "tree", "LInclusionProver$Tree;", true)
  | 1 => ("InclusionProver$Reader", "text", "LInclusionProver$Text;", false)
  | 2 => ("InclusionProver$Reader", "limit", "I", false)
  | 3 => ("InclusionProver$Reader", "place", "I", false)
  | _ => ("InclusionProver$Reader", "fault", "I", false)
def tyX2 : Nat → FieldType := fun k => match k with
  | 0 => .object "InclusionProver$Tree"
  | 1 => .object "InclusionProver$Text"
  | 2 => .int
  | 3 => .int
  | _ => .int
abbrev wsX20 : List Cond := u_ws RX2 TX2 5
theorem nmX2 : ∀ a, a < 5 → ∀ b, b < 5 → a ≠ b → (TX2 a).2.1 ≠ (TX2 b).2.1 := by decide +kernel
theorem tyX2_ok : ∀ k, k < 5 → parseFieldDescriptor (TX2 k).2.2.1 = some (tyX2 k) := by decide +kernel
abbrev cX2_init : ByteArray := prog_4_method_1_code
def yX2_init : MethodName := ⟨RX2, "<init>", "(LInclusionProver$Tree;LInclusionProver$Text;)V"⟩
abbrev cX2_read : ByteArray := prog_4_method_2_code
def yX2_read : MethodName := ⟨RX2, "read", "(LInclusionProver$Text;I)I"⟩
abbrev cX2_readSum : ByteArray := prog_4_method_3_code
def yX2_readSum : MethodName := ⟨RX2, "readSum", "(I)I"⟩
abbrev cX2_readProduct : ByteArray := prog_4_method_4_code
def yX2_readProduct : MethodName := ⟨RX2, "readProduct", "(I)I"⟩
abbrev cX2_readFactor : ByteArray := prog_4_method_5_code
def yX2_readFactor : MethodName := ⟨RX2, "readFactor", "(I)I"⟩
abbrev cX2_readAtom : ByteArray := prog_4_method_6_code
def yX2_readAtom : MethodName := ⟨RX2, "readAtom", "(I)I"⟩
abbrev cX2_next : ByteArray := prog_4_method_7_code
def yX2_next : MethodName := ⟨RX2, "next", "()I"⟩
abbrev cX2_beginsAtom : ByteArray := prog_4_method_8_code
def yX2_beginsAtom : MethodName := ⟨RX2, "beginsAtom", "(I)Z"⟩
def RX3 : String := "InclusionProver$Room"
def TX3 : u_T := fun k => match k with
  | 0 => ("InclusionProver$Room", "tape", "LInclusionProver$Text;", true)
  | 1 => ("InclusionProver$Room", "sides", "[LInclusionProver$Side;", true)
  | 2 => ("InclusionProver$Room", "slots", "[LInclusionProver$Text;", true)
  | 3 => ("InclusionProver$Room", "lines", "LInclusionProver$Lines;", true)
  | _ => ("InclusionProver$Room", "fault", "I", false)
def tyX3 : Nat → FieldType := fun k => match k with
  | 0 => .object "InclusionProver$Text"
  | 1 => .array (.object "InclusionProver$Side")
  | 2 => .array (.object "InclusionProver$Text")
  | 3 => .object "InclusionProver$Lines"
  | _ => .int
abbrev wsX30 : List Cond := u_ws RX3 TX3 5
theorem nmX3 : ∀ a, a < 5 → ∀ b, b < 5 → a ≠ b → (TX3 a).2.1 ≠ (TX3 b).2.1 := by decide +kernel
theorem tyX3_ok : ∀ k, k < 5 → parseFieldDescriptor (TX3 k).2.2.1 = some (tyX3 k) := by decide +kernel
abbrev cX3_init : ByteArray := prog_5_method_1_code
def yX3_init : MethodName := ⟨RX3, "<init>", "()V"⟩
abbrev cX3_become : ByteArray := prog_5_method_2_code
def yX3_become : MethodName := ⟨RX3, "become", "(LInclusionProver$Room;)V"⟩
def RX4 : String := "InclusionProver$Search"
def TX4 : u_T := fun k => match k with
  | 0 => ("InclusionProver$Search", "parent", "[I", true)
  | 1 => ("InclusionProver$Search", "letterBy", "[I", true)
  | 2 => ("InclusionProver$Search", "wordSize", "[I", true)
  | 3 => ("InclusionProver$Search", "firstOf", "[I", true)
  | 4 => ("InclusionProver$Search", "lastOf", "[I", true)
  | 5 => ("InclusionProver$Search", "nextOf", "[I", true)
  | 6 => ("InclusionProver$Search", "alike", "[I", true)
  | 7 => ("InclusionProver$Search", "left", "LInclusionProver$Side;", false)
  | 8 => ("InclusionProver$Search", "right", "LInclusionProver$Side;", false)
  | _ => ("InclusionProver$Search", "lines", "LInclusionProver$Lines;", false)
def tyX4 : Nat → FieldType := fun k => match k with
  | 0 => .array .int
  | 1 => .array .int
  | 2 => .array .int
  | 3 => .array .int
  | 4 => .array .int
  | 5 => .array .int
  | 6 => .array .int
  | 7 => .object "InclusionProver$Side"
  | 8 => .object "InclusionProver$Side"
  | _ => .object "InclusionProver$Lines"
abbrev wsX40 : List Cond := u_ws RX4 TX4 10
theorem nmX4 : ∀ a, a < 10 → ∀ b, b < 10 → a ≠ b → (TX4 a).2.1 ≠ (TX4 b).2.1 := by decide +kernel
theorem tyX4_ok : ∀ k, k < 10 → parseFieldDescriptor (TX4 k).2.2.1 = some (tyX4 k) := by decide +kernel
abbrev cX4_init : ByteArray := prog_6_method_1_code
def yX4_init : MethodName := ⟨RX4, "<init>", "(LInclusionProver$Side;LInclusionProver$Side;LInclusionProver$Lines;)V"⟩
abbrev cX4_run : ByteArray := prog_6_method_2_code
def yX4_run : MethodName := ⟨RX4, "run", "(LInclusionProver$Side;LInclusionProver$Side;LInclusionProver$Lines;)I"⟩
abbrev cX4_takeTurn : ByteArray := prog_6_method_3_code
def yX4_takeTurn : MethodName := ⟨RX4, "takeTurn", "(I)I"⟩
abbrev cX4_step : ByteArray := prog_6_method_4_code
def yX4_step : MethodName := ⟨RX4, "step", "(III)Z"⟩
abbrev cX4_lineFor : ByteArray := prog_6_method_5_code
def yX4_lineFor : MethodName := ⟨RX4, "lineFor", "(IIII)I"⟩
abbrev cX4_comeTo : ByteArray := prog_6_method_6_code
def yX4_comeTo : MethodName := ⟨RX4, "comeTo", "(IIII)I"⟩
abbrev cX4_tellApart : ByteArray := prog_6_method_7_code
def yX4_tellApart : MethodName := ⟨RX4, "tellApart", "(I)V"⟩
def RX5 : String := "InclusionProver$Side"
def TX5 : u_T := fun k => match k with
  | 0 => ("InclusionProver$Side", "spelt", "LInclusionProver$Text;", true)
  | 1 => ("InclusionProver$Side", "termSigns", "LInclusionProver$Text;", true)
  | 2 => ("InclusionProver$Side", "signsEnd", "[I", true)
  | 3 => ("InclusionProver$Side", "partSets", "[I", true)
  | 4 => ("InclusionProver$Side", "partsFrom", "[I", true)
  | 5 => ("InclusionProver$Side", "part", "[I", true)
  | 6 => ("InclusionProver$Side", "terms", "I", false)
  | 7 => ("InclusionProver$Side", "shortest", "I", false)
  | 8 => ("InclusionProver$Side", "nest", "I", false)
  | 9 => ("InclusionProver$Side", "full", "I", false)
  | _ => ("InclusionProver$Side", "row", "I", false)
def tyX5 : Nat → FieldType := fun k => match k with
  | 0 => .object "InclusionProver$Text"
  | 1 => .object "InclusionProver$Text"
  | 2 => .array .int
  | 3 => .array .int
  | 4 => .array .int
  | 5 => .array .int
  | 6 => .int
  | 7 => .int
  | 8 => .int
  | 9 => .int
  | _ => .int
abbrev wsX50 : List Cond := u_ws RX5 TX5 11
theorem nmX5 : ∀ a, a < 11 → ∀ b, b < 11 → a ≠ b → (TX5 a).2.1 ≠ (TX5 b).2.1 := by decide +kernel
theorem tyX5_ok : ∀ k, k < 11 → parseFieldDescriptor (TX5 k).2.2.1 = some (tyX5 k) := by decide +kernel
abbrev cX5_init : ByteArray := prog_7_method_1_code
def yX5_init : MethodName := ⟨RX5, "<init>", "()V"⟩
abbrev cX5_clear : ByteArray := prog_7_method_2_code
def yX5_clear : MethodName := ⟨RX5, "clear", "()V"⟩
abbrev cX5_openTerm : ByteArray := prog_7_method_3_code
def yX5_openTerm : MethodName := ⟨RX5, "openTerm", "(Z)V"⟩
abbrev cX5_openParts : ByteArray := prog_7_method_4_code
def yX5_openParts : MethodName := ⟨RX5, "openParts", "(I)V"⟩
abbrev cX5_addPart : ByteArray := prog_7_method_5_code
def yX5_addPart : MethodName := ⟨RX5, "addPart", "(I)V"⟩
abbrev cX5_closeTerm : ByteArray := prog_7_method_6_code
def yX5_closeTerm : MethodName := ⟨RX5, "closeTerm", "()V"⟩
abbrev cX5_become : ByteArray := prog_7_method_7_code
def yX5_become : MethodName := ⟨RX5, "become", "(LInclusionProver$Side;)V"⟩
abbrev cX5_isTerm : ByteArray := prog_7_method_8_code
def yX5_isTerm : MethodName := ⟨RX5, "isTerm", "(I)Z"⟩
abbrev cX5_isSet : ByteArray := prog_7_method_9_code
def yX5_isSet : MethodName := ⟨RX5, "isSet", "(I)Z"⟩
abbrev cX5_anyFull : ByteArray := prog_7_method_10_code
def yX5_anyFull : MethodName := ⟨RX5, "anyFull", "(I)Z"⟩
abbrev cX5_lettersSpelt : ByteArray := prog_7_method_11_code
def yX5_lettersSpelt : MethodName := ⟨RX5, "lettersSpelt", "()I"⟩
abbrev cX5_termBytes : ByteArray := prog_7_method_12_code
def yX5_termBytes : MethodName := ⟨RX5, "termBytes", "(I)I"⟩
abbrev cX5_termByte : ByteArray := prog_7_method_13_code
def yX5_termByte : MethodName := ⟨RX5, "termByte", "(II)I"⟩
abbrev cX5_partSet : ByteArray := prog_7_method_14_code
def yX5_partSet : MethodName := ⟨RX5, "partSet", "(II)I"⟩
abbrev cX5_partsOf : ByteArray := prog_7_method_15_code
def yX5_partsOf : MethodName := ⟨RX5, "partsOf", "(II)I"⟩
abbrev cX5_partOf : ByteArray := prog_7_method_16_code
def yX5_partOf : MethodName := ⟨RX5, "partOf", "(III)I"⟩
abbrev cX5_partsOfSet : ByteArray := prog_7_method_17_code
def yX5_partsOfSet : MethodName := ⟨RX5, "partsOfSet", "(II)I"⟩
abbrev cX5_alikeTerm : ByteArray := prog_7_method_18_code
def yX5_alikeTerm : MethodName := ⟨RX5, "alikeTerm", "(LInclusionProver$Side;I)I"⟩
abbrev cX5_isLetter : ByteArray := prog_7_method_19_code
def yX5_isLetter : MethodName := ⟨RX5, "isLetter", "(I)Z"⟩
abbrev cX5_signsStart : ByteArray := prog_7_method_20_code
def yX5_signsStart : MethodName := ⟨RX5, "signsStart", "(I)I"⟩
abbrev cX5_isAlike : ByteArray := prog_7_method_21_code
def yX5_isAlike : MethodName := ⟨RX5, "isAlike", "(ILInclusionProver$Side;I)Z"⟩
def RX6 : String := "InclusionProver$TermFinder"
def TX6 : u_T := fun k => match k with
  | 0 => ("InclusionProver$TermFinder", "tree", "LInclusionProver$Tree;", true)
  | 1 => ("InclusionProver$TermFinder", "factor", "[I", true)
  | 2 => ("InclusionProver$TermFinder", "number", "[I", true)
  | 3 => ("InclusionProver$TermFinder", "behind", "[I", true)
  | 4 => ("InclusionProver$TermFinder", "measure", "LInclusionProver$Text;", true)
  | 5 => ("InclusionProver$TermFinder", "top", "I", false)
  | 6 => ("InclusionProver$TermFinder", "terms", "I", false)
  | _ => ("InclusionProver$TermFinder", "wanted", "I", false)
def tyX6 : Nat → FieldType := fun k => match k with
  | 0 => .object "InclusionProver$Tree"
  | 1 => .array .int
  | 2 => .array .int
  | 3 => .array .int
  | 4 => .object "InclusionProver$Text"
  | 5 => .int
  | 6 => .int
  | _ => .int
abbrev wsX60 : List Cond := u_ws RX6 TX6 8
theorem nmX6 : ∀ a, a < 8 → ∀ b, b < 8 → a ≠ b → (TX6 a).2.1 ≠ (TX6 b).2.1 := by decide +kernel
theorem tyX6_ok : ∀ k, k < 8 → parseFieldDescriptor (TX6 k).2.2.1 = some (tyX6 k) := by decide +kernel
abbrev cX6_init : ByteArray := prog_8_method_1_code
def yX6_init : MethodName := ⟨RX6, "<init>", "(LInclusionProver$Tree;)V"⟩
abbrev cX6_speltBytes : ByteArray := prog_8_method_2_code
def yX6_speltBytes : MethodName := ⟨RX6, "speltBytes", "(I)I"⟩
abbrev cX6_findTerms : ByteArray := prog_8_method_3_code
def yX6_findTerms : MethodName := ⟨RX6, "findTerms", "(ILInclusionProver$Side;)V"⟩
abbrev cX6_tellTerm : ByteArray := prog_8_method_4_code
def yX6_tellTerm : MethodName := ⟨RX6, "tellTerm", "(ILInclusionProver$Side;)V"⟩
abbrev cX6_findParts : ByteArray := prog_8_method_5_code
def yX6_findParts : MethodName := ⟨RX6, "findParts", "(IILInclusionProver$Side;)V"⟩
abbrev cX6_gatherFactors : ByteArray := prog_8_method_6_code
def yX6_gatherFactors : MethodName := ⟨RX6, "gatherFactors", "(ILInclusionProver$Side;I)V"⟩
abbrev cX6_gatherNode : ByteArray := prog_8_method_7_code
def yX6_gatherNode : MethodName := ⟨RX6, "gatherNode", "(ILInclusionProver$Side;I)V"⟩
abbrev cX6_pushFactors : ByteArray := prog_8_method_8_code
def yX6_pushFactors : MethodName := ⟨RX6, "pushFactors", "(I)V"⟩
abbrev cX6_push : ByteArray := prog_8_method_9_code
def yX6_push : MethodName := ⟨RX6, "push", "(I)V"⟩
abbrev cX6_numberOfTerm : ByteArray := prog_8_method_10_code
def yX6_numberOfTerm : MethodName := ⟨RX6, "numberOfTerm", "()I"⟩
abbrev cX6_isBehind : ByteArray := prog_8_method_11_code
def yX6_isBehind : MethodName := ⟨RX6, "isBehind", "(I)Z"⟩
def RX7 : String := "InclusionProver$Text"
def TX7 : u_T := fun k => match k with
  | 0 => ("InclusionProver$Text", "sign", "[I", true)
  | _ => ("InclusionProver$Text", "size", "I", false)
def tyX7 : Nat → FieldType := fun k => match k with
  | 0 => .array .int
  | _ => .int
abbrev wsX70 : List Cond := u_ws RX7 TX7 2
theorem nmX7 : ∀ a, a < 2 → ∀ b, b < 2 → a ≠ b → (TX7 a).2.1 ≠ (TX7 b).2.1 := by decide +kernel
theorem tyX7_ok : ∀ k, k < 2 → parseFieldDescriptor (TX7 k).2.2.1 = some (tyX7 k) := by decide +kernel
abbrev cX7_init : ByteArray := prog_9_method_1_code
def yX7_init : MethodName := ⟨RX7, "<init>", "(I)V"⟩
abbrev cX7_clear : ByteArray := prog_9_method_2_code
def yX7_clear : MethodName := ⟨RX7, "clear", "()V"⟩
abbrev cX7_add : ByteArray := prog_9_method_3_code
def yX7_add : MethodName := ⟨RX7, "add", "(I)V"⟩
abbrev cX7_addAll : ByteArray := prog_9_method_4_code
def yX7_addAll : MethodName := ⟨RX7, "addAll", "(LInclusionProver$Text;)V"⟩
abbrev cX7_addBracketed : ByteArray := prog_9_method_5_code
def yX7_addBracketed : MethodName := ⟨RX7, "addBracketed", "(LInclusionProver$Text;)V"⟩
abbrev cX7_become : ByteArray := prog_9_method_6_code
def yX7_become : MethodName := ⟨RX7, "become", "(LInclusionProver$Text;)V"⟩
abbrev cX7_setAt : ByteArray := prog_9_method_7_code
def yX7_setAt : MethodName := ⟨RX7, "setAt", "(II)V"⟩
abbrev cX7_at : ByteArray := prog_9_method_8_code
def yX7_at : MethodName := ⟨RX7, "at", "(I)I"⟩
abbrev cX7_countOf : ByteArray := prog_9_method_9_code
def yX7_countOf : MethodName := ⟨RX7, "countOf", "(I)I"⟩
def RX8 : String := "InclusionProver$Tree"
def TX8 : u_T := fun k => match k with
  | 0 => ("InclusionProver$Tree", "kind", "[I", true)
  | 1 => ("InclusionProver$Tree", "from", "[I", true)
  | 2 => ("InclusionProver$Tree", "number", "[I", true)
  | 3 => ("InclusionProver$Tree", "shortest", "[I", true)
  | 4 => ("InclusionProver$Tree", "nest", "[I", true)
  | 5 => ("InclusionProver$Tree", "child", "[I", true)
  | 6 => ("InclusionProver$Tree", "open", "[I", true)
  | 7 => ("InclusionProver$Tree", "nodes", "I", false)
  | 8 => ("InclusionProver$Tree", "children", "I", false)
  | _ => ("InclusionProver$Tree", "top", "I", false)
def tyX8 : Nat → FieldType := fun k => match k with
  | 0 => .array .int
  | 1 => .array .int
  | 2 => .array .int
  | 3 => .array .int
  | 4 => .array .int
  | 5 => .array .int
  | 6 => .array .int
  | 7 => .int
  | 8 => .int
  | _ => .int
abbrev wsX80 : List Cond := u_ws RX8 TX8 10
theorem nmX8 : ∀ a, a < 10 → ∀ b, b < 10 → a ≠ b → (TX8 a).2.1 ≠ (TX8 b).2.1 := by decide +kernel
theorem tyX8_ok : ∀ k, k < 10 → parseFieldDescriptor (TX8 k).2.2.1 = some (tyX8 k) := by decide +kernel
abbrev cX8_init : ByteArray := prog_10_method_1_code
def yX8_init : MethodName := ⟨RX8, "<init>", "()V"⟩
abbrev cX8_clear : ByteArray := prog_10_method_2_code
def yX8_clear : MethodName := ⟨RX8, "clear", "()V"⟩
abbrev cX8_kindOf : ByteArray := prog_10_method_3_code
def yX8_kindOf : MethodName := ⟨RX8, "kindOf", "(I)I"⟩
abbrev cX8_childrenOf : ByteArray := prog_10_method_4_code
def yX8_childrenOf : MethodName := ⟨RX8, "childrenOf", "(I)I"⟩
abbrev cX8_childOf : ByteArray := prog_10_method_5_code
def yX8_childOf : MethodName := ⟨RX8, "childOf", "(II)I"⟩
abbrev cX8_shortestOf : ByteArray := prog_10_method_6_code
def yX8_shortestOf : MethodName := ⟨RX8, "shortestOf", "(I)I"⟩
abbrev cX8_nestOf : ByteArray := prog_10_method_7_code
def yX8_nestOf : MethodName := ⟨RX8, "nestOf", "(I)I"⟩
abbrev cX8_isFull : ByteArray := prog_10_method_8_code
def yX8_isFull : MethodName := ⟨RX8, "isFull", "(I)Z"⟩
abbrev cX8_mark : ByteArray := prog_10_method_9_code
def yX8_mark : MethodName := ⟨RX8, "mark", "()I"⟩
abbrev cX8_addSummand : ByteArray := prog_10_method_10_code
def yX8_addSummand : MethodName := ⟨RX8, "addSummand", "(II)V"⟩
abbrev cX8_addFactor : ByteArray := prog_10_method_11_code
def yX8_addFactor : MethodName := ⟨RX8, "addFactor", "(I)V"⟩
abbrev cX8_closeSum : ByteArray := prog_10_method_12_code
def yX8_closeSum : MethodName := ⟨RX8, "closeSum", "(I)I"⟩
abbrev cX8_closeProduct : ByteArray := prog_10_method_13_code
def yX8_closeProduct : MethodName := ⟨RX8, "closeProduct", "(I)I"⟩
abbrev cX8_starOf : ByteArray := prog_10_method_14_code
def yX8_starOf : MethodName := ⟨RX8, "starOf", "(I)I"⟩
abbrev cX8_spell : ByteArray := prog_10_method_15_code
def yX8_spell : MethodName := ⟨RX8, "spell", "(IILInclusionProver$Text;)V"⟩
abbrev cX8_spellNode : ByteArray := prog_10_method_16_code
def yX8_spellNode : MethodName := ⟨RX8, "spellNode", "(IILInclusionProver$Text;I)V"⟩
abbrev cX8_spellChildren : ByteArray := prog_10_method_17_code
def yX8_spellChildren : MethodName := ⟨RX8, "spellChildren", "(IILInclusionProver$Text;I)V"⟩
abbrev cX8_push : ByteArray := prog_10_method_18_code
def yX8_push : MethodName := ⟨RX8, "push", "(I)V"⟩
abbrev cX8_addOnce : ByteArray := prog_10_method_19_code
def yX8_addOnce : MethodName := ⟨RX8, "addOnce", "(II)V"⟩
abbrev cX8_close : ByteArray := prog_10_method_20_code
def yX8_close : MethodName := ⟨RX8, "close", "(III)I"⟩
abbrev cX8_nodeOf : ByteArray := prog_10_method_21_code
def yX8_nodeOf : MethodName := ⟨RX8, "nodeOf", "(II)I"⟩
abbrev cX8_hasChildren : ByteArray := prog_10_method_22_code
def yX8_hasChildren : MethodName := ⟨RX8, "hasChildren", "(II)Z"⟩
abbrev cX8_newNode : ByteArray := prog_10_method_23_code
def yX8_newNode : MethodName := ⟨RX8, "newNode", "(II)I"⟩
def RX9 : String := "InclusionProver$WordCounter"
def TX9 : u_T := fun k => match k with
  | 0 => ("InclusionProver$WordCounter", "cellLeft", "[I", true)
  | 1 => ("InclusionProver$WordCounter", "cellRight", "[I", true)
  | 2 => ("InclusionProver$WordCounter", "cellRest", "[I", true)
  | 3 => ("InclusionProver$WordCounter", "cellCount", "[I", true)
  | 4 => ("InclusionProver$WordCounter", "left", "LInclusionProver$Side;", false)
  | 5 => ("InclusionProver$WordCounter", "right", "LInclusionProver$Side;", false)
  | _ => ("InclusionProver$WordCounter", "which", "I", false)
def tyX9 : Nat → FieldType := fun k => match k with
  | 0 => .array .int
  | 1 => .array .int
  | 2 => .array .int
  | 3 => .array .int
  | 4 => .object "InclusionProver$Side"
  | 5 => .object "InclusionProver$Side"
  | _ => .int
abbrev wsX90 : List Cond := u_ws RX9 TX9 7
theorem nmX9 : ∀ a, a < 7 → ∀ b, b < 7 → a ≠ b → (TX9 a).2.1 ≠ (TX9 b).2.1 := by decide +kernel
theorem tyX9_ok : ∀ k, k < 7 → parseFieldDescriptor (TX9 k).2.2.1 = some (tyX9 k) := by decide +kernel
abbrev cX9_init : ByteArray := prog_11_method_1_code
def yX9_init : MethodName := ⟨RX9, "<init>", "(LInclusionProver$Side;LInclusionProver$Side;)V"⟩
abbrev cX9_howMany : ByteArray := prog_11_method_2_code
def yX9_howMany : MethodName := ⟨RX9, "howMany", "(LInclusionProver$Side;LInclusionProver$Side;II)I"⟩
abbrev cX9_nth : ByteArray := prog_11_method_3_code
def yX9_nth : MethodName := ⟨RX9, "nth", "(LInclusionProver$Side;LInclusionProver$Side;III)I"⟩
abbrev cX9_begin : ByteArray := prog_11_method_4_code
def yX9_begin : MethodName := ⟨RX9, "begin", "(LInclusionProver$Side;LInclusionProver$Side;I)V"⟩
abbrev cX9_startLeft : ByteArray := prog_11_method_5_code
def yX9_startLeft : MethodName := ⟨RX9, "startLeft", "()I"⟩
abbrev cX9_startRight : ByteArray := prog_11_method_6_code
def yX9_startRight : MethodName := ⟨RX9, "startRight", "()I"⟩
abbrev cX9_countBehind : ByteArray := prog_11_method_7_code
def yX9_countBehind : MethodName := ⟨RX9, "countBehind", "(IIII)I"⟩
abbrev cX9_countFrom : ByteArray := prog_11_method_8_code
def yX9_countFrom : MethodName := ⟨RX9, "countFrom", "(III)I"⟩
abbrev cX9_fits : ByteArray := prog_11_method_9_code
def yX9_fits : MethodName := ⟨RX9, "fits", "(ZZ)Z"⟩
abbrev cX9_allWords : ByteArray := prog_11_method_10_code
def yX9_allWords : MethodName := ⟨RX9, "allWords", "(I)I"⟩
abbrev cX9_cellOf : ByteArray := prog_11_method_11_code
def yX9_cellOf : MethodName := ⟨RX9, "cellOf", "(III)I"⟩
def RX10 : String := "InclusionProver"
def TX10 : u_T := fun k => match k with
  | 0 => ("InclusionProver", "reader", "LInclusionProver$Reader;", true)
  | 1 => ("InclusionProver", "finder", "LInclusionProver$TermFinder;", true)
  | 2 => ("InclusionProver", "search", "LInclusionProver$Search;", true)
  | 3 => ("InclusionProver", "kernel", "LInclusionProver$Kernel;", true)
  | 4 => ("InclusionProver", "counter", "LInclusionProver$WordCounter;", true)
  | 5 => ("InclusionProver", "draft", "LInclusionProver$Text;", true)
  | 6 => ("InclusionProver", "trialSides", "[LInclusionProver$Side;", true)
  | 7 => ("InclusionProver", "trialLines", "LInclusionProver$Lines;", true)
  | 8 => ("InclusionProver", "now", "LInclusionProver$Room;", true)
  | 9 => ("InclusionProver", "images", "[LInclusionProver$Room;", true)
  | _ => ("InclusionProver", "isImage", "[Z", true)
def tyX10 : Nat → FieldType := fun k => match k with
  | 0 => .object "InclusionProver$Reader"
  | 1 => .object "InclusionProver$TermFinder"
  | 2 => .object "InclusionProver$Search"
  | 3 => .object "InclusionProver$Kernel"
  | 4 => .object "InclusionProver$WordCounter"
  | 5 => .object "InclusionProver$Text"
  | 6 => .array (.object "InclusionProver$Side")
  | 7 => .object "InclusionProver$Lines"
  | 8 => .object "InclusionProver$Room"
  | 9 => .array (.object "InclusionProver$Room")
  | _ => .array .boolean
abbrev wsX100 : List Cond := u_ws RX10 TX10 11
theorem nmX10 : ∀ a, a < 11 → ∀ b, b < 11 → a ≠ b → (TX10 a).2.1 ≠ (TX10 b).2.1 := by decide +kernel
theorem tyX10_ok : ∀ k, k < 11 → parseFieldDescriptor (TX10 k).2.2.1 = some (tyX10 k) := by decide +kernel
abbrev cX10_init : ByteArray := prog_1_method_1_code
def yX10_init : MethodName := ⟨RX10, "<init>", "()V"⟩
abbrev cX10_write : ByteArray := prog_1_method_2_code
def yX10_write : MethodName := ⟨RX10, "write", "(J)I"⟩
abbrev cX10_side : ByteArray := prog_1_method_3_code
def yX10_side : MethodName := ⟨RX10, "side", "(I)I"⟩
abbrev cX10_fault : ByteArray := prog_1_method_4_code
def yX10_fault : MethodName := ⟨RX10, "fault", "()I"⟩
abbrev cX10_swap : ByteArray := prog_1_method_5_code
def yX10_swap : MethodName := ⟨RX10, "swap", "()V"⟩
abbrev cX10_keep : ByteArray := prog_1_method_6_code
def yX10_keep : MethodName := ⟨RX10, "keep", "(II)Z"⟩
abbrev cX10_make : ByteArray := prog_1_method_7_code
def yX10_make : MethodName := ⟨RX10, "make", "(IIII)I"⟩
abbrev cX10_shape : ByteArray := prog_1_method_8_code
def yX10_shape : MethodName := ⟨RX10, "shape", "(II)I"⟩
abbrev cX10_term : ByteArray := prog_1_method_9_code
def yX10_term : MethodName := ⟨RX10, "term", "(III)I"⟩
abbrev cX10_like : ByteArray := prog_1_method_10_code
def yX10_like : MethodName := ⟨RX10, "like", "(II)I"⟩
abbrev cX10_has : ByteArray := prog_1_method_11_code
def yX10_has : MethodName := ⟨RX10, "has", "(I)Z"⟩
abbrev cX10_words : ByteArray := prog_1_method_12_code
def yX10_words : MethodName := ⟨RX10, "words", "(II)I"⟩
abbrev cX10_word : ByteArray := prog_1_method_13_code
def yX10_word : MethodName := ⟨RX10, "word", "(III)I"⟩
abbrev cX10_prove : ByteArray := prog_1_method_14_code
def yX10_prove : MethodName := ⟨RX10, "prove", "()I"⟩
abbrev cX10_apart : ByteArray := prog_1_method_15_code
def yX10_apart : MethodName := ⟨RX10, "apart", "(I)I"⟩
abbrev cX10_count : ByteArray := prog_1_method_16_code
def yX10_count : MethodName := ⟨RX10, "count", "(I)I"⟩
abbrev cX10_line : ByteArray := prog_1_method_17_code
def yX10_line : MethodName := ⟨RX10, "line", "(II)I"⟩
abbrev cX10_alter : ByteArray := prog_1_method_18_code
def yX10_alter : MethodName := ⟨RX10, "alter", "(III)I"⟩
abbrev cX10_cut : ByteArray := prog_1_method_19_code
def yX10_cut : MethodName := ⟨RX10, "cut", "()I"⟩
abbrev cX10_check : ByteArray := prog_1_method_20_code
def yX10_check : MethodName := ⟨RX10, "check", "()I"⟩
abbrev cX10_why : ByteArray := prog_1_method_21_code
def yX10_why : MethodName := ⟨RX10, "why", "(I)I"⟩
abbrev cX10_same : ByteArray := prog_1_method_22_code
def yX10_same : MethodName := ⟨RX10, "same", "()I"⟩
abbrev cX10_between : ByteArray := prog_1_method_23_code
def yX10_between : MethodName := ⟨RX10, "between", "(II)I"⟩
abbrev cX10_image : ByteArray := prog_1_method_24_code
def yX10_image : MethodName := ⟨RX10, "image", "(I)Z"⟩
abbrev cX10_again : ByteArray := prog_1_method_25_code
def yX10_again : MethodName := ⟨RX10, "again", "(I)Z"⟩
abbrev cX10_isSide : ByteArray := prog_1_method_26_code
def yX10_isSide : MethodName := ⟨RX10, "isSide", "(I)Z"⟩
abbrev cX10_isSlot : ByteArray := prog_1_method_27_code
def yX10_isSlot : MethodName := ⟨RX10, "isSlot", "(I)Z"⟩
abbrev cX10_canCount : ByteArray := prog_1_method_28_code
def yX10_canCount : MethodName := ⟨RX10, "canCount", "(II)Z"⟩
abbrev cX10_byteOf : ByteArray := prog_1_method_29_code
def yX10_byteOf : MethodName := ⟨RX10, "byteOf", "(JI)I"⟩
abbrev cX10_bytesOf : ByteArray := prog_1_method_30_code
def yX10_bytesOf : MethodName := ⟨RX10, "bytesOf", "(J)I"⟩
abbrev cX10_replace : ByteArray := prog_1_method_31_code
def yX10_replace : MethodName := ⟨RX10, "replace", "([III)I"⟩
abbrev cX10_faultOf : ByteArray := prog_1_method_32_code
def yX10_faultOf : MethodName := ⟨RX10, "faultOf", "(II)I"⟩
abbrev cX10_put : ByteArray := prog_1_method_33_code
def yX10_put : MethodName := ⟨RX10, "put", "(II)I"⟩
abbrev cX10_readSlot : ByteArray := prog_1_method_34_code
def yX10_readSlot : MethodName := ⟨RX10, "readSlot", "(I)I"⟩
abbrev cX10_draftOf : ByteArray := prog_1_method_35_code
def yX10_draftOf : MethodName := ⟨RX10, "draftOf", "(ILInclusionProver$Text;LInclusionProver$Text;)V"⟩
abbrev cX10_tapeIsWordOf : ByteArray := prog_1_method_36_code
def yX10_tapeIsWordOf : MethodName := ⟨RX10, "tapeIsWordOf", "(LInclusionProver$Side;)Z"⟩
def RX11 : String := "InclusionProverModel"
def TX11 : u_T := fun k => match k with
  | 0 => ("InclusionProverModel", "all", "[I", true)
  | 1 => ("InclusionProverModel", "tape", "[I", true)
  | 2 => ("InclusionProverModel", "isImage", "[Z", true)
  | 3 => ("InclusionProverModel", "taped", "I", false)
  | 4 => ("InclusionProverModel", "faultPlace", "I", false)
  | 5 => ("InclusionProverModel", "kind", "[I", true)
  | 6 => ("InclusionProverModel", "from", "[I", true)
  | 7 => ("InclusionProverModel", "many", "[I", true)
  | 8 => ("InclusionProverModel", "shortest", "[I", true)
  | 9 => ("InclusionProverModel", "deep", "[I", true)
  | 10 => ("InclusionProverModel", "pool", "[I", true)
  | 11 => ("InclusionProverModel", "full", "[Z", true)
  | 12 => ("InclusionProverModel", "nodes", "I", false)
  | 13 => ("InclusionProverModel", "pooled", "I", false)
  | 14 => ("InclusionProverModel", "partAt", "[I", true)
  | 15 => ("InclusionProverModel", "partMany", "[I", true)
  | 16 => ("InclusionProverModel", "parts", "[I", true)
  | 17 => ("InclusionProverModel", "partsLaid", "I", false)
  | 18 => ("InclusionProverModel", "row", "[I", true)
  | 19 => ("InclusionProverModel", "rows", "I", false)
  | 20 => ("InclusionProverModel", "pair", "[I", true)
  | 21 => ("InclusionProverModel", "sums", "[I", true)
  | 22 => ("InclusionProverModel", "products", "[I", true)
  | 23 => ("InclusionProverModel", "sumMany", "[I", true)
  | 24 => ("InclusionProverModel", "productMany", "[I", true)
  | 25 => ("InclusionProverModel", "level", "I", false)
  | 26 => ("InclusionProverModel", "wrong", "I", false)
  | 27 => ("InclusionProverModel", "spelling", "[I", true)
  | 28 => ("InclusionProverModel", "spelt", "[I", true)
  | 29 => ("InclusionProverModel", "spellMany", "I", false)
  | 30 => ("InclusionProverModel", "speltMany", "I", false)
  | 31 => ("InclusionProverModel", "due", "[I", true)
  | 32 => ("InclusionProverModel", "laid", "[I", true)
  | 33 => ("InclusionProverModel", "laidMany", "I", false)
  | 34 => ("InclusionProverModel", "terms", "[I", true)
  | 35 => ("InclusionProverModel", "termMany", "[I", true)
  | 36 => ("InclusionProverModel", "partSet", "[I", true)
  | 37 => ("InclusionProverModel", "partRow", "[I", true)
  | 38 => ("InclusionProverModel", "partRowMany", "[I", true)
  | 39 => ("InclusionProverModel", "cameBy", "[I", true)
  | 40 => ("InclusionProverModel", "cameWith", "[I", true)
  | 41 => ("InclusionProverModel", "depth", "[I", true)
  | 42 => ("InclusionProverModel", "badLetter", "I", false)
  | 43 => ("InclusionProverModel", "badPart", "I", false)
  | 44 => ("InclusionProverModel", "badReason", "I", false)
  | _ => ("InclusionProverModel", "letters", "[I", true)
def tyX11 : Nat → FieldType := fun k => match k with
  | 0 => .array .int
  | 1 => .array .int
  | 2 => .array .boolean
  | 3 => .int
  | 4 => .int
  | 5 => .array .int
  | 6 => .array .int
  | 7 => .array .int
  | 8 => .array .int
  | 9 => .array .int
  | 10 => .array .int
  | 11 => .array .boolean
  | 12 => .int
  | 13 => .int
  | 14 => .array .int
  | 15 => .array .int
  | 16 => .array .int
  | 17 => .int
  | 18 => .array .int
  | 19 => .int
  | 20 => .array .int
  | 21 => .array .int
  | 22 => .array .int
  | 23 => .array .int
  | 24 => .array .int
  | 25 => .int
  | 26 => .int
  | 27 => .array .int
  | 28 => .array .int
  | 29 => .int
  | 30 => .int
  | 31 => .array .int
  | 32 => .array .int
  | 33 => .int
  | 34 => .array .int
  | 35 => .array .int
  | 36 => .array .int
  | 37 => .array .int
  | 38 => .array .int
  | 39 => .array .int
  | 40 => .array .int
  | 41 => .array .int
  | 42 => .int
  | 43 => .int
  | 44 => .int
  | _ => .array .int
abbrev wsX110 : List Cond := u_ws RX11 TX11 46
theorem nmX11 : ∀ a, a < 46 → ∀ b, b < 46 → a ≠ b → (TX11 a).2.1 ≠ (TX11 b).2.1 := by decide +kernel
theorem tyX11_ok : ∀ k, k < 46 → parseFieldDescriptor (TX11 k).2.2.1 = some (tyX11 k) := by decide +kernel
abbrev cX11_init : ByteArray := prog_13_method_1_code
def yX11_init : MethodName := ⟨RX11, "<init>", "()V"⟩
abbrev cX11_zeroes : ByteArray := prog_13_method_2_code
def yX11_zeroes : MethodName := ⟨RX11, "zeroes", "(I)V"⟩
abbrev cX11_isIn : ByteArray := prog_13_method_3_code
def yX11_isIn : MethodName := ⟨RX11, "isIn", "(III)Z"⟩
abbrev cX11_copies : ByteArray := prog_13_method_4_code
def yX11_copies : MethodName := ⟨RX11, "copies", "(III)V"⟩
abbrev cX11_clears : ByteArray := prog_13_method_5_code
def yX11_clears : MethodName := ⟨RX11, "clears", "()V"⟩
abbrev cX11_addsNode : ByteArray := prog_13_method_6_code
def yX11_addsNode : MethodName := ⟨RX11, "addsNode", "(II)I"⟩
abbrev cX11_joins : ByteArray := prog_13_method_7_code
def yX11_joins : MethodName := ⟨RX11, "joins", "(III)V"⟩
abbrev cX11_kept : ByteArray := prog_13_method_8_code
def yX11_kept : MethodName := ⟨RX11, "kept", "(II)I"⟩
abbrev cX11_notes : ByteArray := prog_13_method_9_code
def yX11_notes : MethodName := ⟨RX11, "notes", "(IZ)V"⟩
abbrev cX11_sum : ByteArray := prog_13_method_10_code
def yX11_sum : MethodName := ⟨RX11, "sum", "([III)I"⟩
abbrev cX11_product : ByteArray := prog_13_method_11_code
def yX11_product : MethodName := ⟨RX11, "product", "([III)I"⟩
abbrev cX11_star : ByteArray := prog_13_method_12_code
def yX11_star : MethodName := ⟨RX11, "star", "(I)I"⟩
abbrev cX11_behind : ByteArray := prog_13_method_13_code
def yX11_behind : MethodName := ⟨RX11, "behind", "(III)I"⟩
abbrev cX11_opens : ByteArray := prog_13_method_14_code
def yX11_opens : MethodName := ⟨RX11, "opens", "()V"⟩
abbrev cX11_addsFactor : ByteArray := prog_13_method_15_code
def yX11_addsFactor : MethodName := ⟨RX11, "addsFactor", "(I)V"⟩
abbrev cX11_endsProduct : ByteArray := prog_13_method_16_code
def yX11_endsProduct : MethodName := ⟨RX11, "endsProduct", "()V"⟩
abbrev cX11_endsSum : ByteArray := prog_13_method_17_code
def yX11_endsSum : MethodName := ⟨RX11, "endsSum", "()I"⟩
abbrev cX11_told : ByteArray := prog_13_method_18_code
def yX11_told : MethodName := ⟨RX11, "told", "([III)I"⟩
abbrev cX11_pushes : ByteArray := prog_13_method_19_code
def yX11_pushes : MethodName := ⟨RX11, "pushes", "(II)V"⟩
abbrev cX11_pushesByte : ByteArray := prog_13_method_20_code
def yX11_pushesByte : MethodName := ⟨RX11, "pushesByte", "(I)V"⟩
abbrev cX11_spells : ByteArray := prog_13_method_21_code
def yX11_spells : MethodName := ⟨RX11, "spells", "(I)V"⟩
abbrev cX11_spellsOne : ByteArray := prog_13_method_22_code
def yX11_spellsOne : MethodName := ⟨RX11, "spellsOne", "(II)V"⟩
abbrev cX11_lacks : ByteArray := prog_13_method_23_code
def yX11_lacks : MethodName := ⟨RX11, "lacks", "(II)I"⟩
abbrev cX11_lays : ByteArray := prog_13_method_24_code
def yX11_lays : MethodName := ⟨RX11, "lays", "(I)V"⟩
abbrev cX11_partOf : ByteArray := prog_13_method_25_code
def yX11_partOf : MethodName := ⟨RX11, "partOf", "(III)I"⟩
abbrev cX11_laysParts : ByteArray := prog_13_method_26_code
def yX11_laysParts : MethodName := ⟨RX11, "laysParts", "(II)V"⟩
abbrev cX11_withStar : ByteArray := prog_13_method_27_code
def yX11_withStar : MethodName := ⟨RX11, "withStar", "(II)I"⟩
abbrev cX11_needs : ByteArray := prog_13_method_28_code
def yX11_needs : MethodName := ⟨RX11, "needs", "(II)V"⟩
abbrev cX11_termBy : ByteArray := prog_13_method_29_code
def yX11_termBy : MethodName := ⟨RX11, "termBy", "(II)I"⟩
abbrev cX11_laysTerms : ByteArray := prog_13_method_30_code
def yX11_laysTerms : MethodName := ⟨RX11, "laysTerms", "(II)V"⟩
abbrev cX11_laysRow : ByteArray := prog_13_method_31_code
def yX11_laysRow : MethodName := ⟨RX11, "laysRow", "(III)V"⟩
abbrev cX11_laysBoth : ByteArray := prog_13_method_32_code
def yX11_laysBoth : MethodName := ⟨RX11, "laysBoth", "(II)V"⟩
abbrev cX11_isFull : ByteArray := prog_13_method_33_code
def yX11_isFull : MethodName := ⟨RX11, "isFull", "(II)Z"⟩
abbrev cX11_isFullSet : ByteArray := prog_13_method_34_code
def yX11_isFullSet : MethodName := ⟨RX11, "isFullSet", "(II)Z"⟩
abbrev cX11_partsOf : ByteArray := prog_13_method_35_code
def yX11_partsOf : MethodName := ⟨RX11, "partsOf", "(III)I"⟩
abbrev cX11_isMember : ByteArray := prog_13_method_36_code
def yX11_isMember : MethodName := ⟨RX11, "isMember", "(II)Z"⟩
abbrev cX11_lineWith : ByteArray := prog_13_method_37_code
def yX11_lineWith : MethodName := ⟨RX11, "lineWith", "(III)I"⟩
abbrev cX11_newLine : ByteArray := prog_13_method_38_code
def yX11_newLine : MethodName := ⟨RX11, "newLine", "(IIIII)V"⟩
abbrev cX11_steps : ByteArray := prog_13_method_39_code
def yX11_steps : MethodName := ⟨RX11, "steps", "(II)Z"⟩
abbrev cX11_tellsWord : ByteArray := prog_13_method_40_code
def yX11_tellsWord : MethodName := ⟨RX11, "tellsWord", "(II)V"⟩
abbrev cX11_searches : ByteArray := prog_13_method_41_code
def yX11_searches : MethodName := ⟨RX11, "searches", "(I)I"⟩
abbrev cX11_forgets : ByteArray := prog_13_method_42_code
def yX11_forgets : MethodName := ⟨RX11, "forgets", "(I)V"⟩
abbrev cX11_prove : ByteArray := prog_13_method_43_code
def yX11_prove : MethodName := ⟨RX11, "prove", "()I"⟩
abbrev cX11_tried : ByteArray := prog_13_method_44_code
def yX11_tried : MethodName := ⟨RX11, "tried", "(II)I"⟩
abbrev cX11_same : ByteArray := prog_13_method_45_code
def yX11_same : MethodName := ⟨RX11, "same", "()I"⟩
abbrev cX11_isSlot : ByteArray := prog_13_method_46_code
def yX11_isSlot : MethodName := ⟨RX11, "isSlot", "(I)Z"⟩
abbrev cX11_between : ByteArray := prog_13_method_47_code
def yX11_between : MethodName := ⟨RX11, "between", "(II)I"⟩
abbrev cX11_apart : ByteArray := prog_13_method_48_code
def yX11_apart : MethodName := ⟨RX11, "apart", "(I)I"⟩
abbrev cX11_line : ByteArray := prog_13_method_49_code
def yX11_line : MethodName := ⟨RX11, "line", "(II)I"⟩
abbrev cX11_placeOf : ByteArray := prog_13_method_50_code
def yX11_placeOf : MethodName := ⟨RX11, "placeOf", "(II)I"⟩
abbrev cX11_alter : ByteArray := prog_13_method_51_code
def yX11_alter : MethodName := ⟨RX11, "alter", "(III)I"⟩
abbrev cX11_cut : ByteArray := prog_13_method_52_code
def yX11_cut : MethodName := ⟨RX11, "cut", "()I"⟩
abbrev cX11_isTold : ByteArray := prog_13_method_53_code
def yX11_isTold : MethodName := ⟨RX11, "isTold", "(I)Z"⟩
abbrev cX11_count : ByteArray := prog_13_method_54_code
def yX11_count : MethodName := ⟨RX11, "count", "(I)I"⟩
abbrev cX11_hasPremise : ByteArray := prog_13_method_55_code
def yX11_hasPremise : MethodName := ⟨RX11, "hasPremise", "(III)Z"⟩
abbrev cX11_reason : ByteArray := prog_13_method_56_code
def yX11_reason : MethodName := ⟨RX11, "reason", "(I)I"⟩
abbrev cX11_bad : ByteArray := prog_13_method_57_code
def yX11_bad : MethodName := ⟨RX11, "bad", "()I"⟩
abbrev cX11_check : ByteArray := prog_13_method_58_code
def yX11_check : MethodName := ⟨RX11, "check", "()I"⟩
abbrev cX11_why : ByteArray := prog_13_method_59_code
def yX11_why : MethodName := ⟨RX11, "why", "(I)I"⟩
abbrev cX11_write : ByteArray := prog_13_method_60_code
def yX11_write : MethodName := ⟨RX11, "write", "(J)I"⟩
abbrev cX11_isSide : ByteArray := prog_13_method_61_code
def yX11_isSide : MethodName := ⟨RX11, "isSide", "(I)Z"⟩
abbrev cX11_becomes : ByteArray := prog_13_method_62_code
def yX11_becomes : MethodName := ⟨RX11, "becomes", "(II)I"⟩
abbrev cX11_side : ByteArray := prog_13_method_63_code
def yX11_side : MethodName := ⟨RX11, "side", "(I)I"⟩
abbrev cX11_fault : ByteArray := prog_13_method_64_code
def yX11_fault : MethodName := ⟨RX11, "fault", "()I"⟩
abbrev cX11_swap : ByteArray := prog_13_method_65_code
def yX11_swap : MethodName := ⟨RX11, "swap", "()V"⟩
abbrev cX11_keep : ByteArray := prog_13_method_66_code
def yX11_keep : MethodName := ⟨RX11, "keep", "(II)Z"⟩
abbrev cX11_make : ByteArray := prog_13_method_67_code
def yX11_make : MethodName := ⟨RX11, "make", "(IIII)I"⟩
abbrev cX11_spelled : ByteArray := prog_13_method_68_code
def yX11_spelled : MethodName := ⟨RX11, "spelled", "(I)I"⟩
abbrev cX11_byteAt : ByteArray := prog_13_method_69_code
def yX11_byteAt : MethodName := ⟨RX11, "byteAt", "(I)I"⟩
abbrev cX11_shape : ByteArray := prog_13_method_70_code
def yX11_shape : MethodName := ⟨RX11, "shape", "(II)I"⟩
abbrev cX11_term : ByteArray := prog_13_method_71_code
def yX11_term : MethodName := ⟨RX11, "term", "(III)I"⟩
abbrev cX11_like : ByteArray := prog_13_method_72_code
def yX11_like : MethodName := ⟨RX11, "like", "(II)I"⟩
abbrev cX11_has : ByteArray := prog_13_method_73_code
def yX11_has : MethodName := ⟨RX11, "has", "(I)Z"⟩
abbrev cX11_isWord : ByteArray := prog_13_method_74_code
def yX11_isWord : MethodName := ⟨RX11, "isWord", "(II)Z"⟩
abbrev cX11_isOne : ByteArray := prog_13_method_75_code
def yX11_isOne : MethodName := ⟨RX11, "isOne", "(II)Z"⟩
abbrev cX11_goesOn : ByteArray := prog_13_method_76_code
def yX11_goesOn : MethodName := ⟨RX11, "goesOn", "(I)Z"⟩
abbrev cX11_number : ByteArray := prog_13_method_77_code
def yX11_number : MethodName := ⟨RX11, "number", "(I)I"⟩
abbrev cX11_listed : ByteArray := prog_13_method_78_code
def yX11_listed : MethodName := ⟨RX11, "listed", "(III)I"⟩
abbrev cX11_words : ByteArray := prog_13_method_79_code
def yX11_words : MethodName := ⟨RX11, "words", "(II)I"⟩
abbrev cX11_word : ByteArray := prog_13_method_80_code
def yX11_word : MethodName := ⟨RX11, "word", "(III)I"⟩
abbrev cX11_image : ByteArray := prog_13_method_81_code
def yX11_image : MethodName := ⟨RX11, "image", "(I)Z"⟩
abbrev cX11_again : ByteArray := prog_13_method_82_code
def yX11_again : MethodName := ⟨RX11, "again", "(I)Z"⟩
def RJ9 : String := "java/lang/Math"
def TJ9 : u_T := fun k => match k with
  | _ => ("", "", "", false)
def tyJ9 : Nat → FieldType := fun k => match k with
  | _ => .int
abbrev wsJ90 : List Cond := u_ws RJ9 TJ9 0
theorem nmJ9 : ∀ a, a < 0 → ∀ b, b < 0 → a ≠ b → (TJ9 a).2.1 ≠ (TJ9 b).2.1 := by decide +kernel
theorem tyJ9_ok : ∀ k, k < 0 → parseFieldDescriptor (TJ9 k).2.2.1 = some (tyJ9 k) := by decide +kernel
abbrev cJ9_max_7cf53 : ByteArray := prog_14_method_65_code
def yJ9_max_7cf53 : MethodName := ⟨RJ9, "max", "(II)I"⟩
abbrev cJ9_min_7cf53 : ByteArray := prog_14_method_69_code
def yJ9_min_7cf53 : MethodName := ⟨RJ9, "min", "(II)I"⟩
def RJ10 : String := "java/lang/System"
def TJ10 : u_T := fun k => match k with
  | _ => ("", "", "", false)
def tyJ10 : Nat → FieldType := fun k => match k with
  | _ => .int
abbrev wsJ100 : List Cond := u_ws RJ10 TJ10 0
theorem nmJ10 : ∀ a, a < 0 → ∀ b, b < 0 → a ≠ b → (TJ10 a).2.1 ≠ (TJ10 b).2.1 := by decide +kernel
theorem tyJ10_ok : ∀ k, k < 0 → parseFieldDescriptor (TJ10 k).2.2.1 = some (tyJ10 k) := by decide +kernel
def RJ7 : String := "java/util/Arrays"
def TJ7 : u_T := fun k => match k with
  | _ => ("", "", "", false)
def tyJ7 : Nat → FieldType := fun k => match k with
  | _ => .int
abbrev wsJ70 : List Cond := u_ws RJ7 TJ7 0
theorem nmJ7 : ∀ a, a < 0 → ∀ b, b < 0 → a ≠ b → (TJ7 a).2.1 ≠ (TJ7 b).2.1 := by decide +kernel
theorem tyJ7_ok : ∀ k, k < 0 → parseFieldDescriptor (TJ7 k).2.2.1 = some (tyJ7 k) := by decide +kernel
abbrev cJ7_fill_53178 : ByteArray := prog_16_method_103_code
def yJ7_fill_53178 : MethodName := ⟨RJ7, "fill", "([II)V"⟩
def RL : String := "InclusionProverLaw"
abbrev cL_law : ByteArray := code
def yL_law : MethodName := ⟨RL, "law", "([I)Z"⟩
abbrev vwCl : List vw_C := [(RX0, TX0, 7), (RX1, TX1, 12), (RX2, TX2, 5), (RX3, TX3, 5), (RX4, TX4, 10), (RX5, TX5, 11), (RX6, TX6, 8), (RX7, TX7, 2), (RX8, TX8, 10), (RX9, TX9, 7), (RX10, TX10, 11), (RX11, TX11, 46)]
end
section
/-! THE LIGHT MACHINE. A store is: how many cells were made, how many slots, and what each cell holds. A reference is the number of its cell. -/
abbrev ll_C : Type := (Nat × Nat × (Nat → Int32)) ⊕ (Nat × Nat × (Nat → Option Nat)) ⊕ (Nat × (Nat → Value))
abbrev ll_S : Type := Nat × Nat × (Nat → ll_C)
abbrev ll_F : Type := Nat × List Value × List Value × ll_S
abbrev ll_G : Type := List Value → List Value → ll_S → Option ll_F
/-- an instruction: a step, a call (method, number of values taken, next), a return (0: none, 1: an int, 2: a boolean) -/
abbrev ll_O : Type := ll_G ⊕ (Nat × Nat × Nat) ⊕ Nat
def ll_up {α : Type} (f : Nat → α) (i : Nat) (x : α) : Nat → α := fun j => if j = i then x else f j
def ll_set (σ : ll_S) (i : Nat) (c : ll_C) : ll_S := (σ.1, σ.2.1, ll_up σ.2.2 i c)
def ll_add (σ : ll_S) (n : Nat) (c : ll_C) : ll_S := (σ.1 + 1, σ.2.1 + n, ll_up σ.2.2 σ.1 c)
def ll_ty (t : Nat) : FieldType := if t = 0 then .int else .boolean
def ll_cn (t : Nat) : String := match vwCl[t]? with
  | some q => q.1
  | none => ""
/-- the light value and the machine's -/
def ll_v (B : Nat → Prop) (adr : List Nat) (v w : Value) : Prop := match v with
  | .ref i => ∃ a, adr[i]? = some a ∧ w = .ref a
  | .float _ => ∃ b, B b ∧ w = .ref b
  | .int x => w = .int x
  | .long x => w = .long x
  | .null => w = .null
  | _ => False
def ll_q (adr : List Nat) (v w : Option Nat) : Prop := match v with
  | some i => ∃ a, adr[i]? = some a ∧ w = some a
  | none => w = none
def ll_st (B : Nat → Prop) (adr : List Nat) : List Value → List Value → Prop
  | [], [] => True
  | v :: a, w :: b => ll_v B adr v w ∧ ll_st B adr a b
  | _, _ => False
def ll_cr (B : Nat → Prop) (U : State) (adr : List Nat) (c : ll_C) (e : va_E) : Prop := match c with
  | .inl (t, n, f) => ∃ cA : ClassId, e = .inl (cA, n, .inl f) ∧ ArrOfT U cA (ll_ty t) ∧ va_RA U cA (ll_ty t)
  | .inr (.inl (t, n, g)) => ∃ (cA : ClassId) (g' : Nat → Option Nat), e = .inl (cA, n, .inr (.inr (.inr (.inr g')))) ∧ (∀ j, ll_q adr (g j) (g' j)) ∧ ArrOfT U cA (.object (ll_cn t)) ∧ va_RA U cA (.object (ll_cn t))
  | .inr (.inr (ci, f)) => ∃ fs : List Value, e = .inr (ci, fs) ∧ (∃ q, vwCl[ci]? = some q ∧ fs.length = q.2.2) ∧ ∀ (k : Nat) (v : Value), fs[k]? = some v → ll_v B adr (f k) v
def ll_W (B : Nat → Prop) (U : State) (D : va_G) (A : Nat → Prop) (adr : List Nat) (ws : va_W) (σ : ll_S) (H : Heap) : Prop :=
  va_P D vwCl ws H ∧ va_D A ws ∧ adr = ws.map Prod.fst ∧ ws.length = σ.1 ∧ ∀ (i a : Nat) (e : va_E), ws[i]? = some (a, e) → ll_cr B U adr (σ.2.2 i) e
def ll_L (B : Nat → Prop) (adr : List Nat) (ls : List Value) (mls : Array Slot) (nL : Nat) : Prop :=
  ls.length = nL ∧ ∃ lv : List (Nat × Value), lv_has mls nL lv ∧ ∀ (i : Nat) (v : Value), ls[i]? = some v → v ≠ .null → ∃ w, (i, w) ∈ lv ∧ ll_v B adr v w
/-- a word of the tables that stays -/
def ll_tb (w : Cond) : Prop := w ∈ lw_tbl ∧ goodWord w = true
/-- what the tables say of arrays of references, and of calls among nest mates: these words are carried by hand -/
def ll_aos : List String := ["InclusionProver$Side", "InclusionProver$Text", "InclusionProver$Room"]
def ll_nws : List (String × Nat × MethodName × String) := [("InclusionProver", 41, yX5_init, "InclusionProver"), ("InclusionProver", 48, yX1_init, "InclusionProver"), ("InclusionProver$Room", 22, yX5_init, "InclusionProver"), ("InclusionProver$Room", 33, yX1_init, "InclusionProver")]
def ll_Z (s : State) : Prop := (∀ C ∈ ll_aos, va_AO C s) ∧ ∀ q ∈ ll_nws, va_Nw (.methodLinkNest q.1 q.2.1 q.2.2.1 q.2.2.2) s
theorem ll_Z_warm {s U : State} (hW : s.WarmedH U.vm) (h : ll_Z s) : ll_Z U := ⟨fun C hC => (h.1 C hC).moved hW.alike, fun q hq => va_Nw.warmM hW (h.2 q hq)⟩
theorem ll_Z_vm {s U : State} (hvm : s.vm = U.vm) (h : ll_Z s) : ll_Z U := ⟨fun C hC => (h.1 C hC).moved (by rw [hvm]; exact Vm.Alike.refl _), fun q hq => va_tabs rfl hvm (h.2 q hq)⟩
/-- what holds throughout a method's body -/
def ll_X (cc : ByteArray) (nL : Nat) (own : String) (ini lw : Bool) (L : Nat) (xs : Nat → Int32) (B : Nat → Prop) (p : Program) (R : Room) (s : State) (m : MethodId) (args : Array Value) (meth : Method) (c : Code) (D : va_G) (A : Nat → Prop) : Prop :=
  p.tables.exec = Jvm.exec ∧ c.code = cc ∧ c.maxLocals = nL ∧ s.vm.findClass own = some m.cls ∧ (∀ w, ll_tb w → w.before args s = true) ∧ va_K D vwCl [] s ∧ (∀ q, s.heap.size ≤ q → A q) ∧ (ini = true → meth.name = "<init>") ∧ 1 ≤ R.frames ∧ 64 ≤ R.locals ∧
  (lw = true → ∀ b, B b → va_X b L xs s s.heap ∧ b < s.heap.size ∧ ¬ A b) ∧ ll_Z s
/-- a step of the light machine is one of the machine's -/
def ll_K (cc : ByteArray) (own : String) (ini lw : Bool) (L : Nat) (xs : Nat → Int32) (pc : Nat) (f : ll_G) : Prop :=
  ∀ (ls st : List Value) (σ : ll_S) (pc' : Nat) (ls' st' : List Value) (σ1 : ll_S), f ls st σ = some (pc', ls', st', σ1) → (σ.1 ≤ σ1.1 ∧ σ.2.1 ≤ σ1.2.1) ∧
    ∀ (B : Nat → Prop) (nL : Nat) (p : Program) (l : Launch) (e : Env) (R : Room) (s : State) (m : MethodId) (args : Array Value) (below : List Frame) (meth : Method) (c : Code) (D : va_G) (A : Nat → Prop) (Q : State → Prop),
    ll_X cc nL own ini lw L xs B p R s m args meth c D A → ∀ (adr : List Nat) (ws : va_W) (mls : Array Slot) (mst : List Value) (H : Heap) (locs : List Loc) (cells slots : Nat),
    ll_W B s D A adr ws σ H → va_S A s.heap H locs → ll_L B adr ls mls nL → ll_st B adr st mst → cells + (σ1.1 - σ.1) ≤ R.cells → slots + (σ1.2.1 - σ.2.1) ≤ R.slots →
    (∀ (adr' : List Nat) (ws' : va_W) (mls' : Array Slot) (mst' : List Value) (H' : Heap) (locs' : List Loc), (∃ z, adr' = adr ++ z) → ll_W B s D A adr' ws' σ1 H' → va_S A s.heap H' locs' → ll_L B adr' ls' mls' nL → ll_st B adr' st' mst' →
      W p l e R s m args below meth c H' locs' (cells + (σ1.1 - σ.1)) (slots + (σ1.2.1 - σ.2.1)) Q (F0 m pc' mls' mst')) →
    W p l e R s m args below meth c H locs cells slots Q (F0 m pc mls mst)
/-! small laws -/
theorem ll_v_app {B : Nat → Prop} {adr z : List Nat} {v w : Value} (h : ll_v B adr v w) : ll_v B (adr ++ z) v w := by
  cases v with
  | ref i =>
    obtain ⟨a, h1, h2⟩ := h
    exact ⟨a, by rw [List.getElem?_append_left (List.getElem?_eq_some_iff.mp h1).1]; exact h1, h2⟩
  | _ => exact h
theorem ll_q_app {adr z : List Nat} {v w : Option Nat} (h : ll_q adr v w) : ll_q (adr ++ z) v w := by
  cases v with
  | some i =>
    obtain ⟨a, h1, h2⟩ := h
    exact ⟨a, by rw [List.getElem?_append_left (List.getElem?_eq_some_iff.mp h1).1]; exact h1, h2⟩
  | none => exact h
theorem ll_st_app {B : Nat → Prop} {adr z : List Nat} : ∀ {a b : List Value}, ll_st B adr a b → ll_st B (adr ++ z) a b
  | [], [], _ => trivial
  | _ :: _, _ :: _, h => ⟨ll_v_app h.1, ll_st_app h.2⟩
  | [], _ :: _, h => h.elim
  | _ :: _, [], h => h.elim
theorem ll_st_inv {B : Nat → Prop} {adr : List Nat} {v : Value} {st mst : List Value} (h : ll_st B adr (v :: st) mst) : ∃ w mr, mst = w :: mr ∧ ll_v B adr v w ∧ ll_st B adr st mr := by
  cases mst with
  | nil => exact h.elim
  | cons w mr => exact ⟨w, mr, rfl, h.1, h.2⟩
theorem ll_st_int {B : Nat → Prop} {adr : List Nat} {x : Int32} {st mst : List Value} (h : ll_st B adr (.int x :: st) mst) : ∃ mr, mst = .int x :: mr ∧ ll_st B adr st mr := by
  obtain ⟨w, mr, h1, h2, h3⟩ := ll_st_inv h
  exact ⟨mr, by rw [h1, show w = .int x from h2], h3⟩
theorem ll_st_long {B : Nat → Prop} {adr : List Nat} {x : Int64} {st mst : List Value} (h : ll_st B adr (.long x :: st) mst) : ∃ mr, mst = .long x :: mr ∧ ll_st B adr st mr := by
  obtain ⟨w, mr, h1, h2, h3⟩ := ll_st_inv h
  exact ⟨mr, by rw [h1, show w = .long x from h2], h3⟩
theorem ll_st_ref {B : Nat → Prop} {adr : List Nat} {i : Nat} {st mst : List Value} (h : ll_st B adr (.ref i :: st) mst) : ∃ a mr, adr[i]? = some a ∧ mst = .ref a :: mr ∧ ll_st B adr st mr := by
  obtain ⟨w, mr, h1, ⟨a, h2, h4⟩, h3⟩ := ll_st_inv h
  exact ⟨a, mr, h2, by rw [h1, h4], h3⟩
theorem ll_st_len {B : Nat → Prop} {adr : List Nat} : ∀ {a b : List Value}, ll_st B adr a b → a.length = b.length
  | [], [], _ => rfl
  | _ :: _, _ :: _, h => by simp [ll_st_len h.2]
  | [], _ :: _, h => h.elim
  | _ :: _, [], h => h.elim
theorem ll_cr_app {B : Nat → Prop} {U : State} {adr z : List Nat} {c : ll_C} {e : va_E} (h : ll_cr B U adr c e) : ll_cr B U (adr ++ z) c e := by
  rcases c with ⟨t, n, f⟩ | ⟨t, n, g⟩ | ⟨ci, f⟩
  · exact h
  · obtain ⟨cA, g', h1, h2, h3⟩ := h
    exact ⟨cA, g', h1, fun j => ll_q_app (h2 j), h3⟩
  · obtain ⟨fs, h1, h2, h3⟩ := h
    exact ⟨fs, h1, h2, fun k v hk => ll_v_app (h3 k v hk)⟩
theorem ll_cr_moved {B : Nat → Prop} {u U : State} {adr : List Nat} {c : ll_C} {e : va_E} (hvm : u.vm.Alike U.vm) (h : ll_cr B u adr c e) : ll_cr B U adr c e := by
  rcases c with ⟨t, n, f⟩ | ⟨t, n, g⟩ | ⟨ci, f⟩
  · obtain ⟨cA, h1, h2, h3⟩ := h
    exact ⟨cA, h1, arrOfT_moved hvm h2, h3.moved hvm⟩
  · obtain ⟨cA, g', h1, h2, h3, h4⟩ := h
    exact ⟨cA, g', h1, h2, arrOfT_moved hvm h3, h4.moved hvm⟩
  · exact h
theorem ll_W_moved {B : Nat → Prop} {u U : State} {D : va_G} {A : Nat → Prop} {adr : List Nat} {ws : va_W} {σ : ll_S} {H : Heap} (hvm : u.vm.Alike U.vm) (h : ll_W B u D A adr ws σ H) : ll_W B U D A adr ws σ H :=
  ⟨h.1, h.2.1, h.2.2.1, h.2.2.2.1, fun i a e hi => ll_cr_moved hvm (h.2.2.2.2 i a e hi)⟩
theorem ll_L_app {B : Nat → Prop} {adr z : List Nat} {ls : List Value} {mls : Array Slot} {nL : Nat} (h : ll_L B adr ls mls nL) : ll_L B (adr ++ z) ls mls nL := by
  obtain ⟨h1, lv, h2, h3⟩ := h
  refine ⟨h1, lv, h2, fun i v hi hn => ?_⟩
  obtain ⟨w, q1, q2⟩ := h3 i v hi hn
  exact ⟨w, q1, ll_v_app q2⟩
/-- the cell behind a reference -/
theorem ll_W_at {B : Nat → Prop} {U : State} {D : va_G} {A : Nat → Prop} {adr : List Nat} {ws : va_W} {σ : ll_S} {H : Heap} (h : ll_W B U D A adr ws σ H) {i a : Nat} (hi : adr[i]? = some a) : ∃ e, ws[i]? = some (a, e) ∧ ll_cr B U adr (σ.2.2 i) e := by
  rw [h.2.2.1, List.getElem?_map] at hi
  cases hq : ws[i]? with
  | none => rw [hq] at hi; cases hi
  | some q =>
    rw [hq] at hi
    have e1 : q.1 = a := by simpa using hi
    obtain ⟨q1, q2⟩ := q
    cases e1
    exact ⟨q2, rfl, h.2.2.2.2 i _ _ hq⟩
/-- a cell is written -/
theorem ll_W_set {B : Nat → Prop} {U : State} {D : va_G} {A : Nat → Prop} {adr : List Nat} {ws : va_W} {σ : ll_S} {H H1 : Heap} (h : ll_W B U D A adr ws σ H) {i a : Nat} {e0 e : va_E} {c : ll_C} (hi : ws[i]? = some (a, e0)) (hP : va_P D vwCl (ws.set i (a, e)) H1) (hD : va_D A (ws.set i (a, e))) (hc : ll_cr B U adr c e) : ll_W B U D A adr (ws.set i (a, e)) (ll_set σ i c) H1 := by
  obtain ⟨-, -, h3, h4, h5⟩ := h
  have hlt : i < ws.length := (List.getElem?_eq_some_iff.mp hi).1
  refine ⟨hP, hD, ?_, by rw [List.length_set]; exact h4, fun j b e' hj => ?_⟩
  · rw [h3, List.map_set]
    apply List.ext_getElem?
    intro j
    rw [List.getElem?_set]
    by_cases hj : i = j
    · subst hj
      have hz := (List.getElem?_eq_some_iff.mp hi).2
      simp [hlt, hz]
    · simp [hj]
  · show ll_cr B U adr (ll_up σ.2.2 i c j) e'
    rw [List.getElem?_set] at hj
    by_cases hij : i = j
    · subst hij
      rw [if_pos rfl, if_pos hlt] at hj
      cases hj
      simp only [ll_up, if_true]
      exact hc
    · rw [if_neg hij] at hj
      rw [ll_up, if_neg (fun q => hij q.symm)]
      exact h5 j b e' hj
/-- a cell is made -/
theorem ll_W_new {B : Nat → Prop} {U : State} {D : va_G} {A : Nat → Prop} {adr : List Nat} {ws : va_W} {σ : ll_S} {H H1 : Heap} (h : ll_W B U D A adr ws σ H) {a n : Nat} {e : va_E} {c : ll_C} (hP : va_P D vwCl (ws ++ [(a, e)]) H1) (hD : va_D A (ws ++ [(a, e)])) (hc : ll_cr B U (adr ++ [a]) c e) : ll_W B U D A (adr ++ [a]) (ws ++ [(a, e)]) (ll_add σ n c) H1 ∧ (adr ++ [a])[σ.1]? = some a := by
  obtain ⟨-, -, h3, h4, h5⟩ := h
  have hl : adr.length = σ.1 := by rw [h3, List.length_map]; exact h4
  refine ⟨⟨hP, hD, by rw [h3]; simp, by simp [ll_add, h4], fun j b e' hj => ?_⟩, by rw [← hl]; simp⟩
  show ll_cr B U (adr ++ [a]) (ll_up σ.2.2 σ.1 c j) e'
  by_cases hlt : j < ws.length
  · rw [List.getElem?_append_left hlt] at hj
    rw [ll_up, if_neg (by omega)]
    exact ll_cr_app (h5 j b e' hj)
  · rw [List.getElem?_append_right (by omega)] at hj
    have hz : j - ws.length < 1 := (List.getElem?_eq_some_iff.mp hj).1
    have hj0 : j = σ.1 := by omega
    subst hj0
    rw [h4, Nat.sub_self] at hj
    cases hj
    rw [ll_up, if_pos rfl]
    exact hc
end
section
/-! THE STEPS, and that each is the machine's. -/
def lo_push (n : Nat) (v : Value) : ll_G := fun ls st σ => some (n, ls, v :: st, σ)
def lo_iload (n i : Nat) : ll_G := fun ls st σ => match ls[i]? with
  | some (.int x) => some (n, ls, .int x :: st, σ)
  | _ => none
def lo_lload (n i : Nat) : ll_G := fun ls st σ => match ls[i]? with
  | some (.long x) => some (n, ls, .long x :: st, σ)
  | _ => none
def lo_aload (n i : Nat) : ll_G := fun ls st σ => match ls[i]? with
  | some (.ref x) => some (n, ls, .ref x :: st, σ)
  | some (.float x) => some (n, ls, .float x :: st, σ)
  | _ => none
/-- the local before is none of two words -/
def ll_no2 (ls : List Value) (i : Nat) : Bool := match i with
  | 0 => true
  | j + 1 => match ls[j]? with
    | some (.long _) => false
    | some (.double _) => false
    | _ => true
def lo_istore (n i : Nat) : ll_G := fun ls st σ => match st with
  | .int x :: r => if i < ls.length ∧ ll_no2 ls i = true then some (n, ls.set i (.int x), r, σ) else none
  | _ => none
def lo_astore (n i : Nat) : ll_G := fun ls st σ => match st with
  | .ref x :: r => if i < ls.length ∧ ll_no2 ls i = true then some (n, ls.set i (.ref x), r, σ) else none
  | _ => none
def lo_iinc (n i : Nat) (k : Int32) : ll_G := fun ls st σ => match ls[i]? with
  | some (.int x) => if ll_no2 ls i = true then some (n, ls.set i (.int (x + k)), st, σ) else none
  | _ => none
def lo_bin (n : Nat) (g : Int32 → Int32 → Int32) : ll_G := fun ls st σ => match st with
  | .int y :: .int x :: r => some (n, ls, .int (g x y) :: r, σ)
  | _ => none
def lo_div (n : Nat) (g : Int32 → Int32 → Int32) : ll_G := fun ls st σ => match st with
  | .int y :: .int x :: r => if y = 0 then none else some (n, ls, .int (g x y) :: r, σ)
  | _ => none
def lo_lbin (n : Nat) (g : Int64 → Int64 → Int64) : ll_G := fun ls st σ => match st with
  | .long y :: .long x :: r => some (n, ls, .long (g x y) :: r, σ)
  | _ => none
def lo_lsh (n : Nat) (g : Int64 → Int32 → Int64) : ll_G := fun ls st σ => match st with
  | .int y :: .long x :: r => some (n, ls, .long (g x y) :: r, σ)
  | _ => none
def lo_i2l (n : Nat) : ll_G := fun ls st σ => match st with
  | .int x :: r => some (n, ls, .long x.toInt64 :: r, σ)
  | _ => none
def lo_l2i (n : Nat) : ll_G := fun ls st σ => match st with
  | .long x :: r => some (n, ls, .int x.toInt32 :: r, σ)
  | _ => none
def lo_lcmp (n : Nat) : ll_G := fun ls st σ => match st with
  | .long y :: .long x :: r => some (n, ls, .int (lg_cmp x y) :: r, σ)
  | _ => none
/-- a value of one word -/
def ll_one (v : Value) : Bool := match v with
  | .int _ => true
  | .ref _ => true
  | .float _ => true
  | .null => true
  | _ => false
def lo_dup (n : Nat) : ll_G := fun ls st σ => match st with
  | v :: r => if ll_one v = true then some (n, ls, v :: v :: r, σ) else none
  | _ => none
def lo_dup2 (n : Nat) : ll_G := fun ls st σ => match st with
  | v :: w :: r => if ll_one v = true ∧ ll_one w = true then some (n, ls, v :: w :: v :: w :: r, σ) else none
  | _ => none
def lo_pop (n : Nat) : ll_G := fun ls st σ => match st with
  | v :: r => if ll_one v = true then some (n, ls, r, σ) else none
  | _ => none
def lo_goto (t : Nat) : ll_G := fun ls st σ => some (t, ls, st, σ)
def lo_if (t n : Nat) (g : Int32 → Bool) : ll_G := fun ls st σ => match st with
  | .int x :: r => if g x = true then some (t, ls, r, σ) else some (n, ls, r, σ)
  | _ => none
def lo_cmp (t n : Nat) (g : Int32 → Int32 → Bool) : ll_G := fun ls st σ => match st with
  | .int y :: .int x :: r => if g x y = true then some (t, ls, r, σ) else some (n, ls, r, σ)
  | _ => none
/-- tableswitch over 0, 1 .. or lo, lo + 1 .. -/
def lo_tab (lo : Int) (ts : List Nat) (d : Nat) : ll_G := fun ls st σ => match st with
  | .int x :: r => if x.toInt < lo then some (d, ls, r, σ) else some (ts.getD (x.toInt - lo).toNat d, ls, r, σ)
  | _ => none
section LK
variable {cc : ByteArray} {own : String} {ini lw : Bool} {L : Nat} {xs : Nat → Int32} {pc : Nat}
/-- steps on the operand stack alone -/
theorem ll_kst {f : ll_G} (h : ∀ (ls st : List Value) (σ : ll_S) (pc' : Nat) (ls' st' : List Value) (σ1 : ll_S), f ls st σ = some (pc', ls', st', σ1) → ls' = ls ∧ σ1 = σ ∧
    ∀ (B : Nat → Prop) (nL : Nat) (p : Program) (l : Launch) (e : Env) (R : Room) (s : State) (m : MethodId) (args : Array Value) (below : List Frame) (meth : Method) (c : Code) (D : va_G) (A : Nat → Prop) (Q : State → Prop),
    ll_X cc nL own ini lw L xs B p R s m args meth c D A → ∀ (adr : List Nat) (mls : Array Slot) (mst : List Value) (H : Heap) (locs : List Loc) (cells slots : Nat), ll_L B adr ls mls nL → ll_st B adr st mst →
      ∃ mst', ll_st B adr st' mst' ∧ (W p l e R s m args below meth c H locs cells slots Q (F0 m pc' mls mst') → W p l e R s m args below meth c H locs cells slots Q (F0 m pc mls mst))) : ll_K cc own ini lw L xs pc f := by
  intro ls st σ pc' ls' st' σ1 hf
  obtain ⟨rfl, rfl, h3⟩ := h ls st σ pc' ls' st' σ1 hf
  refine ⟨⟨Nat.le_refl _, Nat.le_refl _⟩, ?_⟩
  intro B nL p l e R s m args below meth c D A Q cx adr ws mls mst H locs cells slots hW hS hL hst _ _ kk
  obtain ⟨mst', q1, q2⟩ := h3 B nL p l e R s m args below meth c D A Q cx adr mls mst H locs cells slots hL hst
  have k2 := kk adr ws mls mst' H locs ⟨[], by simp⟩ hW hS hL q1
  rw [Nat.sub_self, Nat.sub_self] at k2
  exact q2 k2
theorem lk_iconst {n : Int} {v : Int32} (hd : decode cc pc = .ok (.iconst n, 1)) (hv : Int32.ofInt n = v) : ll_K cc own ini lw L xs pc (lo_push (pc + 1) (.int v)) := by
  refine ll_kst fun ls st σ pc' ls' st' σ1 hf => ?_
  cases hf
  refine ⟨rfl, rfl, fun B nL p l e R s m args below meth c D A Q cx adr mls mst H locs cells slots hL hst => ⟨.int v :: mst, ⟨rfl, hst⟩, fun k => lv_iconst cx.1 cx.2.1 hd hv k⟩⟩
theorem lk_bipush {n : Int} {v : Int32} (hd : decode cc pc = .ok (.bipush n, 2)) (hv : (Int8.ofInt n).toInt32 = v) : ll_K cc own ini lw L xs pc (lo_push (pc + 2) (.int v)) := by
  refine ll_kst fun ls st σ pc' ls' st' σ1 hf => ?_
  cases hf
  refine ⟨rfl, rfl, fun B nL p l e R s m args below meth c D A Q cx adr mls mst H locs cells slots hL hst => ⟨.int v :: mst, ⟨rfl, hst⟩, fun k => lv_bipush cx.1 cx.2.1 hd hv k⟩⟩
theorem lk_sipush {n : Int} {v : Int32} (hd : decode cc pc = .ok (.sipush n, 3)) (hv : (Int16.ofInt n).toInt32 = v) : ll_K cc own ini lw L xs pc (lo_push (pc + 3) (.int v)) := by
  refine ll_kst fun ls st σ pc' ls' st' σ1 hf => ?_
  cases hf
  refine ⟨rfl, rfl, fun B nL p l e R s m args below meth c D A Q cx adr mls mst H locs cells slots hL hst => ⟨.int v :: mst, ⟨rfl, hst⟩, fun k => lv_sipush cx.1 cx.2.1 hd hv k⟩⟩
theorem lk_lconst {n : Fin 2} {v : Int64} (hd : decode cc pc = .ok (.lconst n, 1)) (hv : Int64.ofNat (n : Nat) = v) : ll_K cc own ini lw L xs pc (lo_push (pc + 1) (.long v)) := by
  refine ll_kst fun ls st σ pc' ls' st' σ1 hf => ?_
  cases hf
  refine ⟨rfl, rfl, fun B nL p l e R s m args below meth c D A Q cx adr mls mst H locs cells slots hL hst => ⟨.long v :: mst, ⟨rfl, hst⟩, fun k => lv_lconst cx.1 cx.2.1 hd hv k⟩⟩
theorem lk_ldc {ix : Nat} {v : Int32} (hd : decode cc pc = .ok (.ldc ix, 2)) (hw : ll_tb (.constant own ix v)) : ll_K cc own ini lw L xs pc (lo_push (pc + 2) (.int v)) := by
  refine ll_kst fun ls st σ pc' ls' st' σ1 hf => ?_
  cases hf
  refine ⟨rfl, rfl, fun B nL p l e R s m args below meth c D A Q cx adr mls mst H locs cells slots hL hst => ⟨.int v :: mst, ⟨rfl, hst⟩, fun k => lv_ldc cx.1 cx.2.1 cx.2.2.2.1 (cx.2.2.2.2.1 _ hw) hd k⟩⟩
theorem lk_ldc2 {ix : Nat} {v : Int64} (hd : decode cc pc = .ok (.ldc2_w ix, 3)) (hw : ll_tb (.constantLong own ix v)) : ll_K cc own ini lw L xs pc (lo_push (pc + 3) (.long v)) := by
  refine ll_kst fun ls st σ pc' ls' st' σ1 hf => ?_
  cases hf
  refine ⟨rfl, rfl, fun B nL p l e R s m args below meth c D A Q cx adr mls mst H locs cells slots hL hst => ⟨.long v :: mst, ⟨rfl, hst⟩, fun k => lv_ldc2 cx.1 cx.2.1 cx.2.2.2.1 (cx.2.2.2.2.1 _ hw) hd k⟩⟩
/-- what a local holds -/
theorem ll_L_at {B : Nat → Prop} {adr : List Nat} {ls : List Value} {mls : Array Slot} {nL i : Nat} {v : Value} (h : ll_L B adr ls mls nL) (hi : ls[i]? = some v) (hn : v ≠ .null) : ∃ w, mls[i]? = some (.val w) ∧ ll_v B adr v w := by
  obtain ⟨-, lv, h2, h3⟩ := h
  obtain ⟨w, q1, q2⟩ := h3 i v hi hn
  exact ⟨w, h2.2.2 (i, w) q1, q2⟩
theorem lo_iload_inv {n i : Nat} {ls st : List Value} {σ : ll_S} {r : ll_F} (h : lo_iload n i ls st σ = some r) : ∃ x, ls[i]? = some (.int x) ∧ r = (n, ls, .int x :: st, σ) := by
  unfold lo_iload at h
  split at h
  · rename_i x hx
    exact ⟨x, hx, (Option.some.inj h).symm⟩
  · cases h
theorem lo_lload_inv {n i : Nat} {ls st : List Value} {σ : ll_S} {r : ll_F} (h : lo_lload n i ls st σ = some r) : ∃ x, ls[i]? = some (.long x) ∧ r = (n, ls, .long x :: st, σ) := by
  unfold lo_lload at h
  split at h
  · rename_i x hx
    exact ⟨x, hx, (Option.some.inj h).symm⟩
  · cases h
theorem lo_aload_inv {n i : Nat} {ls st : List Value} {σ : ll_S} {r : ll_F} (h : lo_aload n i ls st σ = some r) : ∃ v, ls[i]? = some v ∧ v ≠ .null ∧ (∀ (B : Nat → Prop) (adr : List Nat) (w : Value), ll_v B adr v w → ∃ a, w = .ref a) ∧ r = (n, ls, v :: st, σ) := by
  unfold lo_aload at h
  split at h
  · rename_i x hx
    exact ⟨.ref x, hx, (fun q => by cases q), fun B adr w q => by obtain ⟨a, -, q2⟩ := q; exact ⟨a, q2⟩, (Option.some.inj h).symm⟩
  · rename_i x hx
    exact ⟨.float x, hx, (fun q => by cases q), fun B adr w q => by obtain ⟨a, -, q2⟩ := q; exact ⟨a, q2⟩, (Option.some.inj h).symm⟩
  · cases h
theorem lk_iload_n {k : Fin 4} {i : Nat} (hd : decode cc pc = .ok (.iload_n k, 1)) (hk : (k : Nat) = i) : ll_K cc own ini lw L xs pc (lo_iload (pc + 1) i) := by
  refine ll_kst fun ls st σ pc' ls' st' σ1 hf => ?_
  obtain ⟨x, hx, he⟩ := lo_iload_inv hf
  cases he
  refine ⟨rfl, rfl, fun B nL p l e R s m args below meth c D A Q cx adr mls mst H locs cells slots hL hst => ?_⟩
  obtain ⟨w, q1, q2⟩ := ll_L_at hL hx (fun q => by cases q)
  rw [show w = .int x from q2] at q1
  exact ⟨.int x :: mst, ⟨rfl, hst⟩, fun k => lv_iload_n cx.1 cx.2.1 hd hk q1 k⟩
theorem lk_iload {i : Nat} (hd : decode cc pc = .ok (.iload i, 2)) : ll_K cc own ini lw L xs pc (lo_iload (pc + 2) i) := by
  refine ll_kst fun ls st σ pc' ls' st' σ1 hf => ?_
  obtain ⟨x, hx, he⟩ := lo_iload_inv hf
  cases he
  refine ⟨rfl, rfl, fun B nL p l e R s m args below meth c D A Q cx adr mls mst H locs cells slots hL hst => ?_⟩
  obtain ⟨w, q1, q2⟩ := ll_L_at hL hx (fun q => by cases q)
  rw [show w = .int x from q2] at q1
  exact ⟨.int x :: mst, ⟨rfl, hst⟩, fun k => lv_iload cx.1 cx.2.1 hd q1 k⟩
theorem lk_lload_n {k : Fin 4} {i : Nat} (hd : decode cc pc = .ok (.lload_n k, 1)) (hk : (k : Nat) = i) : ll_K cc own ini lw L xs pc (lo_lload (pc + 1) i) := by
  refine ll_kst fun ls st σ pc' ls' st' σ1 hf => ?_
  obtain ⟨x, hx, he⟩ := lo_lload_inv hf
  cases he
  refine ⟨rfl, rfl, fun B nL p l e R s m args below meth c D A Q cx adr mls mst H locs cells slots hL hst => ?_⟩
  obtain ⟨w, q1, q2⟩ := ll_L_at hL hx (fun q => by cases q)
  rw [show w = .long x from q2] at q1
  exact ⟨.long x :: mst, ⟨rfl, hst⟩, fun k => lv_lload_n cx.1 cx.2.1 hd hk q1 k⟩
theorem lk_aload_n {k : Fin 4} {i : Nat} (hd : decode cc pc = .ok (.aload_n k, 1)) (hk : (k : Nat) = i) : ll_K cc own ini lw L xs pc (lo_aload (pc + 1) i) := by
  refine ll_kst fun ls st σ pc' ls' st' σ1 hf => ?_
  obtain ⟨v, hx, hn, hr, he⟩ := lo_aload_inv hf
  cases he
  refine ⟨rfl, rfl, fun B nL p l e R s m args below meth c D A Q cx adr mls mst H locs cells slots hL hst => ?_⟩
  obtain ⟨w, q1, q2⟩ := ll_L_at hL hx hn
  obtain ⟨a, rfl⟩ := hr B adr w q2
  exact ⟨.ref a :: mst, ⟨q2, hst⟩, fun k => lv_aload_n cx.1 cx.2.1 hd hk q1 k⟩
theorem lk_aload {i : Nat} (hd : decode cc pc = .ok (.aload i, 2)) : ll_K cc own ini lw L xs pc (lo_aload (pc + 2) i) := by
  refine ll_kst fun ls st σ pc' ls' st' σ1 hf => ?_
  obtain ⟨v, hx, hn, hr, he⟩ := lo_aload_inv hf
  cases he
  refine ⟨rfl, rfl, fun B nL p l e R s m args below meth c D A Q cx adr mls mst H locs cells slots hL hst => ?_⟩
  obtain ⟨w, q1, q2⟩ := ll_L_at hL hx hn
  obtain ⟨a, rfl⟩ := hr B adr w q2
  exact ⟨.ref a :: mst, ⟨q2, hst⟩, fun k => lv_aload cx.1 cx.2.1 hd q1 k⟩
/-- a local is written -/
theorem ll_L_set {B : Nat → Prop} {adr : List Nat} {ls : List Value} {mls mls' : Array Slot} {nL i : Nat} {v w : Value} {lv : List (Nat × Value)} (hl : ls.length = nL) (h3 : ∀ (i : Nat) (v : Value), ls[i]? = some v → v ≠ .null → ∃ w, (i, w) ∈ lv ∧ ll_v B adr v w) (hi : i < ls.length) (hno : ll_no2 ls i = true) (hv : ll_v B adr v w)
    (h' : lv_has mls' nL ((i, w) :: lv.filter (fun q => !(q.1 == i) && !(q.1 + 1 == i && q.2.category == 2)))) : ll_L B adr (ls.set i v) mls' nL := by
  refine ⟨by rw [List.length_set]; exact hl, _, h', fun j u hj hn => ?_⟩
  rw [List.getElem?_set] at hj
  by_cases hij : i = j
  · subst hij
    rw [if_pos rfl, if_pos hi] at hj
    cases hj
    exact ⟨w, List.mem_cons_self, hv⟩
  · rw [if_neg hij] at hj
    obtain ⟨w', q1, q2⟩ := h3 j u hj hn
    refine ⟨w', List.mem_cons_of_mem _ (List.mem_filter.mpr ⟨q1, ?_⟩), q2⟩
    have e1 : (j == i) = false := by simpa using fun q => hij q.symm
    by_cases e2 : j + 1 = i
    · subst e2
      have e3 : (w'.category == 2) = false := by
        simp only [ll_no2, hj] at hno
        cases u with
        | int x => rw [show w' = .int x from q2]; rfl
        | long x => simp at hno
        | float x => obtain ⟨b, -, rfl⟩ := q2; rfl
        | double x => simp at hno
        | null => exact absurd rfl hn
        | ref a => obtain ⟨b, -, rfl⟩ := q2; rfl
        | retAddr a => exact False.elim q2
      simp [e3]
    · simp [e1, e2]
theorem lo_istore_inv {n i : Nat} {ls st : List Value} {σ : ll_S} {r : ll_F} (h : lo_istore n i ls st σ = some r) : ∃ x rest, st = .int x :: rest ∧ i < ls.length ∧ ll_no2 ls i = true ∧ r = (n, ls.set i (.int x), rest, σ) := by
  unfold lo_istore at h
  split at h
  · rename_i x rest
    split at h
    · rename_i hc
      exact ⟨x, rest, rfl, hc.1, hc.2, (Option.some.inj h).symm⟩
    · cases h
  · cases h
theorem lo_astore_inv {n i : Nat} {ls st : List Value} {σ : ll_S} {r : ll_F} (h : lo_astore n i ls st σ = some r) : ∃ x rest, st = .ref x :: rest ∧ i < ls.length ∧ ll_no2 ls i = true ∧ r = (n, ls.set i (.ref x), rest, σ) := by
  unfold lo_astore at h
  split at h
  · rename_i x rest
    split at h
    · rename_i hc
      exact ⟨x, rest, rfl, hc.1, hc.2, (Option.some.inj h).symm⟩
    · cases h
  · cases h
theorem lo_iinc_inv {n i : Nat} {k : Int32} {ls st : List Value} {σ : ll_S} {r : ll_F} (h : lo_iinc n i k ls st σ = some r) : ∃ x, ls[i]? = some (.int x) ∧ ll_no2 ls i = true ∧ r = (n, ls.set i (.int (x + k)), st, σ) := by
  unfold lo_iinc at h
  split at h
  · rename_i x hx
    split at h
    · rename_i hc
      exact ⟨x, hx, hc, (Option.some.inj h).symm⟩
    · cases h
  · cases h
/-- steps on locals and operand stack -/
theorem ll_kls {f : ll_G} (h : ∀ (ls st : List Value) (σ : ll_S) (pc' : Nat) (ls' st' : List Value) (σ1 : ll_S), f ls st σ = some (pc', ls', st', σ1) → σ1 = σ ∧
    ∀ (B : Nat → Prop) (nL : Nat) (p : Program) (l : Launch) (e : Env) (R : Room) (s : State) (m : MethodId) (args : Array Value) (below : List Frame) (meth : Method) (c : Code) (D : va_G) (A : Nat → Prop) (Q : State → Prop),
    ll_X cc nL own ini lw L xs B p R s m args meth c D A → ∀ (adr : List Nat) (mls : Array Slot) (mst : List Value) (H : Heap) (locs : List Loc) (cells slots : Nat), ll_L B adr ls mls nL → ll_st B adr st mst →
      (∀ (mls' : Array Slot) (mst' : List Value), ll_L B adr ls' mls' nL → ll_st B adr st' mst' → W p l e R s m args below meth c H locs cells slots Q (F0 m pc' mls' mst')) → W p l e R s m args below meth c H locs cells slots Q (F0 m pc mls mst)) : ll_K cc own ini lw L xs pc f := by
  intro ls st σ pc' ls' st' σ1 hf
  obtain ⟨rfl, h3⟩ := h ls st σ pc' ls' st' σ1 hf
  refine ⟨⟨Nat.le_refl _, Nat.le_refl _⟩, ?_⟩
  intro B nL p l e R s m args below meth c D A Q cx adr ws mls mst H locs cells slots hW hS hL hst _ _ kk
  refine h3 B nL p l e R s m args below meth c D A Q cx adr mls mst H locs cells slots hL hst fun mls' mst' q1 q2 => ?_
  have k2 := kk adr ws mls' mst' H locs ⟨[], by simp⟩ hW hS q1 q2
  rw [Nat.sub_self, Nat.sub_self] at k2
  exact k2
theorem lk_istore_n {k : Fin 4} {i : Nat} (hd : decode cc pc = .ok (.istore_n k, 1)) (hk : (k : Nat) = i) : ll_K cc own ini lw L xs pc (lo_istore (pc + 1) i) := by
  refine ll_kls fun ls st σ pc' ls' st' σ1 hf => ?_
  obtain ⟨x, rest, rfl, hi, hno, he⟩ := lo_istore_inv hf
  cases he
  refine ⟨rfl, fun B nL p l e R s m args below meth c D A Q cx adr mls mst H locs cells slots hL hst kk => ?_⟩
  obtain ⟨mr, rfl, hr⟩ := ll_st_int hst
  obtain ⟨hl, lv, h2, h3⟩ := hL
  exact lv_istore_n cx.1 cx.2.1 hd hk h2 (by omega) rfl fun mls' h' => kk mls' mr (ll_L_set (mls := mls) hl h3 hi hno rfl h') hr
theorem lk_istore {i : Nat} (hd : decode cc pc = .ok (.istore i, 2)) : ll_K cc own ini lw L xs pc (lo_istore (pc + 2) i) := by
  refine ll_kls fun ls st σ pc' ls' st' σ1 hf => ?_
  obtain ⟨x, rest, rfl, hi, hno, he⟩ := lo_istore_inv hf
  cases he
  refine ⟨rfl, fun B nL p l e R s m args below meth c D A Q cx adr mls mst H locs cells slots hL hst kk => ?_⟩
  obtain ⟨mr, rfl, hr⟩ := ll_st_int hst
  obtain ⟨hl, lv, h2, h3⟩ := hL
  exact lv_istore cx.1 cx.2.1 hd h2 (by omega) rfl fun mls' h' => kk mls' mr (ll_L_set (mls := mls) hl h3 hi hno rfl h') hr
theorem lk_astore_n {k : Fin 4} {i : Nat} (hd : decode cc pc = .ok (.astore_n k, 1)) (hk : (k : Nat) = i) : ll_K cc own ini lw L xs pc (lo_astore (pc + 1) i) := by
  refine ll_kls fun ls st σ pc' ls' st' σ1 hf => ?_
  obtain ⟨x, rest, rfl, hi, hno, he⟩ := lo_astore_inv hf
  cases he
  refine ⟨rfl, fun B nL p l e R s m args below meth c D A Q cx adr mls mst H locs cells slots hL hst kk => ?_⟩
  obtain ⟨a, mr, ha, rfl, hr⟩ := ll_st_ref hst
  obtain ⟨hl, lv, h2, h3⟩ := hL
  exact lv_astore_n cx.1 cx.2.1 hd hk h2 (by omega) rfl fun mls' h' => kk mls' mr (ll_L_set (mls := mls) hl h3 hi hno ⟨a, ha, rfl⟩ h') hr
theorem lk_astore {i : Nat} (hd : decode cc pc = .ok (.astore i, 2)) : ll_K cc own ini lw L xs pc (lo_astore (pc + 2) i) := by
  refine ll_kls fun ls st σ pc' ls' st' σ1 hf => ?_
  obtain ⟨x, rest, rfl, hi, hno, he⟩ := lo_astore_inv hf
  cases he
  refine ⟨rfl, fun B nL p l e R s m args below meth c D A Q cx adr mls mst H locs cells slots hL hst kk => ?_⟩
  obtain ⟨a, mr, ha, rfl, hr⟩ := ll_st_ref hst
  obtain ⟨hl, lv, h2, h3⟩ := hL
  exact lv_astore cx.1 cx.2.1 hd h2 (by omega) rfl fun mls' h' => kk mls' mr (ll_L_set (mls := mls) hl h3 hi hno ⟨a, ha, rfl⟩ h') hr
theorem lk_iinc {i : Nat} {n : Int} {k : Int32} (hd : decode cc pc = .ok (.iinc i n, 3)) (hk : Int32.ofInt n = k) : ll_K cc own ini lw L xs pc (lo_iinc (pc + 3) i k) := by
  subst hk
  refine ll_kls fun ls st σ pc' ls' st' σ1 hf => ?_
  obtain ⟨x, hx, hno, he⟩ := lo_iinc_inv hf
  cases he
  refine ⟨rfl, fun B nL p l e R s m args below meth c D A Q cx adr mls mst H locs cells slots hL hst kk => ?_⟩
  have hi : i < ls.length := (List.getElem?_eq_some_iff.mp hx).1
  obtain ⟨hl, lv, h2, h3⟩ := hL
  obtain ⟨w, q1, q2⟩ := h3 i _ hx (fun q => by cases q)
  rw [show w = .int x from q2] at q1
  obtain ⟨j, hj⟩ := List.getElem?_of_mem q1
  exact lv_iinc cx.1 cx.2.1 hd h2 hj rfl (by omega) rfl fun mls' h' => kk mls' mst (ll_L_set (mls := mls) hl h3 hi hno rfl h') hst
theorem lo_bin_inv {n : Nat} {g : Int32 → Int32 → Int32} {ls st : List Value} {σ : ll_S} {r : ll_F} (h : lo_bin n g ls st σ = some r) : ∃ x y rest, st = .int y :: .int x :: rest ∧ r = (n, ls, .int (g x y) :: rest, σ) := by
  unfold lo_bin at h
  split at h
  · rename_i y x rest
    exact ⟨x, y, rest, rfl, (Option.some.inj h).symm⟩
  · cases h
theorem lo_div_inv {n : Nat} {g : Int32 → Int32 → Int32} {ls st : List Value} {σ : ll_S} {r : ll_F} (h : lo_div n g ls st σ = some r) : ∃ x y rest, st = .int y :: .int x :: rest ∧ ¬ y = 0 ∧ r = (n, ls, .int (g x y) :: rest, σ) := by
  unfold lo_div at h
  split at h
  · rename_i y x rest
    split at h
    · cases h
    · rename_i hy
      exact ⟨x, y, rest, rfl, hy, (Option.some.inj h).symm⟩
  · cases h
theorem lo_lbin_inv {n : Nat} {g : Int64 → Int64 → Int64} {ls st : List Value} {σ : ll_S} {r : ll_F} (h : lo_lbin n g ls st σ = some r) : ∃ x y rest, st = .long y :: .long x :: rest ∧ r = (n, ls, .long (g x y) :: rest, σ) := by
  unfold lo_lbin at h
  split at h
  · rename_i y x rest
    exact ⟨x, y, rest, rfl, (Option.some.inj h).symm⟩
  · cases h
theorem lo_lsh_inv {n : Nat} {g : Int64 → Int32 → Int64} {ls st : List Value} {σ : ll_S} {r : ll_F} (h : lo_lsh n g ls st σ = some r) : ∃ x y rest, st = .int y :: .long x :: rest ∧ r = (n, ls, .long (g x y) :: rest, σ) := by
  unfold lo_lsh at h
  split at h
  · rename_i y x rest
    exact ⟨x, y, rest, rfl, (Option.some.inj h).symm⟩
  · cases h
theorem lk_iadd (hd : decode cc pc = .ok (.iadd, 1)) : ll_K cc own ini lw L xs pc (lo_bin (pc + 1) (fun x y => x + y)) := by
  refine ll_kst fun ls st σ pc' ls' st' σ1 hf => ?_
  obtain ⟨x, y, rest, rfl, he⟩ := lo_bin_inv hf
  cases he
  refine ⟨rfl, rfl, fun B nL p l e R s m args below meth c D A Q cx adr mls mst H locs cells slots hL hst => ?_⟩
  obtain ⟨m1, rfl, h1⟩ := ll_st_int hst
  obtain ⟨m2, rfl, h2⟩ := ll_st_int h1
  exact ⟨_ :: m2, ⟨rfl, h2⟩, fun k => lv_iadd cx.1 cx.2.1 hd k⟩
theorem lk_isub (hd : decode cc pc = .ok (.isub, 1)) : ll_K cc own ini lw L xs pc (lo_bin (pc + 1) (fun x y => x - y)) := by
  refine ll_kst fun ls st σ pc' ls' st' σ1 hf => ?_
  obtain ⟨x, y, rest, rfl, he⟩ := lo_bin_inv hf
  cases he
  refine ⟨rfl, rfl, fun B nL p l e R s m args below meth c D A Q cx adr mls mst H locs cells slots hL hst => ?_⟩
  obtain ⟨m1, rfl, h1⟩ := ll_st_int hst
  obtain ⟨m2, rfl, h2⟩ := ll_st_int h1
  exact ⟨_ :: m2, ⟨rfl, h2⟩, fun k => lv_isub cx.1 cx.2.1 hd k⟩
theorem lk_imul (hd : decode cc pc = .ok (.imul, 1)) : ll_K cc own ini lw L xs pc (lo_bin (pc + 1) (fun x y => x * y)) := by
  refine ll_kst fun ls st σ pc' ls' st' σ1 hf => ?_
  obtain ⟨x, y, rest, rfl, he⟩ := lo_bin_inv hf
  cases he
  refine ⟨rfl, rfl, fun B nL p l e R s m args below meth c D A Q cx adr mls mst H locs cells slots hL hst => ?_⟩
  obtain ⟨m1, rfl, h1⟩ := ll_st_int hst
  obtain ⟨m2, rfl, h2⟩ := ll_st_int h1
  exact ⟨_ :: m2, ⟨rfl, h2⟩, fun k => lv_imul cx.1 cx.2.1 hd k⟩
theorem lk_iand (hd : decode cc pc = .ok (.iand, 1)) : ll_K cc own ini lw L xs pc (lo_bin (pc + 1) (fun x y => x &&& y)) := by
  refine ll_kst fun ls st σ pc' ls' st' σ1 hf => ?_
  obtain ⟨x, y, rest, rfl, he⟩ := lo_bin_inv hf
  cases he
  refine ⟨rfl, rfl, fun B nL p l e R s m args below meth c D A Q cx adr mls mst H locs cells slots hL hst => ?_⟩
  obtain ⟨m1, rfl, h1⟩ := ll_st_int hst
  obtain ⟨m2, rfl, h2⟩ := ll_st_int h1
  exact ⟨_ :: m2, ⟨rfl, h2⟩, fun k => lv_iand cx.1 cx.2.1 hd k⟩
theorem lk_ior (hd : decode cc pc = .ok (.ior, 1)) : ll_K cc own ini lw L xs pc (lo_bin (pc + 1) (fun x y => x ||| y)) := by
  refine ll_kst fun ls st σ pc' ls' st' σ1 hf => ?_
  obtain ⟨x, y, rest, rfl, he⟩ := lo_bin_inv hf
  cases he
  refine ⟨rfl, rfl, fun B nL p l e R s m args below meth c D A Q cx adr mls mst H locs cells slots hL hst => ?_⟩
  obtain ⟨m1, rfl, h1⟩ := ll_st_int hst
  obtain ⟨m2, rfl, h2⟩ := ll_st_int h1
  exact ⟨_ :: m2, ⟨rfl, h2⟩, fun k => lv_ior cx.1 cx.2.1 hd k⟩
theorem lk_ixor (hd : decode cc pc = .ok (.ixor, 1)) : ll_K cc own ini lw L xs pc (lo_bin (pc + 1) (fun x y => x ^^^ y)) := by
  refine ll_kst fun ls st σ pc' ls' st' σ1 hf => ?_
  obtain ⟨x, y, rest, rfl, he⟩ := lo_bin_inv hf
  cases he
  refine ⟨rfl, rfl, fun B nL p l e R s m args below meth c D A Q cx adr mls mst H locs cells slots hL hst => ?_⟩
  obtain ⟨m1, rfl, h1⟩ := ll_st_int hst
  obtain ⟨m2, rfl, h2⟩ := ll_st_int h1
  exact ⟨_ :: m2, ⟨rfl, h2⟩, fun k => lv_ixor cx.1 cx.2.1 hd k⟩
theorem lk_ishl (hd : decode cc pc = .ok (.ishl, 1)) : ll_K cc own ini lw L xs pc (lo_bin (pc + 1) (fun x y => x <<< (y &&& 31))) := by
  refine ll_kst fun ls st σ pc' ls' st' σ1 hf => ?_
  obtain ⟨x, y, rest, rfl, he⟩ := lo_bin_inv hf
  cases he
  refine ⟨rfl, rfl, fun B nL p l e R s m args below meth c D A Q cx adr mls mst H locs cells slots hL hst => ?_⟩
  obtain ⟨m1, rfl, h1⟩ := ll_st_int hst
  obtain ⟨m2, rfl, h2⟩ := ll_st_int h1
  exact ⟨_ :: m2, ⟨rfl, h2⟩, fun k => lv_ishl cx.1 cx.2.1 hd k⟩
theorem lk_ishr (hd : decode cc pc = .ok (.ishr, 1)) : ll_K cc own ini lw L xs pc (lo_bin (pc + 1) (fun x y => x >>> (y &&& 31))) := by
  refine ll_kst fun ls st σ pc' ls' st' σ1 hf => ?_
  obtain ⟨x, y, rest, rfl, he⟩ := lo_bin_inv hf
  cases he
  refine ⟨rfl, rfl, fun B nL p l e R s m args below meth c D A Q cx adr mls mst H locs cells slots hL hst => ?_⟩
  obtain ⟨m1, rfl, h1⟩ := ll_st_int hst
  obtain ⟨m2, rfl, h2⟩ := ll_st_int h1
  exact ⟨_ :: m2, ⟨rfl, h2⟩, fun k => lv_ishr cx.1 cx.2.1 hd k⟩
theorem lk_iushr (hd : decode cc pc = .ok (.iushr, 1)) : ll_K cc own ini lw L xs pc (lo_bin (pc + 1) (fun x y => (x.toUInt32 >>> (y.toUInt32 &&& Int32.toUInt32 31)).toInt32)) := by
  refine ll_kst fun ls st σ pc' ls' st' σ1 hf => ?_
  obtain ⟨x, y, rest, rfl, he⟩ := lo_bin_inv hf
  cases he
  refine ⟨rfl, rfl, fun B nL p l e R s m args below meth c D A Q cx adr mls mst H locs cells slots hL hst => ?_⟩
  obtain ⟨m1, rfl, h1⟩ := ll_st_int hst
  obtain ⟨m2, rfl, h2⟩ := ll_st_int h1
  exact ⟨_ :: m2, ⟨rfl, h2⟩, fun k => lv_iushr cx.1 cx.2.1 hd rfl k⟩
theorem lk_idiv (hd : decode cc pc = .ok (.idiv, 1)) : ll_K cc own ini lw L xs pc (lo_div (pc + 1) (fun x y => x / y)) := by
  refine ll_kst fun ls st σ pc' ls' st' σ1 hf => ?_
  obtain ⟨x, y, rest, rfl, hy, he⟩ := lo_div_inv hf
  cases he
  refine ⟨rfl, rfl, fun B nL p l e R s m args below meth c D A Q cx adr mls mst H locs cells slots hL hst => ?_⟩
  obtain ⟨m1, rfl, h1⟩ := ll_st_int hst
  obtain ⟨m2, rfl, h2⟩ := ll_st_int h1
  exact ⟨_ :: m2, ⟨rfl, h2⟩, fun k => lv_idiv cx.1 cx.2.1 hd hy k⟩
theorem lk_irem (hd : decode cc pc = .ok (.irem, 1)) : ll_K cc own ini lw L xs pc (lo_div (pc + 1) (fun x y => x - x / y * y)) := by
  refine ll_kst fun ls st σ pc' ls' st' σ1 hf => ?_
  obtain ⟨x, y, rest, rfl, hy, he⟩ := lo_div_inv hf
  cases he
  refine ⟨rfl, rfl, fun B nL p l e R s m args below meth c D A Q cx adr mls mst H locs cells slots hL hst => ?_⟩
  obtain ⟨m1, rfl, h1⟩ := ll_st_int hst
  obtain ⟨m2, rfl, h2⟩ := ll_st_int h1
  exact ⟨_ :: m2, ⟨rfl, h2⟩, fun k => lv_irem cx.1 cx.2.1 hd hy k⟩
theorem lk_land (hd : decode cc pc = .ok (.land, 1)) : ll_K cc own ini lw L xs pc (lo_lbin (pc + 1) (fun x y => x &&& y)) := by
  refine ll_kst fun ls st σ pc' ls' st' σ1 hf => ?_
  obtain ⟨x, y, rest, rfl, he⟩ := lo_lbin_inv hf
  cases he
  refine ⟨rfl, rfl, fun B nL p l e R s m args below meth c D A Q cx adr mls mst H locs cells slots hL hst => ?_⟩
  obtain ⟨m1, rfl, h1⟩ := ll_st_long hst
  obtain ⟨m2, rfl, h2⟩ := ll_st_long h1
  exact ⟨_ :: m2, ⟨rfl, h2⟩, fun k => lv_land cx.1 cx.2.1 hd k⟩
theorem lk_lor (hd : decode cc pc = .ok (.lor, 1)) : ll_K cc own ini lw L xs pc (lo_lbin (pc + 1) (fun x y => x ||| y)) := by
  refine ll_kst fun ls st σ pc' ls' st' σ1 hf => ?_
  obtain ⟨x, y, rest, rfl, he⟩ := lo_lbin_inv hf
  cases he
  refine ⟨rfl, rfl, fun B nL p l e R s m args below meth c D A Q cx adr mls mst H locs cells slots hL hst => ?_⟩
  obtain ⟨m1, rfl, h1⟩ := ll_st_long hst
  obtain ⟨m2, rfl, h2⟩ := ll_st_long h1
  exact ⟨_ :: m2, ⟨rfl, h2⟩, fun k => lv_lor cx.1 cx.2.1 hd k⟩
theorem lk_lshl (hd : decode cc pc = .ok (.lshl, 1)) : ll_K cc own ini lw L xs pc (lo_lsh (pc + 1) (fun x y => x <<< (y.toInt64 &&& 63))) := by
  refine ll_kst fun ls st σ pc' ls' st' σ1 hf => ?_
  obtain ⟨x, y, rest, rfl, he⟩ := lo_lsh_inv hf
  cases he
  refine ⟨rfl, rfl, fun B nL p l e R s m args below meth c D A Q cx adr mls mst H locs cells slots hL hst => ?_⟩
  obtain ⟨m1, rfl, h1⟩ := ll_st_int hst
  obtain ⟨m2, rfl, h2⟩ := ll_st_long h1
  exact ⟨_ :: m2, ⟨rfl, h2⟩, fun k => lv_lshl cx.1 cx.2.1 hd rfl k⟩
theorem lk_lushr (hd : decode cc pc = .ok (.lushr, 1)) : ll_K cc own ini lw L xs pc (lo_lsh (pc + 1) (fun x y => (x.toUInt64 >>> (y.toInt64.toUInt64 &&& Int64.toUInt64 63)).toInt64)) := by
  refine ll_kst fun ls st σ pc' ls' st' σ1 hf => ?_
  obtain ⟨x, y, rest, rfl, he⟩ := lo_lsh_inv hf
  cases he
  refine ⟨rfl, rfl, fun B nL p l e R s m args below meth c D A Q cx adr mls mst H locs cells slots hL hst => ?_⟩
  obtain ⟨m1, rfl, h1⟩ := ll_st_int hst
  obtain ⟨m2, rfl, h2⟩ := ll_st_long h1
  exact ⟨_ :: m2, ⟨rfl, h2⟩, fun k => lv_lushr cx.1 cx.2.1 hd rfl k⟩
theorem lk_i2l (hd : decode cc pc = .ok (.i2l, 1)) : ll_K cc own ini lw L xs pc (lo_i2l (pc + 1)) := by
  refine ll_kst fun ls st σ pc' ls' st' σ1 hf => ?_
  unfold lo_i2l at hf
  split at hf
  · cases hf
    refine ⟨rfl, rfl, fun B nL p l e R s m args below meth c D A Q cx adr mls mst H locs cells slots hL hst => ?_⟩
    obtain ⟨m1, rfl, h1⟩ := ll_st_int hst
    exact ⟨_ :: m1, ⟨rfl, h1⟩, fun k => lv_i2l cx.1 cx.2.1 hd rfl k⟩
  · cases hf
theorem lk_l2i (hd : decode cc pc = .ok (.l2i, 1)) : ll_K cc own ini lw L xs pc (lo_l2i (pc + 1)) := by
  refine ll_kst fun ls st σ pc' ls' st' σ1 hf => ?_
  unfold lo_l2i at hf
  split at hf
  · cases hf
    refine ⟨rfl, rfl, fun B nL p l e R s m args below meth c D A Q cx adr mls mst H locs cells slots hL hst => ?_⟩
    obtain ⟨m1, rfl, h1⟩ := ll_st_long hst
    exact ⟨_ :: m1, ⟨rfl, h1⟩, fun k => lv_l2i cx.1 cx.2.1 hd rfl k⟩
  · cases hf
theorem lk_lcmp (hd : decode cc pc = .ok (.lcmp, 1)) : ll_K cc own ini lw L xs pc (lo_lcmp (pc + 1)) := by
  refine ll_kst fun ls st σ pc' ls' st' σ1 hf => ?_
  unfold lo_lcmp at hf
  split at hf
  · cases hf
    refine ⟨rfl, rfl, fun B nL p l e R s m args below meth c D A Q cx adr mls mst H locs cells slots hL hst => ?_⟩
    obtain ⟨m1, rfl, h1⟩ := ll_st_long hst
    obtain ⟨m2, rfl, h2⟩ := ll_st_long h1
    exact ⟨_ :: m2, ⟨rfl, h2⟩, fun k => W.lcmp cx.1 cx.2.1 hd k⟩
  · cases hf
theorem ll_one_cat {B : Nat → Prop} {adr : List Nat} {v w : Value} (h : ll_one v = true) (hv : ll_v B adr v w) : w.category = 1 := by
  cases v with
  | int x => rw [show w = .int x from hv]; rfl
  | long x => cases h
  | float x => obtain ⟨b, -, rfl⟩ := hv; rfl
  | double x => cases h
  | null => rw [show w = .null from hv]; rfl
  | ref a => obtain ⟨b, -, rfl⟩ := hv; rfl
  | retAddr a => exact False.elim hv
theorem lk_dup (hd : decode cc pc = .ok (.dup, 1)) : ll_K cc own ini lw L xs pc (lo_dup (pc + 1)) := by
  refine ll_kst fun ls st σ pc' ls' st' σ1 hf => ?_
  unfold lo_dup at hf
  split at hf
  · split at hf
    · rename_i h1
      cases hf
      refine ⟨rfl, rfl, fun B nL p l e R s m args below meth c D A Q cx adr mls mst H locs cells slots hL hst => ?_⟩
      obtain ⟨w, mr, rfl, q1, q2⟩ := ll_st_inv hst
      exact ⟨w :: w :: mr, ⟨q1, q1, q2⟩, fun k => lv_dup cx.1 cx.2.1 hd (ll_one_cat h1 q1) k⟩
    · cases hf
  · cases hf
theorem lk_dup2 (hd : decode cc pc = .ok (.dup2, 1)) : ll_K cc own ini lw L xs pc (lo_dup2 (pc + 1)) := by
  refine ll_kst fun ls st σ pc' ls' st' σ1 hf => ?_
  unfold lo_dup2 at hf
  split at hf
  · split at hf
    · rename_i h1
      cases hf
      refine ⟨rfl, rfl, fun B nL p l e R s m args below meth c D A Q cx adr mls mst H locs cells slots hL hst => ?_⟩
      obtain ⟨w, m1, rfl, q1, q2⟩ := ll_st_inv hst
      obtain ⟨w2, m2, rfl, q3, q4⟩ := ll_st_inv q2
      exact ⟨w :: w2 :: w :: w2 :: m2, ⟨q1, q3, q1, q3, q4⟩, fun k => lv_dup2_11 cx.1 cx.2.1 hd (ll_one_cat h1.1 q1) (ll_one_cat h1.2 q3) k⟩
    · cases hf
  · cases hf
theorem lk_pop (hd : decode cc pc = .ok (.pop, 1)) : ll_K cc own ini lw L xs pc (lo_pop (pc + 1)) := by
  refine ll_kst fun ls st σ pc' ls' st' σ1 hf => ?_
  unfold lo_pop at hf
  split at hf
  · split at hf
    · rename_i h1
      cases hf
      refine ⟨rfl, rfl, fun B nL p l e R s m args below meth c D A Q cx adr mls mst H locs cells slots hL hst => ?_⟩
      obtain ⟨w, mr, rfl, q1, q2⟩ := ll_st_inv hst
      exact ⟨mr, q2, fun k => lv_pop cx.1 cx.2.1 hd (ll_one_cat h1 q1) k⟩
    · cases hf
  · cases hf
theorem lk_goto {off : Int} {t : Nat} (hd : decode cc pc = .ok (.goto off, 3)) (ht : (pc : Int) + off = (t : Int)) : ll_K cc own ini lw L xs pc (lo_goto t) := by
  refine ll_kst fun ls st σ pc' ls' st' σ1 hf => ?_
  cases hf
  exact ⟨rfl, rfl, fun B nL p l e R s m args below meth c D A Q cx adr mls mst H locs cells slots hL hst => ⟨mst, hst, fun k => lv_goto cx.1 cx.2.1 hd ht k⟩⟩
theorem lo_if_inv {t n : Nat} {g : Int32 → Bool} {ls st : List Value} {σ : ll_S} {r : ll_F} (h : lo_if t n g ls st σ = some r) : ∃ x rest, st = .int x :: rest ∧ ((g x = true ∧ r = (t, ls, rest, σ)) ∨ (¬ g x = true ∧ r = (n, ls, rest, σ))) := by
  unfold lo_if at h
  split at h
  · rename_i x rest
    refine ⟨x, rest, rfl, ?_⟩
    split at h
    · rename_i hg
      exact Or.inl ⟨hg, (Option.some.inj h).symm⟩
    · rename_i hg
      exact Or.inr ⟨hg, (Option.some.inj h).symm⟩
  · cases h
theorem lo_cmp_inv {t n : Nat} {g : Int32 → Int32 → Bool} {ls st : List Value} {σ : ll_S} {r : ll_F} (h : lo_cmp t n g ls st σ = some r) : ∃ x y rest, st = .int y :: .int x :: rest ∧ ((g x y = true ∧ r = (t, ls, rest, σ)) ∨ (¬ g x y = true ∧ r = (n, ls, rest, σ))) := by
  unfold lo_cmp at h
  split at h
  · rename_i y x rest
    refine ⟨x, y, rest, rfl, ?_⟩
    split at h
    · rename_i hg
      exact Or.inl ⟨hg, (Option.some.inj h).symm⟩
    · rename_i hg
      exact Or.inr ⟨hg, (Option.some.inj h).symm⟩
  · cases h
theorem lk_if_eq {off : Int} {t : Nat} (hd : decode cc pc = .ok (.ifCond .eq off, 3)) (ht : (pc : Int) + off = (t : Int)) : ll_K cc own ini lw L xs pc (lo_if t (pc + 3) (fun x => decide (x = 0))) := by
  refine ll_kst fun ls st σ pc' ls' st' σ1 hf => ?_
  obtain ⟨x, rest, rfl, hc⟩ := lo_if_inv hf
  rcases hc with ⟨hg, he⟩ | ⟨hg, he⟩ <;> cases he
  · refine ⟨rfl, rfl, fun B nL p l e R s m args below meth c D A Q cx adr mls mst H locs cells slots hL hst => ?_⟩
    obtain ⟨m1, rfl, h1⟩ := ll_st_int hst
    exact ⟨m1, h1, fun k => lv_if_eq cx.1 cx.2.1 hd ht (fun _ => k) (fun q => absurd (of_decide_eq_true hg) q)⟩
  · refine ⟨rfl, rfl, fun B nL p l e R s m args below meth c D A Q cx adr mls mst H locs cells slots hL hst => ?_⟩
    obtain ⟨m1, rfl, h1⟩ := ll_st_int hst
    exact ⟨m1, h1, fun k => lv_if_eq cx.1 cx.2.1 hd ht (fun q => absurd (decide_eq_true q) hg) (fun _ => k)⟩
theorem lk_icmp_eq {off : Int} {t : Nat} (hd : decode cc pc = .ok (.if_icmp .eq off, 3)) (ht : (pc : Int) + off = (t : Int)) : ll_K cc own ini lw L xs pc (lo_cmp t (pc + 3) (fun x y => decide (x = y))) := by
  refine ll_kst fun ls st σ pc' ls' st' σ1 hf => ?_
  obtain ⟨x, y, rest, rfl, hc⟩ := lo_cmp_inv hf
  rcases hc with ⟨hg, he⟩ | ⟨hg, he⟩ <;> cases he
  · refine ⟨rfl, rfl, fun B nL p l e R s m args below meth c D A Q cx adr mls mst H locs cells slots hL hst => ?_⟩
    obtain ⟨m1, rfl, h1⟩ := ll_st_int hst
    obtain ⟨m2, rfl, h2⟩ := ll_st_int h1
    exact ⟨m2, h2, fun k => lv_icmp_eq cx.1 cx.2.1 hd ht (fun _ => k) (fun q => absurd (of_decide_eq_true hg) q)⟩
  · refine ⟨rfl, rfl, fun B nL p l e R s m args below meth c D A Q cx adr mls mst H locs cells slots hL hst => ?_⟩
    obtain ⟨m1, rfl, h1⟩ := ll_st_int hst
    obtain ⟨m2, rfl, h2⟩ := ll_st_int h1
    exact ⟨m2, h2, fun k => lv_icmp_eq cx.1 cx.2.1 hd ht (fun q => absurd (decide_eq_true q) hg) (fun _ => k)⟩
theorem lk_if_ne {off : Int} {t : Nat} (hd : decode cc pc = .ok (.ifCond .ne off, 3)) (ht : (pc : Int) + off = (t : Int)) : ll_K cc own ini lw L xs pc (lo_if t (pc + 3) (fun x => decide (¬ x = 0))) := by
  refine ll_kst fun ls st σ pc' ls' st' σ1 hf => ?_
  obtain ⟨x, rest, rfl, hc⟩ := lo_if_inv hf
  rcases hc with ⟨hg, he⟩ | ⟨hg, he⟩ <;> cases he
  · refine ⟨rfl, rfl, fun B nL p l e R s m args below meth c D A Q cx adr mls mst H locs cells slots hL hst => ?_⟩
    obtain ⟨m1, rfl, h1⟩ := ll_st_int hst
    exact ⟨m1, h1, fun k => lv_if_ne cx.1 cx.2.1 hd ht (fun _ => k) (fun q => absurd q (of_decide_eq_true hg))⟩
  · refine ⟨rfl, rfl, fun B nL p l e R s m args below meth c D A Q cx adr mls mst H locs cells slots hL hst => ?_⟩
    obtain ⟨m1, rfl, h1⟩ := ll_st_int hst
    exact ⟨m1, h1, fun k => lv_if_ne cx.1 cx.2.1 hd ht (fun q => absurd (decide_eq_true q) hg) (fun _ => k)⟩
theorem lk_icmp_ne {off : Int} {t : Nat} (hd : decode cc pc = .ok (.if_icmp .ne off, 3)) (ht : (pc : Int) + off = (t : Int)) : ll_K cc own ini lw L xs pc (lo_cmp t (pc + 3) (fun x y => decide (¬ x = y))) := by
  refine ll_kst fun ls st σ pc' ls' st' σ1 hf => ?_
  obtain ⟨x, y, rest, rfl, hc⟩ := lo_cmp_inv hf
  rcases hc with ⟨hg, he⟩ | ⟨hg, he⟩ <;> cases he
  · refine ⟨rfl, rfl, fun B nL p l e R s m args below meth c D A Q cx adr mls mst H locs cells slots hL hst => ?_⟩
    obtain ⟨m1, rfl, h1⟩ := ll_st_int hst
    obtain ⟨m2, rfl, h2⟩ := ll_st_int h1
    exact ⟨m2, h2, fun k => lv_icmp_ne cx.1 cx.2.1 hd ht (fun _ => k) (fun q => absurd q (of_decide_eq_true hg))⟩
  · refine ⟨rfl, rfl, fun B nL p l e R s m args below meth c D A Q cx adr mls mst H locs cells slots hL hst => ?_⟩
    obtain ⟨m1, rfl, h1⟩ := ll_st_int hst
    obtain ⟨m2, rfl, h2⟩ := ll_st_int h1
    exact ⟨m2, h2, fun k => lv_icmp_ne cx.1 cx.2.1 hd ht (fun q => absurd (decide_eq_true q) hg) (fun _ => k)⟩
theorem lk_if_lt {off : Int} {t : Nat} (hd : decode cc pc = .ok (.ifCond .lt off, 3)) (ht : (pc : Int) + off = (t : Int)) : ll_K cc own ini lw L xs pc (lo_if t (pc + 3) (fun x => decide (x < 0))) := by
  refine ll_kst fun ls st σ pc' ls' st' σ1 hf => ?_
  obtain ⟨x, rest, rfl, hc⟩ := lo_if_inv hf
  rcases hc with ⟨hg, he⟩ | ⟨hg, he⟩ <;> cases he
  · refine ⟨rfl, rfl, fun B nL p l e R s m args below meth c D A Q cx adr mls mst H locs cells slots hL hst => ?_⟩
    obtain ⟨m1, rfl, h1⟩ := ll_st_int hst
    exact ⟨m1, h1, fun k => lv_if_lt cx.1 cx.2.1 hd ht (fun _ => k) (fun q => absurd (of_decide_eq_true hg) q)⟩
  · refine ⟨rfl, rfl, fun B nL p l e R s m args below meth c D A Q cx adr mls mst H locs cells slots hL hst => ?_⟩
    obtain ⟨m1, rfl, h1⟩ := ll_st_int hst
    exact ⟨m1, h1, fun k => lv_if_lt cx.1 cx.2.1 hd ht (fun q => absurd (decide_eq_true q) hg) (fun _ => k)⟩
theorem lk_icmp_lt {off : Int} {t : Nat} (hd : decode cc pc = .ok (.if_icmp .lt off, 3)) (ht : (pc : Int) + off = (t : Int)) : ll_K cc own ini lw L xs pc (lo_cmp t (pc + 3) (fun x y => decide (x < y))) := by
  refine ll_kst fun ls st σ pc' ls' st' σ1 hf => ?_
  obtain ⟨x, y, rest, rfl, hc⟩ := lo_cmp_inv hf
  rcases hc with ⟨hg, he⟩ | ⟨hg, he⟩ <;> cases he
  · refine ⟨rfl, rfl, fun B nL p l e R s m args below meth c D A Q cx adr mls mst H locs cells slots hL hst => ?_⟩
    obtain ⟨m1, rfl, h1⟩ := ll_st_int hst
    obtain ⟨m2, rfl, h2⟩ := ll_st_int h1
    exact ⟨m2, h2, fun k => lv_icmp_lt cx.1 cx.2.1 hd ht (fun _ => k) (fun q => absurd (of_decide_eq_true hg) q)⟩
  · refine ⟨rfl, rfl, fun B nL p l e R s m args below meth c D A Q cx adr mls mst H locs cells slots hL hst => ?_⟩
    obtain ⟨m1, rfl, h1⟩ := ll_st_int hst
    obtain ⟨m2, rfl, h2⟩ := ll_st_int h1
    exact ⟨m2, h2, fun k => lv_icmp_lt cx.1 cx.2.1 hd ht (fun q => absurd (decide_eq_true q) hg) (fun _ => k)⟩
theorem lk_if_ge {off : Int} {t : Nat} (hd : decode cc pc = .ok (.ifCond .ge off, 3)) (ht : (pc : Int) + off = (t : Int)) : ll_K cc own ini lw L xs pc (lo_if t (pc + 3) (fun x => decide (0 ≤ x))) := by
  refine ll_kst fun ls st σ pc' ls' st' σ1 hf => ?_
  obtain ⟨x, rest, rfl, hc⟩ := lo_if_inv hf
  rcases hc with ⟨hg, he⟩ | ⟨hg, he⟩ <;> cases he
  · refine ⟨rfl, rfl, fun B nL p l e R s m args below meth c D A Q cx adr mls mst H locs cells slots hL hst => ?_⟩
    obtain ⟨m1, rfl, h1⟩ := ll_st_int hst
    exact ⟨m1, h1, fun k => lv_if_ge cx.1 cx.2.1 hd ht (fun _ => k) (fun q => absurd (of_decide_eq_true hg) q)⟩
  · refine ⟨rfl, rfl, fun B nL p l e R s m args below meth c D A Q cx adr mls mst H locs cells slots hL hst => ?_⟩
    obtain ⟨m1, rfl, h1⟩ := ll_st_int hst
    exact ⟨m1, h1, fun k => lv_if_ge cx.1 cx.2.1 hd ht (fun q => absurd (decide_eq_true q) hg) (fun _ => k)⟩
theorem lk_icmp_ge {off : Int} {t : Nat} (hd : decode cc pc = .ok (.if_icmp .ge off, 3)) (ht : (pc : Int) + off = (t : Int)) : ll_K cc own ini lw L xs pc (lo_cmp t (pc + 3) (fun x y => decide (y ≤ x))) := by
  refine ll_kst fun ls st σ pc' ls' st' σ1 hf => ?_
  obtain ⟨x, y, rest, rfl, hc⟩ := lo_cmp_inv hf
  rcases hc with ⟨hg, he⟩ | ⟨hg, he⟩ <;> cases he
  · refine ⟨rfl, rfl, fun B nL p l e R s m args below meth c D A Q cx adr mls mst H locs cells slots hL hst => ?_⟩
    obtain ⟨m1, rfl, h1⟩ := ll_st_int hst
    obtain ⟨m2, rfl, h2⟩ := ll_st_int h1
    exact ⟨m2, h2, fun k => lv_icmp_ge cx.1 cx.2.1 hd ht (fun _ => k) (fun q => absurd (of_decide_eq_true hg) q)⟩
  · refine ⟨rfl, rfl, fun B nL p l e R s m args below meth c D A Q cx adr mls mst H locs cells slots hL hst => ?_⟩
    obtain ⟨m1, rfl, h1⟩ := ll_st_int hst
    obtain ⟨m2, rfl, h2⟩ := ll_st_int h1
    exact ⟨m2, h2, fun k => lv_icmp_ge cx.1 cx.2.1 hd ht (fun q => absurd (decide_eq_true q) hg) (fun _ => k)⟩
theorem lk_if_gt {off : Int} {t : Nat} (hd : decode cc pc = .ok (.ifCond .gt off, 3)) (ht : (pc : Int) + off = (t : Int)) : ll_K cc own ini lw L xs pc (lo_if t (pc + 3) (fun x => decide (0 < x))) := by
  refine ll_kst fun ls st σ pc' ls' st' σ1 hf => ?_
  obtain ⟨x, rest, rfl, hc⟩ := lo_if_inv hf
  rcases hc with ⟨hg, he⟩ | ⟨hg, he⟩ <;> cases he
  · refine ⟨rfl, rfl, fun B nL p l e R s m args below meth c D A Q cx adr mls mst H locs cells slots hL hst => ?_⟩
    obtain ⟨m1, rfl, h1⟩ := ll_st_int hst
    exact ⟨m1, h1, fun k => lv_if_gt cx.1 cx.2.1 hd ht (fun _ => k) (fun q => absurd (of_decide_eq_true hg) q)⟩
  · refine ⟨rfl, rfl, fun B nL p l e R s m args below meth c D A Q cx adr mls mst H locs cells slots hL hst => ?_⟩
    obtain ⟨m1, rfl, h1⟩ := ll_st_int hst
    exact ⟨m1, h1, fun k => lv_if_gt cx.1 cx.2.1 hd ht (fun q => absurd (decide_eq_true q) hg) (fun _ => k)⟩
theorem lk_icmp_gt {off : Int} {t : Nat} (hd : decode cc pc = .ok (.if_icmp .gt off, 3)) (ht : (pc : Int) + off = (t : Int)) : ll_K cc own ini lw L xs pc (lo_cmp t (pc + 3) (fun x y => decide (y < x))) := by
  refine ll_kst fun ls st σ pc' ls' st' σ1 hf => ?_
  obtain ⟨x, y, rest, rfl, hc⟩ := lo_cmp_inv hf
  rcases hc with ⟨hg, he⟩ | ⟨hg, he⟩ <;> cases he
  · refine ⟨rfl, rfl, fun B nL p l e R s m args below meth c D A Q cx adr mls mst H locs cells slots hL hst => ?_⟩
    obtain ⟨m1, rfl, h1⟩ := ll_st_int hst
    obtain ⟨m2, rfl, h2⟩ := ll_st_int h1
    exact ⟨m2, h2, fun k => lv_icmp_gt cx.1 cx.2.1 hd ht (fun _ => k) (fun q => absurd (of_decide_eq_true hg) q)⟩
  · refine ⟨rfl, rfl, fun B nL p l e R s m args below meth c D A Q cx adr mls mst H locs cells slots hL hst => ?_⟩
    obtain ⟨m1, rfl, h1⟩ := ll_st_int hst
    obtain ⟨m2, rfl, h2⟩ := ll_st_int h1
    exact ⟨m2, h2, fun k => lv_icmp_gt cx.1 cx.2.1 hd ht (fun q => absurd (decide_eq_true q) hg) (fun _ => k)⟩
theorem lk_if_le {off : Int} {t : Nat} (hd : decode cc pc = .ok (.ifCond .le off, 3)) (ht : (pc : Int) + off = (t : Int)) : ll_K cc own ini lw L xs pc (lo_if t (pc + 3) (fun x => decide (x ≤ 0))) := by
  refine ll_kst fun ls st σ pc' ls' st' σ1 hf => ?_
  obtain ⟨x, rest, rfl, hc⟩ := lo_if_inv hf
  rcases hc with ⟨hg, he⟩ | ⟨hg, he⟩ <;> cases he
  · refine ⟨rfl, rfl, fun B nL p l e R s m args below meth c D A Q cx adr mls mst H locs cells slots hL hst => ?_⟩
    obtain ⟨m1, rfl, h1⟩ := ll_st_int hst
    exact ⟨m1, h1, fun k => lv_if_le cx.1 cx.2.1 hd ht (fun _ => k) (fun q => absurd (of_decide_eq_true hg) q)⟩
  · refine ⟨rfl, rfl, fun B nL p l e R s m args below meth c D A Q cx adr mls mst H locs cells slots hL hst => ?_⟩
    obtain ⟨m1, rfl, h1⟩ := ll_st_int hst
    exact ⟨m1, h1, fun k => lv_if_le cx.1 cx.2.1 hd ht (fun q => absurd (decide_eq_true q) hg) (fun _ => k)⟩
theorem lk_icmp_le {off : Int} {t : Nat} (hd : decode cc pc = .ok (.if_icmp .le off, 3)) (ht : (pc : Int) + off = (t : Int)) : ll_K cc own ini lw L xs pc (lo_cmp t (pc + 3) (fun x y => decide (x ≤ y))) := by
  refine ll_kst fun ls st σ pc' ls' st' σ1 hf => ?_
  obtain ⟨x, y, rest, rfl, hc⟩ := lo_cmp_inv hf
  rcases hc with ⟨hg, he⟩ | ⟨hg, he⟩ <;> cases he
  · refine ⟨rfl, rfl, fun B nL p l e R s m args below meth c D A Q cx adr mls mst H locs cells slots hL hst => ?_⟩
    obtain ⟨m1, rfl, h1⟩ := ll_st_int hst
    obtain ⟨m2, rfl, h2⟩ := ll_st_int h1
    exact ⟨m2, h2, fun k => lv_icmp_le cx.1 cx.2.1 hd ht (fun _ => k) (fun q => absurd (of_decide_eq_true hg) q)⟩
  · refine ⟨rfl, rfl, fun B nL p l e R s m args below meth c D A Q cx adr mls mst H locs cells slots hL hst => ?_⟩
    obtain ⟨m1, rfl, h1⟩ := ll_st_int hst
    obtain ⟨m2, rfl, h2⟩ := ll_st_int h1
    exact ⟨m2, h2, fun k => lv_icmp_le cx.1 cx.2.1 hd ht (fun q => absurd (decide_eq_true q) hg) (fun _ => k)⟩
/-- the switch: 'ho' says that the offsets lead to ts -/
theorem lk_tab {d0 lo hi : Int} {offs : Array Int} {len d : Nat} {ts : List Nat} (hd : decode cc pc = .ok (.tableswitch d0 lo hi offs, len)) (hdt : (pc : Int) + d0 = (d : Int)) (hn : hi = lo + (ts.length : Int) - 1) (hts : ts.map (fun (t : Nat) => (t : Int) - (pc : Int)) = offs.toList) : ll_K cc own ini lw L xs pc (lo_tab lo ts d) := by
  refine ll_kst fun ls st σ pc' ls' st' σ1 hf => ?_
  unfold lo_tab at hf
  split at hf
  · rename_i x rest
    split at hf
    · rename_i hlt
      cases hf
      refine ⟨rfl, rfl, fun B nL p l e R s m args below meth c D A Q cx adr mls mst H locs cells slots hL hst => ?_⟩
      obtain ⟨m1, rfl, h1⟩ := ll_st_int hst
      exact ⟨m1, h1, fun k => lv_tableOut cx.1 cx.2.1 hd (Or.inl hlt) hdt k⟩
    · rename_i hlt
      cases hf
      refine ⟨rfl, rfl, fun B nL p l e R s m args below meth c D A Q cx adr mls mst H locs cells slots hL hst => ?_⟩
      obtain ⟨m1, rfl, h1⟩ := ll_st_int hst
      refine ⟨m1, h1, fun k => ?_⟩
      by_cases hin : hi < x.toInt
      · have hz : ts.getD (x.toInt - lo).toNat d = d := by
          rw [List.getD_eq_getElem?_getD, List.getElem?_eq_none (by omega)]
          rfl
        rw [hz] at k
        exact lv_tableOut cx.1 cx.2.1 hd (Or.inr hin) hdt k
      · have hlt2 : (x.toInt - lo).toNat < ts.length := by omega
        have e1 : offs.toList[(x.toInt - lo).toNat]? = some ((ts.getD (x.toInt - lo).toNat d : Nat) - (pc : Int)) := by
          rw [← hts, List.getElem?_map, List.getD_eq_getElem?_getD, List.getElem?_eq_getElem hlt2]
          rfl
        rw [Array.getElem?_toList] at e1
        exact lv_tableIn cx.1 cx.2.1 hd hlt hin e1 (by omega) k
  · cases hf
end LK
end
section
/-! STEPS ON THE STORE, and that each is the machine's. -/
def ll_T : List Cond := lw_tbl.filter goodWord
theorem ll_T_in {w : Cond} (h : ll_tb w) : w ∈ ll_T := List.mem_filter.mpr ⟨h.1, h.2⟩
theorem ll_T_tb {w : Cond} (h : w ∈ ll_T) : ll_tb w := ⟨(List.mem_filter.mp h).1, (List.mem_filter.mp h).2⟩
def lo_getf (n ci k : Nat) : ll_G := fun ls st σ => match st with
  | .ref i :: r => match σ.2.2 i with
    | .inr (.inr (c, f)) => if c = ci then some (n, ls, f k :: r, σ) else none
    | _ => none
  | _ => none
/-- what a field of kind 0 (int), 1 (boolean), 2 (reference) takes -/
def ll_fit (t : Nat) (v : Value) : Bool := match v with
  | .int x => t == 0 || (t == 1 && (x == 0 || x == 1))
  | .ref _ => t == 2
  | _ => false
def lo_putf (n ci k t : Nat) : ll_G := fun ls st σ => match st with
  | v :: .ref i :: r => match σ.2.2 i with
    | .inr (.inr (c, f)) => if c = ci ∧ ll_fit t v = true then some (n, ls, r, ll_set σ i (.inr (.inr (c, ll_up f k v)))) else none
    | _ => none
  | _ => none
def lo_ald (n t : Nat) : ll_G := fun ls st σ => match st with
  | .int j :: .ref i :: r => match σ.2.2 i with
    | .inl (t', m, f) => if t' = t ∧ ¬ (j < 0 ∨ m ≤ j.toNatClampNeg) then some (n, ls, .int (f j.toNatClampNeg) :: r, σ) else none
    | _ => none
  | _ => none
def lo_ast (n t : Nat) : ll_G := fun ls st σ => match st with
  | .int x :: .int j :: .ref i :: r => match σ.2.2 i with
    | .inl (t', m, f) => if t' = t ∧ ¬ (j < 0 ∨ m ≤ j.toNatClampNeg) then some (n, ls, r, ll_set σ i (.inl (t', m, ll_up f j.toNatClampNeg (vp_nar (ll_ty t) x)))) else none
    | _ => none
  | _ => none
def ll_rf (v : Option Nat) : Value := match v with
  | some a => .ref a
  | none => .null
def lo_aald (n : Nat) : ll_G := fun ls st σ => match st with
  | .int j :: .ref i :: r => match σ.2.2 i with
    | .inr (.inl (_, m, g)) => if ¬ (j < 0 ∨ m ≤ j.toNatClampNeg) then some (n, ls, ll_rf (g j.toNatClampNeg) :: r, σ) else none
    | _ => none
  | _ => none
def lo_aast (n : Nat) : ll_G := fun ls st σ => match st with
  | .ref v :: .int j :: .ref i :: r => match σ.2.2 i with
    | .inr (.inl (t, m, g)) => match σ.2.2 v with
      | .inr (.inr (c, _)) => if c = t ∧ ¬ (j < 0 ∨ m ≤ j.toNatClampNeg) then some (n, ls, r, ll_set σ i (.inr (.inl (t, m, ll_up g j.toNatClampNeg (some v))))) else none
      | _ => none
    | _ => none
  | _ => none
def lo_alen (n : Nat) : ll_G := fun ls st σ => match st with
  | .ref i :: r => match σ.2.2 i with
    | .inl (_, m, _) => some (n, ls, .int (Int32.ofNat m) :: r, σ)
    | .inr (.inl (_, m, _)) => some (n, ls, .int (Int32.ofNat m) :: r, σ)
    | _ => none
  | _ => none
def lo_newa (n t : Nat) : ll_G := fun ls st σ => match st with
  | .int k :: r => if k < 0 ∨ 100000000 < k.toNatClampNeg then none else some (n, ls, .ref σ.1 :: r, ll_add σ k.toNatClampNeg (.inl (t, k.toNatClampNeg, fun _ => 0)))
  | _ => none
def lo_anew (n t : Nat) : ll_G := fun ls st σ => match st with
  | .int k :: r => if k < 0 ∨ 100000000 < k.toNatClampNeg then none else some (n, ls, .ref σ.1 :: r, ll_add σ k.toNatClampNeg (.inr (.inl (t, k.toNatClampNeg, fun _ => none))))
  | _ => none
def lo_new (n ci N : Nat) (fs : List Value) : ll_G := fun ls st σ => some (n, ls, .ref σ.1 :: st, ll_add σ N (.inr (.inr (ci, fun k => fs.getD k .null))))
def lo_init (n : Nat) : ll_G := fun ls st σ => match st with
  | .ref _ :: r => if r.length ≤ 10 then some (n, ls, r, σ) else none
  | _ => none
def lo_copy (n : Nat) : ll_G := fun ls st σ => match st with
  | .int k :: .int dp :: .ref d :: .int sp :: .ref s0 :: r => match σ.2.2 s0, σ.2.2 d with
    | .inl (t0, n0, f), .inl (t1, n1, g) => if t0 = 0 ∧ t1 = 0 ∧ r.length ≤ 4 ∧ ¬ sp < 0 ∧ ¬ dp < 0 ∧ ¬ k < 0 ∧ sp.toNatClampNeg + k.toNatClampNeg ≤ n0 ∧ dp.toNatClampNeg + k.toNatClampNeg ≤ n1 then some (n, ls, r, ll_set σ d (.inl (0, n1, va_cpy f g sp.toNatClampNeg dp.toNatClampNeg k.toNatClampNeg))) else none
    | _, _ => none
  | _ => none
/-- the law's script -/
def lo_sld (n L : Nat) (xs : Nat → Int32) : ll_G := fun ls st σ => match st with
  | .int j :: .float _ :: r => if j < 0 ∨ L ≤ j.toNatClampNeg then none else some (n, ls, .int (xs j.toNatClampNeg) :: r, σ)
  | _ => none
def lo_slen (n L : Nat) : ll_G := fun ls st σ => match st with
  | .float _ :: r => some (n, ls, .int (Int32.ofNat L) :: r, σ)
  | _ => none
section LH
variable {cc : ByteArray} {own : String} {ini lw : Bool} {L : Nat} {xs : Nat → Int32} {pc : Nat}
theorem ll_K1 {D : va_G} {s : State} {cA : ClassId} {ty : FieldType} (hK : va_K D vwCl [] s) (h1 : ArrOfT s cA ty) (h2 : va_RA s cA ty) : va_K D vwCl [(cA, ty)] s := by
  refine ⟨hK.1, fun k q hk => ?_⟩
  have hz : k < 1 := (List.getElem?_eq_some_iff.mp hk).1
  rw [show k = 0 by omega] at hk
  cases hk
  exact ⟨h1, h2⟩
theorem ll_hts {args : Array Value} {s : State} (h : ∀ w, ll_tb w → w.before args s = true) : ∀ w ∈ ll_T, w.before args s = true := fun w hw => h w (ll_T_tb hw)
theorem ll_cat {B : Nat → Prop} {adr : List Nat} : ∀ {st mst : List Value}, ll_st B adr st mst → (mst.map fun v => v.category).sum ≤ 2 * st.length
  | [], [], _ => Nat.le_refl _
  | v :: a, w :: b, h => by
    have h1 := ll_cat h.2
    have h2 : w.category ≤ 2 := by rcases lv_cat w with q | q <;> omega
    simp only [List.map_cons, List.sum_cons, List.length_cons]
    omega
  | [], _ :: _, h => h.elim
  | _ :: _, [], h => h.elim
/-- steps that read the store: 'st' alone changes -/
theorem ll_krd {f : ll_G} (h : ∀ (ls st : List Value) (σ : ll_S) (pc' : Nat) (ls' st' : List Value) (σ1 : ll_S), f ls st σ = some (pc', ls', st', σ1) → ls' = ls ∧ σ1 = σ ∧
    ∀ (B : Nat → Prop) (nL : Nat) (p : Program) (l : Launch) (e : Env) (R : Room) (s : State) (m : MethodId) (args : Array Value) (below : List Frame) (meth : Method) (c : Code) (D : va_G) (A : Nat → Prop) (Q : State → Prop),
    ll_X cc nL own ini lw L xs B p R s m args meth c D A → ∀ (adr : List Nat) (ws : va_W) (mls : Array Slot) (mst : List Value) (H : Heap) (locs : List Loc) (cells slots : Nat), ll_W B s D A adr ws σ H → va_S A s.heap H locs → mls.size = nL → ll_st B adr st mst →
      ∃ mst', ll_st B adr st' mst' ∧ (W p l e R s m args below meth c H locs cells slots Q (F0 m pc' mls mst') → W p l e R s m args below meth c H locs cells slots Q (F0 m pc mls mst))) : ll_K cc own ini lw L xs pc f := by
  intro ls st σ pc' ls' st' σ1 hf
  obtain ⟨rfl, rfl, h3⟩ := h ls st σ pc' ls' st' σ1 hf
  refine ⟨⟨Nat.le_refl _, Nat.le_refl _⟩, ?_⟩
  intro B nL p l e R s m args below meth c D A Q cx adr ws mls mst H locs cells slots hW hS hL hst _ _ kk
  obtain ⟨mst', q1, q2⟩ := h3 B nL p l e R s m args below meth c D A Q cx adr ws mls mst H locs cells slots hW hS (by obtain ⟨-, lv, q, -⟩ := hL; exact q.1) hst
  have k2 := kk adr ws mls mst' H locs ⟨[], by simp⟩ hW hS hL q1
  rw [Nat.sub_self, Nat.sub_self] at k2
  exact q2 k2
/-- steps that write one cell -/
theorem ll_kwr {f : ll_G} (h : ∀ (ls st : List Value) (σ : ll_S) (pc' : Nat) (ls' st' : List Value) (σ1 : ll_S), f ls st σ = some (pc', ls', st', σ1) → ls' = ls ∧ (σ1.1 = σ.1 ∧ σ1.2.1 = σ.2.1) ∧
    ∀ (B : Nat → Prop) (nL : Nat) (p : Program) (l : Launch) (e : Env) (R : Room) (s : State) (m : MethodId) (args : Array Value) (below : List Frame) (meth : Method) (c : Code) (D : va_G) (A : Nat → Prop) (Q : State → Prop),
    ll_X cc nL own ini lw L xs B p R s m args meth c D A → ∀ (adr : List Nat) (ws : va_W) (mls : Array Slot) (mst : List Value) (H : Heap) (locs : List Loc) (cells slots : Nat), ll_W B s D A adr ws σ H → va_S A s.heap H locs → mls.size = nL → ll_st B adr st mst →
      (∀ (ws' : va_W) (mst' : List Value) (H' : Heap) (locs' : List Loc), ll_W B s D A adr ws' σ1 H' → va_S A s.heap H' locs' → ll_st B adr st' mst' → W p l e R s m args below meth c H' locs' cells slots Q (F0 m pc' mls mst')) → W p l e R s m args below meth c H locs cells slots Q (F0 m pc mls mst)) : ll_K cc own ini lw L xs pc f := by
  intro ls st σ pc' ls' st' σ1 hf
  obtain ⟨rfl, ⟨e1, e2⟩, h3⟩ := h ls st σ pc' ls' st' σ1 hf
  refine ⟨⟨by omega, by omega⟩, ?_⟩
  intro B nL p l e R s m args below meth c D A Q cx adr ws mls mst H locs cells slots hW hS hL hst _ _ kk
  refine h3 B nL p l e R s m args below meth c D A Q cx adr ws mls mst H locs cells slots hW hS (by obtain ⟨-, lv, q, -⟩ := hL; exact q.1) hst fun ws' mst' H' locs' q1 q2 q3 => ?_
  have k2 := kk adr ws' mls mst' H' locs' ⟨[], by simp⟩ q1 q2 hL q3
  rw [e1, e2, Nat.sub_self, Nat.sub_self] at k2
  exact k2
/-- steps that make one cell -/
theorem ll_knw {f : ll_G} (h : ∀ (ls st : List Value) (σ : ll_S) (pc' : Nat) (ls' st' : List Value) (σ1 : ll_S), f ls st σ = some (pc', ls', st', σ1) → ∃ (N : Nat) (c0 : ll_C) (rest : List Value), ls' = ls ∧ σ1 = ll_add σ N c0 ∧ st' = .ref σ.1 :: rest ∧
    ∀ (B : Nat → Prop) (nL : Nat) (p : Program) (l : Launch) (e : Env) (R : Room) (s : State) (m : MethodId) (args : Array Value) (below : List Frame) (meth : Method) (c : Code) (D : va_G) (A : Nat → Prop) (Q : State → Prop),
    ll_X cc nL own ini lw L xs B p R s m args meth c D A → ∀ (adr : List Nat) (ws : va_W) (mls : Array Slot) (mst : List Value) (H : Heap) (locs : List Loc) (cells slots : Nat), ll_W B s D A adr ws σ H → va_S A s.heap H locs → ll_st B adr st mst → cells + 1 ≤ R.cells → slots + N ≤ R.slots →
      (∀ (q : Nat) (e0 : va_E) (mr : List Value) (H' : Heap) (locs' : List Loc), ll_st B adr rest mr → va_P D vwCl (ws ++ [(q, e0)]) H' → va_D A (ws ++ [(q, e0)]) → ll_cr B s (adr ++ [q]) c0 e0 → va_S A s.heap H' locs' → W p l e R s m args below meth c H' locs' (cells + 1) (slots + N) Q (F0 m pc' mls (.ref q :: mr))) → W p l e R s m args below meth c H locs cells slots Q (F0 m pc mls mst)) : ll_K cc own ini lw L xs pc f := by
  intro ls st σ pc' ls' st' σ1 hf
  obtain ⟨N, c0, rest, rfl, rfl, rfl, h3⟩ := h ls st σ pc' ls' st' σ1 hf
  have e1 : (ll_add σ N c0).1 - σ.1 = 1 := by simp [ll_add]
  have e2 : (ll_add σ N c0).2.1 - σ.2.1 = N := by simp [ll_add]
  refine ⟨⟨by simp [ll_add], by simp [ll_add]⟩, ?_⟩
  intro B nL p l e R s m args below meth c D A Q cx adr ws mls mst H locs cells slots hW hS hL hst hc hs kk
  rw [e1] at hc kk
  rw [e2] at hs kk
  refine h3 B nL p l e R s m args below meth c D A Q cx adr ws mls mst H locs cells slots hW hS hst hc hs fun q e0 mr H' locs' q1 q2 q3 q4 q5 => ?_
  obtain ⟨w1, w2⟩ := ll_W_new (n := N) hW q2 q3 q4
  exact kk (adr ++ [q]) _ mls (.ref q :: mr) H' locs' ⟨[q], rfl⟩ w1 q5 (ll_L_app hL) ⟨⟨q, w2, rfl⟩, ll_st_app q1⟩
/-! fields -/
theorem lk_getf {ix ci k N : Nat} {C : String} {T : u_T} (hd : decode cc pc = .ok (.getfield ix, 3)) (hc : vwCl[ci]? = some (C, T, N)) (hin : ∀ w ∈ u_ws C T N, w ∈ ll_T) (hk : k < N) (hl : ll_tb (.fieldLink own ix (T k).1 (T k).2.1 (T k).2.2.1)) : ll_K cc own ini lw L xs pc (lo_getf (pc + 3) ci k) := by
  refine ll_krd fun ls st σ pc' ls' st' σ1 hf => ?_
  unfold lo_getf at hf
  split at hf
  · rename_i i r
    split at hf
    · rename_i c0 f hcell
      split at hf
      · rename_i hci
        cases hf
        subst hci
        refine ⟨rfl, rfl, fun B nL p l e R s m args below meth c D A Q cx adr ws mls mst H locs cells slots hW hS _ hst => ?_⟩
        obtain ⟨a, mr, ha, rfl, hr⟩ := ll_st_ref hst
        obtain ⟨e0, hws, hcr⟩ := ll_W_at hW ha
        rw [hcell] at hcr
        obtain ⟨fs, rfl, ⟨q, hq, hlen⟩, hfs⟩ := hcr
        cases hq.symm.trans hc
        have hkl : k < fs.length := by rw [hlen]; exact hk
        have hv := List.getElem?_eq_getElem hkl
        exact ⟨fs[k] :: mr, ⟨hfs k _ hv, hr⟩, fun kk => va_get cx.1 cx.2.1 (ll_hts cx.2.2.2.2.1) hin cx.2.2.2.1 cx.2.2.2.2.2.1 hW.1 i hws hc k hk (cx.2.2.2.2.1 _ hl) (fun _ h9 => h9) hv hd kk⟩
      · cases hf
    · cases hf
  · cases hf
theorem ll_fit_int {B : Nat → Prop} {adr : List Nat} {v w : Value} (h : ll_fit 0 v = true) (hv : ll_v B adr v w) : narrow .int w = w ∧ fits .int w = true := by
  cases v with
  | int x => rw [show w = .int x from hv]; exact ⟨rfl, rfl⟩
  | ref a => simp [ll_fit] at h
  | _ => cases h
theorem ll_fit_bool {B : Nat → Prop} {adr : List Nat} {v w : Value} (h : ll_fit 1 v = true) (hv : ll_v B adr v w) : narrow .boolean w = w ∧ fits .boolean w = true := by
  cases v with
  | int x =>
    rw [show w = .int x from hv]
    have hx : x = 0 ∨ x = 1 := by simpa [ll_fit] using h
    rcases hx with rfl | rfl <;> exact ⟨rfl, rfl⟩
  | ref a => simp [ll_fit] at h
  | _ => cases h
theorem ll_fit_obj {B : Nat → Prop} {adr : List Nat} {v w : Value} {C : String} (h : ll_fit 2 v = true) (hv : ll_v B adr v w) : narrow (.object C) w = w ∧ fits (.object C) w = true := by
  cases v with
  | int x => simp [ll_fit] at h
  | ref a => obtain ⟨b, -, rfl⟩ := hv; exact ⟨rfl, rfl⟩
  | _ => cases h
theorem ll_fit_arr {B : Nat → Prop} {adr : List Nat} {v w : Value} {t : FieldType} (h : ll_fit 2 v = true) (hv : ll_v B adr v w) : narrow (.array t) w = w ∧ fits (.array t) w = true := by
  cases v with
  | int x => simp [ll_fit] at h
  | ref a => obtain ⟨b, -, rfl⟩ := hv; exact ⟨rfl, rfl⟩
  | _ => cases h
/-- the fields of an object with one of them new -/
theorem ll_fs_set {B : Nat → Prop} {adr : List Nat} {f : Nat → Value} {fs : List Value} {k : Nat} {v w : Value} (h : ∀ (k : Nat) (v : Value), fs[k]? = some v → ll_v B adr (f k) v) (hv : ll_v B adr v w) : ∀ (j : Nat) (u : Value), (fs.set k w)[j]? = some u → ll_v B adr (ll_up f k v j) u := by
  intro j u hj
  rw [List.getElem?_set] at hj
  by_cases hkj : k = j
  · subst hkj
    rw [if_pos rfl] at hj
    split at hj
    · cases hj
      rw [ll_up, if_pos rfl]
      exact hv
    · cases hj
  · rw [if_neg hkj] at hj
    rw [ll_up, if_neg (fun q => hkj q.symm)]
    exact h j u hj
theorem lk_putf {ix ci k t N : Nat} {C : String} {T : u_T} {ty0 : Nat → FieldType} (hd : decode cc pc = .ok (.putfield ix, 3)) (hc : vwCl[ci]? = some (C, T, N)) (hin : ∀ w ∈ u_ws C T N, w ∈ ll_T) (hty : ∀ k, k < N → parseFieldDescriptor (T k).2.2.1 = some (ty0 k)) (hnm : ∀ a, a < N → ∀ b, b < N → a ≠ b → (T a).2.1 ≠ (T b).2.1) (hk : k < N) (hl : ll_tb (.fieldLink own ix (T k).1 (T k).2.1 (T k).2.2.1)) (hfit : ∀ (B : Nat → Prop) (adr : List Nat) (v w : Value), ll_fit t v = true → ll_v B adr v w → narrow (ty0 k) w = w ∧ fits (ty0 k) w = true) (hfin : (T k).2.2.2 = false ∨ ((T k).2.2.2 = true ∧ ini = true ∧ (T k).1 = own)) : ll_K cc own ini lw L xs pc (lo_putf (pc + 3) ci k t) := by
  refine ll_kwr fun ls st σ pc' ls' st' σ1 hf => ?_
  unfold lo_putf at hf
  split at hf
  · rename_i v i r
    split at hf
    · rename_i c0 f hcell
      split at hf
      · rename_i hci
        obtain ⟨hci, hvt⟩ := hci
        cases hf
        subst hci
        refine ⟨rfl, ⟨rfl, rfl⟩, fun B nL p l e R s m args below meth c D A Q cx adr ws mls mst H locs cells slots hW hS _ hst kk => ?_⟩
        obtain ⟨w, m1, rfl, hvw, h1⟩ := ll_st_inv hst
        obtain ⟨a, mr, ha, rfl, hr⟩ := ll_st_ref h1
        obtain ⟨e0, hws, hcr⟩ := ll_W_at hW ha
        rw [hcell] at hcr
        obtain ⟨fs, rfl, ⟨q, hq, hlen⟩, hfs⟩ := hcr
        cases hq.symm.trans hc
        have hkl : k < fs.length := by rw [hlen]; exact hk
        obtain ⟨n1, n2⟩ := hfit B adr v w hvt hvw
        have kk' : ∀ (H1 : Heap) (locs1 : List Loc), va_P D vwCl (ws.set i (a, .inr (c0, fs.set k w))) H1 → va_D A (ws.set i (a, .inr (c0, fs.set k w))) → va_S A s.heap H1 locs1 → W p l e R s m args below meth c H1 locs1 cells slots Q (F0 m (pc + 3) mls mr) := fun H1 locs1 g1 g2 g3 => kk _ mr H1 locs1 (ll_W_set hW hws g1 g2 ⟨_, rfl, ⟨_, hc, by rw [List.length_set]; exact hlen⟩, ll_fs_set hfs hvw⟩) g3 hr
        rcases hfin with hfin | ⟨hfin, hini, hdecl⟩
        · exact va_put cx.1 cx.2.1 (ll_hts cx.2.2.2.2.1) hin ty0 hty hnm cx.2.2.2.1 cx.2.2.2.2.2.1 hW.1 hW.2.1 hS i hws hc k hk (cx.2.2.2.2.1 _ hl) (fun _ h9 => h9) hfin (hty k hk) n1 n2 hkl hd kk'
        · exact va_putF cx.1 cx.2.1 (ll_hts cx.2.2.2.2.1) hin ty0 hty hnm cx.2.2.2.1 cx.2.2.2.2.2.1 hW.1 hW.2.1 hS i hws hc k hk (cx.2.2.2.2.1 _ hl) (fun _ h9 => h9) hfin (cx.2.2.2.2.2.2.2.1 hini) hdecl (hty k hk) n1 n2 hkl hd kk'
      · cases hf
    · cases hf
  · cases hf
end LH
end
section
section LH2
variable {cc : ByteArray} {own : String} {ini lw : Bool} {L : Nat} {xs : Nat → Int32} {pc : Nat}
theorem lo_ald_inv {n t : Nat} {ls st : List Value} {σ : ll_S} {r : ll_F} (h : lo_ald n t ls st σ = some r) : ∃ (j : Int32) (i m : Nat) (f : Nat → Int32) (rest : List Value), st = .int j :: .ref i :: rest ∧ σ.2.2 i = .inl (t, m, f) ∧ vp_in j m ∧ r = (n, ls, .int (f j.toNatClampNeg) :: rest, σ) := by
  unfold lo_ald at h
  split at h
  · rename_i j i rest
    split at h
    · rename_i t' m f hc
      split at h
      · rename_i hq
        obtain ⟨rfl, h2⟩ := hq
        exact ⟨j, i, m, f, rest, rfl, hc, h2, (Option.some.inj h).symm⟩
      · cases h
    · cases h
  · cases h
theorem lk_iald (hd : decode cc pc = .ok (.iaload, 1)) : ll_K cc own ini lw L xs pc (lo_ald (pc + 1) 0) := by
  refine ll_krd fun ls st σ pc' ls' st' σ1 hf => ?_
  obtain ⟨j, i, m0, f, rest, rfl, hcell, hin, he⟩ := lo_ald_inv hf
  cases he
  refine ⟨rfl, rfl, fun B nL p l e R s m args below meth c D A Q cx adr ws mls mst H locs cells slots hW hS _ hst => ?_⟩
  obtain ⟨m1, rfl, h1⟩ := ll_st_int hst
  obtain ⟨a, mr, ha, rfl, hr⟩ := ll_st_ref h1
  obtain ⟨e0, hws, hcr⟩ := ll_W_at hW ha
  rw [hcell] at hcr
  obtain ⟨cA, rfl, g1, g2⟩ := hcr
  exact ⟨_ :: mr, ⟨rfl, hr⟩, fun kk => va_iald cx.1 cx.2.1 (ll_K1 cx.2.2.2.2.2.1 g1 g2) hW.1 i 0 hws rfl hin hd kk⟩
theorem lk_zald (hd : decode cc pc = .ok (.baload, 1)) : ll_K cc own ini lw L xs pc (lo_ald (pc + 1) 1) := by
  refine ll_krd fun ls st σ pc' ls' st' σ1 hf => ?_
  obtain ⟨j, i, m0, f, rest, rfl, hcell, hin, he⟩ := lo_ald_inv hf
  cases he
  refine ⟨rfl, rfl, fun B nL p l e R s m args below meth c D A Q cx adr ws mls mst H locs cells slots hW hS _ hst => ?_⟩
  obtain ⟨m1, rfl, h1⟩ := ll_st_int hst
  obtain ⟨a, mr, ha, rfl, hr⟩ := ll_st_ref h1
  obtain ⟨e0, hws, hcr⟩ := ll_W_at hW ha
  rw [hcell] at hcr
  obtain ⟨cA, rfl, g1, g2⟩ := hcr
  exact ⟨_ :: mr, ⟨rfl, hr⟩, fun kk => va_zald cx.1 cx.2.1 (ll_K1 cx.2.2.2.2.2.1 g1 g2) hW.1 i 0 hws rfl hin hd kk⟩
theorem lo_ast_inv {n t : Nat} {ls st : List Value} {σ : ll_S} {r : ll_F} (h : lo_ast n t ls st σ = some r) : ∃ (x j : Int32) (i m : Nat) (f : Nat → Int32) (rest : List Value), st = .int x :: .int j :: .ref i :: rest ∧ σ.2.2 i = .inl (t, m, f) ∧ vp_in j m ∧ r = (n, ls, rest, ll_set σ i (.inl (t, m, ll_up f j.toNatClampNeg (vp_nar (ll_ty t) x)))) := by
  unfold lo_ast at h
  split at h
  · rename_i x j i rest
    split at h
    · rename_i t' m f hc
      split at h
      · rename_i hq
        obtain ⟨rfl, h2⟩ := hq
        exact ⟨x, j, i, m, f, rest, rfl, hc, h2, (Option.some.inj h).symm⟩
      · cases h
    · cases h
  · cases h
theorem lk_iast (hd : decode cc pc = .ok (.iastore, 1)) : ll_K cc own ini lw L xs pc (lo_ast (pc + 1) 0) := by
  refine ll_kwr fun ls st σ pc' ls' st' σ1 hf => ?_
  obtain ⟨x, j, i, m0, f, rest, rfl, hcell, hin, he⟩ := lo_ast_inv hf
  cases he
  refine ⟨rfl, ⟨rfl, rfl⟩, fun B nL p l e R s m args below meth c D A Q cx adr ws mls mst H locs cells slots hW hS _ hst kk => ?_⟩
  obtain ⟨m1, rfl, h1⟩ := ll_st_int hst
  obtain ⟨m2, rfl, h2⟩ := ll_st_int h1
  obtain ⟨a, mr, ha, rfl, hr⟩ := ll_st_ref h2
  obtain ⟨e0, hws, hcr⟩ := ll_W_at hW ha
  rw [hcell] at hcr
  obtain ⟨cA, rfl, g1, g2⟩ := hcr
  exact va_iast cx.1 cx.2.1 (ll_K1 cx.2.2.2.2.2.1 g1 g2) hW.1 hW.2.1 hS i 0 hws rfl hin hd fun H1 locs1 k1 k2 k3 => kk _ mr H1 locs1 (ll_W_set hW hws k1 k2 ⟨cA, rfl, g1, g2⟩) k3 hr
theorem lk_zast (hd : decode cc pc = .ok (.bastore, 1)) : ll_K cc own ini lw L xs pc (lo_ast (pc + 1) 1) := by
  refine ll_kwr fun ls st σ pc' ls' st' σ1 hf => ?_
  obtain ⟨x, j, i, m0, f, rest, rfl, hcell, hin, he⟩ := lo_ast_inv hf
  cases he
  refine ⟨rfl, ⟨rfl, rfl⟩, fun B nL p l e R s m args below meth c D A Q cx adr ws mls mst H locs cells slots hW hS _ hst kk => ?_⟩
  obtain ⟨m1, rfl, h1⟩ := ll_st_int hst
  obtain ⟨m2, rfl, h2⟩ := ll_st_int h1
  obtain ⟨a, mr, ha, rfl, hr⟩ := ll_st_ref h2
  obtain ⟨e0, hws, hcr⟩ := ll_W_at hW ha
  rw [hcell] at hcr
  obtain ⟨cA, rfl, g1, g2⟩ := hcr
  exact va_zast cx.1 cx.2.1 (ll_K1 cx.2.2.2.2.2.1 g1 g2) hW.1 hW.2.1 hS i 0 hws rfl hin hd fun H1 locs1 k1 k2 k3 => kk _ mr H1 locs1 (ll_W_set hW hws k1 k2 ⟨cA, rfl, g1, g2⟩) k3 hr
theorem ll_rf_v {B : Nat → Prop} {adr : List Nat} {v w : Option Nat} (h : ll_q adr v w) : ll_v B adr (ll_rf v) (va_rf w) := by
  cases v with
  | none => rw [show w = none from h]; rfl
  | some i => obtain ⟨a, h1, rfl⟩ := h; exact ⟨a, h1, rfl⟩
theorem lk_aald (hd : decode cc pc = .ok (.aaload, 1)) : ll_K cc own ini lw L xs pc (lo_aald (pc + 1)) := by
  refine ll_krd fun ls st σ pc' ls' st' σ1 hf => ?_
  unfold lo_aald at hf
  split at hf
  · rename_i j i rest
    split at hf
    · rename_i t m0 g hcell
      split at hf
      · rename_i hin
        cases hf
        refine ⟨rfl, rfl, fun B nL p l e R s m args below meth c D A Q cx adr ws mls mst H locs cells slots hW hS _ hst => ?_⟩
        obtain ⟨m1, rfl, h1⟩ := ll_st_int hst
        obtain ⟨a, mr, ha, rfl, hr⟩ := ll_st_ref h1
        obtain ⟨e0, hws, hcr⟩ := ll_W_at hW ha
        rw [hcell] at hcr
        obtain ⟨cA, g', rfl, gq, g1, g2⟩ := hcr
        exact ⟨_ :: mr, ⟨ll_rf_v (gq _), hr⟩, fun kk => va_aldq cx.1 cx.2.1 (ll_K1 cx.2.2.2.2.2.1 g1 g2) hW.1 i 0 hws rfl hin hd kk⟩
      · cases hf
    · cases hf
  · cases hf
theorem lk_aast (hd : decode cc pc = .ok (.aastore, 1)) : ll_K cc own ini lw L xs pc (lo_aast (pc + 1)) := by
  refine ll_kwr fun ls st σ pc' ls' st' σ1 hf => ?_
  unfold lo_aast at hf
  split at hf
  · rename_i v j i rest
    split at hf
    · rename_i t m0 g hcell
      split at hf
      · rename_i c0 f0 hvc
        split at hf
        · rename_i hq
          obtain ⟨rfl, hin⟩ := hq
          cases hf
          refine ⟨rfl, ⟨rfl, rfl⟩, fun B nL p l e R s m args below meth c D A Q cx adr ws mls mst H locs cells slots hW hS _ hst kk => ?_⟩
          obtain ⟨av, m1, hav, rfl, h1⟩ := ll_st_ref hst
          obtain ⟨m2, rfl, h2⟩ := ll_st_int h1
          obtain ⟨a, mr, ha, rfl, hr⟩ := ll_st_ref h2
          obtain ⟨e0, hws, hcr⟩ := ll_W_at hW ha
          rw [hcell] at hcr
          obtain ⟨cA, g', rfl, gq, g1, g2⟩ := hcr
          obtain ⟨ev, hwv, hcv⟩ := ll_W_at hW hav
          rw [hvc] at hcv
          obtain ⟨fs, rfl, ⟨q, hq, hlen⟩, hfs⟩ := hcv
          have hcn : ll_cn c0 = q.1 := by unfold ll_cn; rw [hq]
          have g1' : ArrOfT s cA (.object q.1) := hcn ▸ g1
          have g2' : va_RA s cA (.object q.1) := hcn ▸ g2
          refine va_astq cx.1 cx.2.1 (ll_K1 cx.2.2.2.2.2.1 g1' g2') hW.1 hW.2.1 hS i 0 v c0 hws rfl hwv hq hin hd fun H1 locs1 k1 k2 k3 => kk _ mr H1 locs1 (ll_W_set hW hws k1 k2 ⟨cA, _, rfl, fun j' => ?_, g1, g2⟩) k3 hr
          unfold ll_up va_up
          by_cases hj : j' = j.toNatClampNeg
          · rw [if_pos hj, if_pos hj]; exact ⟨av, hav, rfl⟩
          · rw [if_neg hj, if_neg hj]; exact gq j'
        · cases hf
      · cases hf
    · cases hf
  · cases hf
theorem lk_alen (hd : decode cc pc = .ok (.arraylength, 1)) : ll_K cc own ini lw L xs pc (lo_alen (pc + 1)) := by
  refine ll_krd fun ls st σ pc' ls' st' σ1 hf => ?_
  unfold lo_alen at hf
  split at hf
  · rename_i i rest
    split at hf
    · rename_i t m0 f hcell
      cases hf
      refine ⟨rfl, rfl, fun B nL p l e R s m args below meth c D A Q cx adr ws mls mst H locs cells slots hW hS _ hst => ?_⟩
      obtain ⟨a, mr, ha, rfl, hr⟩ := ll_st_ref hst
      obtain ⟨e0, hws, hcr⟩ := ll_W_at hW ha
      rw [hcell] at hcr
      obtain ⟨cA, rfl, g1, g2⟩ := hcr
      exact ⟨_ :: mr, ⟨rfl, hr⟩, fun kk => va_alen cx.1 cx.2.1 (ll_K1 cx.2.2.2.2.2.1 g1 g2) hW.1 i 0 hws rfl rfl hd kk⟩
    · rename_i t m0 f hcell
      cases hf
      refine ⟨rfl, rfl, fun B nL p l e R s m args below meth c D A Q cx adr ws mls mst H locs cells slots hW hS _ hst => ?_⟩
      obtain ⟨a, mr, ha, rfl, hr⟩ := ll_st_ref hst
      obtain ⟨e0, hws, hcr⟩ := ll_W_at hW ha
      rw [hcell] at hcr
      obtain ⟨cA, g', rfl, gq, g1, g2⟩ := hcr
      exact ⟨_ :: mr, ⟨rfl, hr⟩, fun kk => va_alen cx.1 cx.2.1 (ll_K1 cx.2.2.2.2.2.1 g1 g2) hW.1 i 0 hws rfl rfl hd kk⟩
    · cases hf
  · cases hf
/-! new cells -/
theorem ll_K2 {D : va_G} {s : State} {cA : ClassId} {ty : FieldType} {tys : List (ClassId × FieldType)} (h : va_K D vwCl (tys ++ [(cA, ty)]) s) : ArrOfT s cA ty ∧ va_RA s cA ty := h.2 tys.length (cA, ty) (by simp)
theorem lk_newa_int (hd : decode cc pc = .ok (.newarray .int, 2)) (hw : ll_tb (.arrayClass .int)) : ll_K cc own ini lw L xs pc (lo_newa (pc + 2) 0) := by
  refine ll_knw fun ls st σ pc' ls' st' σ1 hf => ?_
  unfold lo_newa at hf
  split at hf
  · rename_i k rest
    split at hf
    · cases hf
    · rename_i hk
      cases hf
      refine ⟨_, _, rest, rfl, rfl, rfl, fun B nL p l e R s m args below meth c D A Q cx adr ws mls mst H locs cells slots hW hS hst hc hs kk => ?_⟩
      obtain ⟨m1, rfl, h1⟩ := ll_st_int hst
      have hb : k.toNatClampNeg * componentBytes .int ≤ 536870912 := by
        have e1 : componentBytes .int = 4 := rfl
        rw [e1]
        omega
      exact va_newa (ty := .int) (atype := .int) cx.1 cx.2.1 (cx.2.2.2.2.1 _ hw) rfl cx.2.2.2.2.2.1 hW.1 hW.2.1 hS cx.2.2.2.2.2.2.1 (a0 := (k.toNatClampNeg, .inl (fun _ => 0))) (fun cA => rfl) (fun q => hk (Or.inl q)) rfl hb hc hs hd
        fun q cA H1 k0 k1 k2 k3 => kk q _ m1 H1 locs h1 k1 k2 ⟨cA, rfl, (ll_K2 k0).1, (ll_K2 k0).2⟩ k3
  · cases hf
theorem lk_newa_bool (hd : decode cc pc = .ok (.newarray .boolean, 2)) (hw : ll_tb (.arrayClass .boolean)) : ll_K cc own ini lw L xs pc (lo_newa (pc + 2) 1) := by
  refine ll_knw fun ls st σ pc' ls' st' σ1 hf => ?_
  unfold lo_newa at hf
  split at hf
  · rename_i k rest
    split at hf
    · cases hf
    · rename_i hk
      cases hf
      refine ⟨_, _, rest, rfl, rfl, rfl, fun B nL p l e R s m args below meth c D A Q cx adr ws mls mst H locs cells slots hW hS hst hc hs kk => ?_⟩
      obtain ⟨m1, rfl, h1⟩ := ll_st_int hst
      have hb : k.toNatClampNeg * componentBytes .boolean ≤ 536870912 := by
        have e1 : componentBytes .boolean = 1 := rfl
        rw [e1]
        omega
      exact va_newa (ty := .boolean) (atype := .boolean) cx.1 cx.2.1 (cx.2.2.2.2.1 _ hw) rfl cx.2.2.2.2.2.1 hW.1 hW.2.1 hS cx.2.2.2.2.2.2.1 (a0 := (k.toNatClampNeg, .inl (fun _ => 0))) (fun cA => rfl) (fun q => hk (Or.inl q)) rfl hb hc hs hd
        fun q cA H1 k0 k1 k2 k3 => kk q _ m1 H1 locs h1 k1 k2 ⟨cA, rfl, (ll_K2 k0).1, (ll_K2 k0).2⟩ k3
  · cases hf
theorem lk_anew {ix t : Nat} (hd : decode cc pc = .ok (.anewarray ix, 3)) (hw : ll_tb (.classLink own ix (ll_cn t))) (ho : ll_cn t ∈ ll_aos) : ll_K cc own ini lw L xs pc (lo_anew (pc + 3) t) := by
  refine ll_knw fun ls st σ pc' ls' st' σ1 hf => ?_
  unfold lo_anew at hf
  split at hf
  · rename_i k rest
    split at hf
    · cases hf
    · rename_i hk
      cases hf
      refine ⟨_, _, rest, rfl, rfl, rfl, fun B nL p l e R s m args below meth c D A Q cx adr ws mls mst H locs cells slots hW hS hst hc hs kk => ?_⟩
      obtain ⟨m1, rfl, h1⟩ := ll_st_int hst
      exact va_newq cx.1 cx.2.1 cx.2.2.2.1 (cx.2.2.2.2.1 _ hw) (cx.2.2.2.2.2.2.2.2.2.2.2.1 _ ho) cx.2.2.2.2.2.1 hW.1 hW.2.1 hS cx.2.2.2.2.2.2.1 (fun q => hk (Or.inl q)) rfl (by omega) hc hs hd
        fun q cA H1 k0 k1 k2 k3 => kk q _ m1 H1 locs h1 k1 k2 ⟨cA, _, rfl, fun _ => rfl, (ll_K2 k0).1, (ll_K2 k0).2⟩ k3
  · cases hf
theorem lk_new {ix ci N : Nat} {C : String} {T : u_T} {ty0 : Nat → FieldType} {fs : List Value} (hd : decode cc pc = .ok (.new ix, 3)) (hc : vwCl[ci]? = some (C, T, N)) (hin : ∀ w ∈ u_ws C T N, w ∈ ll_T) (hty : ∀ k, k < N → parseFieldDescriptor (T k).2.2.1 = some (ty0 k)) (hw : ll_tb (.classLink own ix C)) (hi : ll_tb (.instantiable C N)) (hn : ll_tb (.initialized C)) (hl : fs.length = N) (hfs : ∀ j, j < N → defaultValue (ty0 j) = vp_V fs j) (hdf : ∀ v ∈ fs, v = .null ∨ v = .int 0) : ll_K cc own ini lw L xs pc (lo_new (pc + 3) ci N fs) := by
  refine ll_knw fun ls st σ pc' ls' st' σ1 hf => ?_
  cases hf
  refine ⟨_, _, st, rfl, rfl, rfl, fun B nL p l e R s m args below meth c D A Q cx adr ws mls mst H locs cells slots hW hS hst hcl hs kk => ?_⟩
  refine va_new (fs := fs) cx.1 cx.2.1 (ll_hts cx.2.2.2.2.1) hin ty0 hty cx.2.2.2.1 (cx.2.2.2.2.1 _ hw) (cx.2.2.2.2.1 _ hi) (cx.2.2.2.2.1 _ hn) cx.2.2.2.2.2.1 hW.1 hW.2.1 hS cx.2.2.2.2.2.2.1 hc hfs hcl hs hd
    fun q H1 k1 k2 k3 => kk q _ mst H1 locs hst k1 k2 ⟨fs, rfl, ⟨_, hc, hl⟩, fun k v hk => ?_⟩ k3
  have h1 : fs.getD k .null = v := by rw [List.getD_eq_getElem?_getD, hk]; rfl
  show ll_v B _ (fs.getD k .null) v
  rw [h1]
  rcases hdf v (List.mem_of_getElem? hk) with rfl | rfl <;> rfl
theorem lk_init {ix : Nat} (hd : decode cc pc = .ok (.invokespecial ix, 3)) (hw : ll_tb (.methodLink own ix Lib.objectInit)) (hi : ll_tb (.instanceMethod Lib.objectInit)) (hcd : ll_tb (.code Lib.objectInit ⟨#[0xb1]⟩ 1 none)) : ll_K cc own ini lw L xs pc (lo_init (pc + 3)) := by
  refine ll_krd fun ls st σ pc' ls' st' σ1 hf => ?_
  unfold lo_init at hf
  split at hf
  · rename_i i rest
    split at hf
    · rename_i hlen
      cases hf
      refine ⟨rfl, rfl, fun B nL p l e R s m args below meth c D A Q cx adr ws mls mst H locs cells slots hW hS hsz hst => ?_⟩
      obtain ⟨a, mr, ha, rfl, hr⟩ := ll_st_ref hst
      have hct := ll_cat hr
      refine ⟨mr, hr, fun kk => W.objInit cx.1 cx.2.1 cx.2.2.2.1 (cx.2.2.2.2.1 _ hw) (cx.2.2.2.2.1 _ hi) (cx.2.2.2.2.1 _ hcd) rfl (hsz.trans cx.2.2.1.symm) rfl hd cx.2.2.2.2.2.2.2.2.1 ?_ kk⟩
      have hR := cx.2.2.2.2.2.2.2.2.2.1
      show 2 * 0 + (mr.map fun v => v.category).sum + 12 ≤ R.locals
      omega
    · cases hf
  · cases hf
theorem lk_copy {ix : Nat} (hd : decode cc pc = .ok (.invokestatic ix, 3)) (hw : ll_tb (.methodLink own ix arraycopyName)) (hn : ll_tb (.native arraycopyName)) (hs : ll_tb (.static arraycopyName)) (hi : ll_tb (.initialized "java/lang/System")) : ll_K cc own ini lw L xs pc (lo_copy (pc + 3)) := by
  refine ll_kwr fun ls st σ pc' ls' st' σ1 hf => ?_
  unfold lo_copy at hf
  split at hf
  · rename_i k dp d sp s0 rest
    split at hf
    · rename_i t0 n0 f t1 n1 g hc0 hc1
      split at hf
      · rename_i hq
        obtain ⟨rfl, rfl, hlen, q1, q2, q3, q4, q5⟩ := hq
        cases hf
        refine ⟨rfl, ⟨rfl, rfl⟩, fun B nL p l e R s m args below meth c D A Q cx adr ws mls mst H locs cells slots hW hS hsz hst kk => ?_⟩
        obtain ⟨m1, rfl, h1⟩ := ll_st_int hst
        obtain ⟨m2, rfl, h2⟩ := ll_st_int h1
        obtain ⟨a1, m3, ha1, rfl, h3⟩ := ll_st_ref h2
        obtain ⟨m4, rfl, h4⟩ := ll_st_int h3
        obtain ⟨a0, mr, ha0, rfl, hr⟩ := ll_st_ref h4
        obtain ⟨e0, hws0, hcr0⟩ := ll_W_at hW ha0
        rw [hc0] at hcr0
        obtain ⟨cA0, rfl, g1, g2⟩ := hcr0
        obtain ⟨e1, hws1, hcr1⟩ := ll_W_at hW ha1
        rw [hc1] at hcr1
        obtain ⟨cA1, rfl, g3, g4⟩ := hcr1
        have hct := ll_cat hr
        have hR := cx.2.2.2.2.2.2.2.2.2.1
        have hKK : va_K D vwCl [(cA0, .int), (cA1, .int)] s := by
          refine ⟨cx.2.2.2.2.2.1.1, fun k q hk => ?_⟩
          match k, hk with
          | 0, hk => cases hk; exact ⟨g1, g2⟩
          | 1, hk => cases hk; exact ⟨g3, g4⟩
          | _ + 2, hk => cases hk
        have hnat : nativeFrameWords "java/lang/System" "arraycopy" 5 ≤ 40 := by decide +kernel
        refine va_copyi cx.1 cx.2.1 (cx.2.2.1.trans hsz.symm) cx.2.2.2.1 (cx.2.2.2.2.1 _ hw) (cx.2.2.2.2.1 _ hn) (cx.2.2.2.2.1 _ hs) (cx.2.2.2.2.1 _ hi) hKK hW.1 hW.2.1 hS s0 d 0 1 hws0 hws1 rfl rfl rfl q1 q2 q3 q4 q5 (fun _ _ => rfl) cx.2.2.2.2.2.2.2.2.1 (by omega) hd fun H1 locs1 k1 k2 k3 => kk _ mr H1 locs1 (ll_W_set hW hws1 k1 k2 ⟨cA1, rfl, g3, g4⟩) k3 hr
      · cases hf
    · cases hf
  · cases hf
theorem lk_sld (hd : decode cc pc = .ok (.iaload, 1)) (hlw : lw = true) : ll_K cc own ini lw L xs pc (lo_sld (pc + 1) L xs) := by
  refine ll_krd fun ls st σ pc' ls' st' σ1 hf => ?_
  unfold lo_sld at hf
  split at hf
  · rename_i j x rest
    split at hf
    · cases hf
    · rename_i hin
      cases hf
      refine ⟨rfl, rfl, fun B nL p l e R s m args below meth c D A Q cx adr ws mls mst H locs cells slots hW hS hsz hst => ?_⟩
      obtain ⟨m1, rfl, h1⟩ := ll_st_int hst
      obtain ⟨w, mr, rfl, ⟨b, hB, rfl⟩, hr⟩ := ll_st_inv h1
      obtain ⟨x1, x2, x3⟩ := cx.2.2.2.2.2.2.2.2.2.2.1 hlw b hB
      exact ⟨_ :: mr, ⟨rfl, hr⟩, fun kk => va_sld cx.1 cx.2.1 x1 x2 x3 hS hin hd kk⟩
  · cases hf
theorem lk_slen (hd : decode cc pc = .ok (.arraylength, 1)) (hlw : lw = true) : ll_K cc own ini lw L xs pc (lo_slen (pc + 1) L) := by
  refine ll_krd fun ls st σ pc' ls' st' σ1 hf => ?_
  unfold lo_slen at hf
  split at hf
  · rename_i x rest
    cases hf
    refine ⟨rfl, rfl, fun B nL p l e R s m args below meth c D A Q cx adr ws mls mst H locs cells slots hW hS hsz hst => ?_⟩
    obtain ⟨w, mr, rfl, ⟨b, hB, rfl⟩, hr⟩ := ll_st_inv hst
    obtain ⟨x1, x2, x3⟩ := cx.2.2.2.2.2.2.2.2.2.2.1 hlw b hB
    exact ⟨_ :: mr, ⟨rfl, hr⟩, fun kk => va_slen cx.1 cx.2.1 x1 x2 x3 hS hd kk⟩
  · cases hf
end LH2
end
section
/-! THE RUN of the light machine, and that it is the machine's. -/
def ll_sl (vs : List Value) : List Value := vs.flatMap fun v => if v.category = 2 then [v, .null] else [v]
def ll_ent (n : Nat) (vs : List Value) : List Value := ll_sl vs ++ List.replicate (n - (ll_sl vs).length) .null
/-- the receiver is of the method's class -/
def ll_rc (ci : Option Nat) (as : List Value) (σ : ll_S) : Bool := match ci with
  | none => true
  | some c => match as with
    | .ref i :: _ => match σ.2.2 i with
      | .inr (.inr (c', _)) => c' == c
      | _ => false
    | _ => false
def ll_okc (ci : Option Nat) (nL k : Nat) (st : List Value) (σ : ll_S) : Bool := decide (k ≤ st.length) && (decide ((st.drop k).length ≤ 4) && (decide ((ll_sl (st.take k).reverse).length ≤ nL) && ll_rc ci (st.take k).reverse σ))
def ll_ret (t : Nat) (st : List Value) (σ : ll_S) : Option (Option Int32 × ll_S) := match st with
  | [] => if t = 0 then some (none, σ) else none
  | [.int x] => if t = 1 ∨ (t = 2 ∧ (x = 0 ∨ x = 1)) then some (some x, σ) else none
  | _ => none
def ll_run (P : Nat → Nat → Option ll_O) (mL : Nat → Nat) (mK : Nat → Option Nat) : Nat → Nat → Nat → Nat → List Value → List Value → ll_S → Option (Option Int32 × ll_S)
  | 0, _, _, _, _, _, _ => none
  | n + 1, d, y, pc, ls, st, σ => match P y pc with
    | none => none
    | some (.inl f) => match f ls st σ with
      | none => none
      | some r => ll_run P mL mK n d y r.1 r.2.1 r.2.2.1 r.2.2.2
    | some (.inr (.inl q)) => match d with
      | 0 => none
      | d' + 1 => if ll_okc (mK q.1) (mL q.1) q.2.1 st σ = true then (match ll_run P mL mK n d' q.1 0 (ll_ent (mL q.1) (st.take q.2.1).reverse) [] σ with
          | none => none
          | some r => ll_run P mL mK n (d' + 1) y q.2.2 ls ((r.1.map Value.int).toList ++ st.drop q.2.1) r.2) else none
    | some (.inr (.inr t)) => ll_ret t st σ
theorem ll_v_cat {B : Nat → Prop} {adr : List Nat} {v w : Value} (h : ll_v B adr v w) : v.category = w.category := by
  cases v with
  | int x => rw [show w = .int x from h]
  | long x => rw [show w = .long x from h]
  | float x => obtain ⟨b, -, rfl⟩ := h; rfl
  | double x => exact h.elim
  | null => rw [show w = .null from h]
  | ref a => obtain ⟨b, -, rfl⟩ := h; rfl
  | retAddr a => exact h.elim
theorem ll_sl_cons (v : Value) (vs : List Value) : ll_sl (v :: vs) = (if v.category = 2 then [v, .null] else [v]) ++ ll_sl vs := by simp [ll_sl]
theorem ll_sl_len {B : Nat → Prop} {adr : List Nat} : ∀ {as was : List Value}, ll_st B adr as was → (lg_sl was).length = (ll_sl as).length
  | [], [], _ => rfl
  | v :: as, w :: was, h => by
    have h1 := ll_sl_len h.2
    have h2 : lg_sl (w :: was) = (if w.category = 2 then [.val w, .second] else [.val w]) ++ lg_sl was := by simp [lg_sl]
    rw [h2, ll_sl_cons, List.length_append, List.length_append, h1, ll_v_cat h.1]
    split <;> rfl
  | [], _ :: _, h => h.elim
  | _ :: _, [], h => h.elim
theorem ll_ent_at {B : Nat → Prop} {adr : List Nat} : ∀ {as was : List Value} (off : Nat), ll_st B adr as was → ∀ (i : Nat) (v : Value), (ll_sl as)[i]? = some v → v ≠ .null → ∃ w, (off + i, w) ∈ lv_args off was ∧ ll_v B adr v w
  | [], [], _, _, i, v, hi, _ => by simp [ll_sl] at hi
  | u :: as, w :: was, off, h, i, v, hi, hn => by
    rw [ll_sl_cons] at hi
    by_cases hc : u.category = 2
    · rw [if_pos hc] at hi
      match i, hi with
      | 0, hi =>
        cases hi
        exact ⟨w, by simp [lv_args], h.1⟩
      | 1, hi =>
        cases hi
        exact absurd rfl hn
      | i + 2, hi =>
        obtain ⟨w', q1, q2⟩ := ll_ent_at (off + 2) h.2 i v (by simpa using hi) hn
        refine ⟨w', ?_, q2⟩
        rw [lv_args, if_pos (by rw [← ll_v_cat h.1]; exact hc)]
        exact List.mem_cons_of_mem _ (by rw [show off + (i + 2) = off + 2 + i by omega]; exact q1)
    · rw [if_neg hc] at hi
      match i, hi with
      | 0, hi =>
        cases hi
        exact ⟨w, by simp [lv_args], h.1⟩
      | i + 1, hi =>
        obtain ⟨w', q1, q2⟩ := ll_ent_at (off + 1) h.2 i v (by simpa using hi) hn
        refine ⟨w', ?_, q2⟩
        rw [lv_args, if_neg (by rw [← ll_v_cat h.1]; exact hc)]
        exact List.mem_cons_of_mem _ (by rw [show off + (i + 1) = off + 1 + i by omega]; exact q1)
  | [], _ :: _, _, h, _, _, _, _ => h.elim
  | _ :: _, [], _, h, _, _, _, _ => h.elim
theorem ll_ent_L {B : Nat → Prop} {adr : List Nat} {as was : List Value} {n : Nat} {mls : Array Slot} (h : ll_st B adr as was) (hn : (ll_sl as).length ≤ n) (hl : lv_has mls n (lv_args 0 was)) : ll_L B adr (ll_ent n as) mls n := by
  refine ⟨by simp [ll_ent]; omega, _, hl, fun i v hi hv => ?_⟩
  unfold ll_ent at hi
  by_cases hlt : i < (ll_sl as).length
  · rw [List.getElem?_append_left hlt] at hi
    obtain ⟨w, q1, q2⟩ := ll_ent_at 0 h i v hi hv
    exact ⟨w, by rw [Nat.zero_add] at q1; exact q1, q2⟩
  · rw [List.getElem?_append_right (by omega)] at hi
    exact absurd (List.eq_of_mem_replicate (List.mem_of_getElem? hi)) hv
theorem ll_st_append {B : Nat → Prop} {adr : List Nat} : ∀ {a b a2 b2 : List Value}, ll_st B adr a b → ll_st B adr a2 b2 → ll_st B adr (a ++ a2) (b ++ b2)
  | [], [], _, _, _, h => h
  | _ :: _, _ :: _, _, _, h, h2 => ⟨h.1, ll_st_append h.2 h2⟩
  | [], _ :: _, _, _, h, _ => h.elim
  | _ :: _, [], _, _, h, _ => h.elim
theorem ll_st_reverse {B : Nat → Prop} {adr : List Nat} : ∀ {a b : List Value}, ll_st B adr a b → ll_st B adr a.reverse b.reverse
  | [], [], _ => trivial
  | v :: a, w :: b, h => by
    rw [List.reverse_cons, List.reverse_cons]
    exact ll_st_append (ll_st_reverse h.2) ⟨h.1, trivial⟩
  | [], _ :: _, h => h.elim
  | _ :: _, [], h => h.elim
theorem ll_st_take {B : Nat → Prop} {adr : List Nat} : ∀ (k : Nat) {a b : List Value}, ll_st B adr a b → ll_st B adr (a.take k) (b.take k) ∧ ll_st B adr (a.drop k) (b.drop k)
  | 0, _, _, h => ⟨trivial, h⟩
  | _ + 1, [], [], _ => ⟨trivial, trivial⟩
  | k + 1, _ :: _, _ :: _, h => ⟨⟨h.1, (ll_st_take k h.2).1⟩, (ll_st_take k h.2).2⟩
  | _ + 1, [], _ :: _, h => h.elim
  | _ + 1, _ :: _, [], h => h.elim
/-- a call instruction: what the tables say of it (N: the method called, K: its receiver's class, k: the values taken) -/
def ll_J (cc : ByteArray) (own : String) (pc : Nat) (N : MethodName) (K : Option Nat) (k : Nat) : Prop :=
  (∃ ix n ci q, decode cc pc = .ok (.invokevirtual ix, 3) ∧ ll_tb (.methodLink own ix N) ∧ ll_tb (.instanceMethod N) ∧ ll_tb (.selects N.cls N N) ∧ K = some ci ∧ vwCl[ci]? = some q ∧ q.1 = N.cls ∧ k = n + 1 ∧ (parseMethodDescriptor N.desc).map (fun d => d.parameters.length) = some n) ∨
  (∃ ix, decode cc pc = .ok (.invokestatic ix, 3) ∧ ll_tb (.methodLink own ix N) ∧ ll_tb (.static N) ∧ (parseMethodDescriptor N.desc).map (fun d => d.parameters.length) = some k) ∨
  (∃ ix n ci, decode cc pc = .ok (.invokespecial ix, 3) ∧ (ll_tb (.methodLink own ix N) ∨ ∃ host, (own, ix, N, host) ∈ ll_nws) ∧ ll_tb (.instanceMethod N) ∧ N.name = "<init>" ∧ K = some ci ∧ k = n + 1 ∧ (parseMethodDescriptor N.desc).map (fun d => d.parameters.length) = some n)
/-- an instruction of the table is the machine's -/
def ll_OK (mN : Nat → MethodName) (mC : Nat → ByteArray) (mR : Nat → Option FieldType) (mK : Nat → Option Nat) (mI : Nat → Bool) (cnt : Nat) (L : Nat) (xs : Nat → Int32) (lw : Bool) (y pc : Nat) (o : ll_O) : Prop := match o with
  | .inl f => ll_K (mC y) (mN y).cls (mI y) lw L xs pc f
  | .inr (.inl (z, k, n)) => n = pc + 3 ∧ z < cnt ∧ ll_J (mC y) (mN y).cls pc (mN z) (mK z) k ∧ ((∃ ix, decode (mC y) pc = .ok (.invokespecial ix, 3)) → mR z = none)
  | .inr (.inr t) => (t = 0 → decode (mC y) pc = .ok (.return_, 1) ∧ mR y = none) ∧ (t = 1 → decode (mC y) pc = .ok (.ireturn, 1) ∧ mR y = some .int) ∧ (t = 2 → decode (mC y) pc = .ok (.ireturn, 1) ∧ mR y = some .boolean)
/-- a method of the table -/
def ll_M (mN : Nat → MethodName) (mC : Nat → ByteArray) (mL : Nat → Nat) (mR : Nat → Option FieldType) (mI : Nat → Bool) (y : Nat) : Prop :=
  ll_tb (.code (mN y) (mC y) (mL y) (mR y)) ∧ ll_tb (.initialized (mN y).cls) ∧ plainName (mN y).cls = true ∧ ((mN y).cls ≠ "java/lang/invoke/MethodHandle" ∧ (mN y).cls ≠ "java/lang/invoke/VarHandle") ∧ mL y ≤ 40 ∧ (mI y = true → (mN y).name = "<init>")
end
section
/-- the return that ends a run with r -/
def ll_rt (mC : Nat → ByteArray) (mR : Nat → Option FieldType) (y pc : Nat) (r : Option Int32) : Prop := match r with
  | none => decode (mC y) pc = .ok (.return_, 1) ∧ mR y = none
  | some x => decode (mC y) pc = .ok (.ireturn, 1) ∧ (mR y = some .int ∨ (mR y = some .boolean ∧ (x = 0 ∨ x = 1)))
/-- from here the machine comes to the return of r, with the store σ' -/
def ll_Bd (mN : Nat → MethodName) (mC : Nat → ByteArray) (mL : Nat → Nat) (mR : Nat → Option FieldType) (mI : Nat → Bool) (L : Nat) (xs : Nat → Int32) (lwf : Bool) (d y pc : Nat) (ls st : List Value) (σ : ll_S) (r : Option Int32) (σ' : ll_S) : Prop :=
  ∀ (B : Nat → Prop) (p : Program) (l : Launch) (e : Env) (R : Room) (s : State) (m : MethodId) (args : Array Value) (below : List Frame) (meth : Method) (c : Code) (D : va_G) (A : Nat → Prop) (Q : State → Prop),
    ll_X (mC y) (mL y) (mN y).cls (mI y) lwf L xs B p R s m args meth c D A → d + 1 ≤ R.frames → 64 * (d + 1) ≤ R.locals → ∀ (adr : List Nat) (ws : va_W) (mls : Array Slot) (mst : List Value) (H : Heap) (locs : List Loc) (cells slots : Nat),
    ll_W B s D A adr ws σ H → va_S A s.heap H locs → ll_L B adr ls mls (mL y) → ll_st B adr st mst → cells + (σ'.1 - σ.1) ≤ R.cells → slots + (σ'.2.1 - σ.2.1) ≤ R.slots →
    (∀ (pc' : Nat) (adr' : List Nat) (ws' : va_W) (mls' : Array Slot) (H' : Heap) (locs' : List Loc), ll_rt mC mR y pc' r → (∃ z, adr' = adr ++ z) → ll_W B s D A adr' ws' σ' H' → va_S A s.heap H' locs' →
      W p l e R s m args below meth c H' locs' (cells + (σ'.1 - σ.1)) (slots + (σ'.2.1 - σ.2.1)) Q (F0 m pc' mls' (r.map Value.int).toList)) →
    W p l e R s m args below meth c H locs cells slots Q (F0 m pc mls mst)
/-- the world behind a call -/
def ll_af (B : Nat → Prop) (D : va_G) (adr : List Nat) (A : Nat → Prop) (σ1 : ll_S) (u : List Nat × va_W) (t : State) : Prop := (∃ z, u.1 = adr ++ z) ∧ ll_W B t D A u.1 u.2 σ1 t.heap
def ll_Qc (B : Nat → Prop) (D : va_G) (adr : List Nat) (A : Nat → Prop) (σ1 : ll_S) (r : Option Int32) : Array Value → State → Outcome → State → Prop := match r with
  | some x => va_Qi (S := List Nat × va_W) (fun y _ => y = x) (ll_af B D adr A σ1) A
  | none => va_Qv (S := List Nat × va_W) (fun _ => True) (ll_af B D adr A σ1) A
section LB
variable {P : Nat → Nat → Option ll_O} {mN : Nat → MethodName} {mC : Nat → ByteArray} {mL : Nat → Nat} {mR : Nat → Option FieldType} {mK : Nat → Option Nat} {mI : Nat → Bool} {cnt L : Nat} {xs : Nat → Int32}
/-- a method's contract out of its light run -/
theorem ll_met {z d : Nat} {as : List Value} {σ σ1 : ll_S} {r : Option Int32} (hb : ll_Bd mN mC mL mR mI L xs false d z 0 (ll_ent (mL z) as) [] σ r σ1) (hm : ll_M mN mC mL mR mI z) (hn : (ll_sl as).length ≤ mL z) (l : Launch) (B : Nat → Prop) (D : va_G) (adr : List Nat) (ws : va_W) (was : List Value) (sz : Nat) (hst : ll_st B adr as was) :
    Met l (mN z) (.code (mN z) (mC z) (mL z) (mR z) :: ll_T) { frames := d + 1, cells := σ1.1 - σ.1, slots := σ1.2.1 - σ.2.1, locals := 64 * (d + 1) } (va_Pc was (fun U => U.heap.size = sz ∧ va_K D vwCl [] U ∧ ll_Z U ∧ ll_W B U D (fun _ => True) adr ws σ U.heap)) (ll_Qc B D adr (va_A ws sz) σ1 r) (σ1.1 - σ.1) (σ1.2.1 - σ.2.1) (va_A ws sz) := by
  refine Met.ofW (cc := mC z) (maxL := mL z) (ret := mR z) hm.2.2.1 rfl ?_
  intro p e s m args below meth c s₁ Bd hml hv
  obtain ⟨rfl, hsz, hK, hZ, hW⟩ := hv
  subst hsz
  have hts := atoms_spec (ws := Cond.code (mN z) (mC z) (mL z) (mR z) :: ll_T) Bd.pre
  have hown : s.vm.findClass (mN z).cls = some m.cls := findClass_of_methodNamed Bd.named
  have hlocks := Bd.notSynchronized
  have hl := lv_entry was (n := mL z) (by rw [ll_sl_len hst]; exact hn)
  rw [lg_entry_eq]
  generalize (lg_sl was ++ List.replicate (mL z - (lg_sl was).length) Slot.unset).toArray = mls at hl ⊢
  have hX : ll_X (mC z) (mL z) (mN z).cls (mI z) false L xs B p (headSpec (Cond.code (mN z) (mC z) (mL z) (mR z) :: ll_T) { frames := d + 1, cells := σ1.1 - σ.1, slots := σ1.2.1 - σ.2.1, locals := 64 * (d + 1) }).room s m was.toArray meth c D (va_A ws s.heap.size) := by
    refine ⟨Bd.exec, Bd.bytes, hml, hown, fun w hw => hts w (List.mem_cons_of_mem _ (ll_T_in hw)), hK, fun q hq => Or.inr hq, fun hi => ?_, ?_, ?_, fun h => (by cases h), hZ⟩
    · rw [(name_of_methodNamed Bd.named Bd.method).1]; exact hm.2.2.2.2.2 hi
    · show 1 ≤ d + 1; omega
    · show 64 ≤ 64 * (d + 1); omega
  have hW' : ll_W B s D (va_A ws s.heap.size) adr ws σ s.heap := ⟨hW.1, hW.2.1.self, hW.2.2⟩
  refine hb B p l e _ s m _ below meth c D (va_A ws s.heap.size) _ hX (Nat.le_refl _) (Nat.le_refl _) adr ws mls [] s.heap [] 0 0 hW' va_S.rf (ll_ent_L hst hn hl) trivial (by rw [Nat.zero_add]; exact Nat.le_refl _) (by rw [Nat.zero_add]; exact Nat.le_refl _) ?_
  intro pc' adr' ws' mls' H' locs' hrt hz hW2 hS2
  rw [Nat.zero_add, Nat.zero_add]
  cases r with
  | none =>
    obtain ⟨h1, h2⟩ := hrt
    exact W.vret Bd.exec Bd.bytes (Bd.returns.trans h2) (fun t ht hWm => ⟨⟨(adr', ws'), rfl, trivial, hz, by rw [ht]; exact ll_W_moved hWm.alike hW2⟩, hS2.F ht⟩) hS2.2.2 h1
  | some x =>
    obtain ⟨h1, h2⟩ := hrt
    have hq : ∀ t : State, t.heap = H' → s.WarmedH t.vm → ll_Qc B D adr (va_A ws s.heap.size) σ1 (some x) was.toArray s (.returned (some (.int x))) t := fun t ht hWm => ⟨⟨x, (adr', ws'), rfl, rfl, hz, by rw [ht]; exact ll_W_moved hWm.alike hW2⟩, hS2.F ht⟩
    rcases h2 with h2 | ⟨h2, h3⟩
    · exact W.zret (ty := .int) Bd.exec Bd.bytes (Bd.returns.trans h2) rfl hq hS2.2.2 h1
    · exact W.zret (ty := .boolean) Bd.exec Bd.bytes (Bd.returns.trans h2) (by rcases h3 with rfl | rfl <;> rfl) hq hS2.2.2 h1
theorem ll_good {N : MethodName} {bs : ByteArray} {n : Nat} {r : Option FieldType} (h : ll_tb (.code N bs n r)) : GoodIn ll_T (Cond.code N bs n r :: ll_T) := by
  intro w hw
  rcases List.mem_cons.mp hw with rfl | hw
  · exact ⟨ll_T_in h, good_of_word h.2⟩
  · exact ⟨hw, good_of_word (ll_T_tb hw).2⟩
theorem ll_blind {B : Nat → Prop} {D : va_G} {adr : List Nat} {ws : va_W} {was : List Value} {sz : Nat} {σ : ll_S} : FrameBlind (va_Pc was (fun U => U.heap.size = sz ∧ va_K D vwCl [] U ∧ ll_Z U ∧ ll_W B U D (fun _ => True) adr ws σ U.heap)) := by
  intro a U g mk q
  obtain ⟨q0, q1, q2, q3, q4⟩ := q
  exact ⟨q0, q1, va_K.moved (u := U) (U := U.calling g mk a) (Vm.Alike.refl U.vm) q2, ll_Z_vm (s := U) (U := U.calling g mk a) rfl q3, ll_W_moved (u := U) (U := U.calling g mk a) (Vm.Alike.refl U.vm) q4⟩
theorem ll_okc_spec {ci : Option Nat} {nL k : Nat} {st : List Value} {σ : ll_S} (h : ll_okc ci nL k st σ = true) : k ≤ st.length ∧ (st.drop k).length ≤ 4 ∧ (ll_sl (st.take k).reverse).length ≤ nL ∧ ll_rc ci (st.take k).reverse σ = true := by
  simp only [ll_okc, Bool.and_eq_true, decide_eq_true_eq] at h
  exact h
theorem ll_rc_spec {ci : Nat} {as : List Value} {σ : ll_S} (h : ll_rc (some ci) as σ = true) : ∃ i f rest, as = .ref i :: rest ∧ σ.2.2 i = .inr (.inr (ci, f)) := by
  simp only [ll_rc] at h
  split at h
  · rename_i i rest
    split at h
    · rename_i c' f hc
      have e1 : c' = ci := by simpa using h
      subst e1
      exact ⟨i, f, rest, rfl, hc⟩
    · cases h
  · cases h
/-- a call, whatever its kind -/
theorem ll_call {lwf : Bool} {y z k d pc : Nat} {st : List Value} {σ σ1 : ll_S} {r : Option Int32} (hb : ll_Bd mN mC mL mR mI L xs false d z 0 (ll_ent (mL z) (st.take k).reverse) [] σ r σ1) (hm : ll_M mN mC mL mR mI z) (hok : ll_okc (mK z) (mL z) k st σ = true) (hJ : ll_J (mC y) (mN y).cls pc (mN z) (mK z) k) (hrn : (∃ ix, decode (mC y) pc = .ok (.invokespecial ix, 3)) → mR z = none)
    {B : Nat → Prop} {p : Program} {l : Launch} {e : Env} {R : Room} {s : State} {m : MethodId} {args : Array Value} {below : List Frame} {meth : Method} {c : Code} {D : va_G} {A : Nat → Prop} {Q : State → Prop} (cx : ll_X (mC y) (mL y) (mN y).cls (mI y) lwf L xs B p R s m args meth c D A) (hfr : d + 2 ≤ R.frames) (hlo : 64 * (d + 2) ≤ R.locals)
    {adr : List Nat} {ws : va_W} {mls : Array Slot} {mst : List Value} {H : Heap} {locs : List Loc} {cells slots : Nat} (hW : ll_W B s D A adr ws σ H) (hS : va_S A s.heap H locs) (hsz : mls.size = mL y) (hst : ll_st B adr st mst) (hc : cells + (σ1.1 - σ.1) ≤ R.cells) (hs : slots + (σ1.2.1 - σ.2.1) ≤ R.slots)
    (kk : ∀ (adr' : List Nat) (ws' : va_W) (mst' : List Value) (H' : Heap) (locs' : List Loc), (∃ z, adr' = adr ++ z) → ll_W B s D A adr' ws' σ1 H' → va_S A s.heap H' locs' → ll_st B adr' ((r.map Value.int).toList ++ st.drop k) mst' → W p l e R s m args below meth c H' locs' (cells + (σ1.1 - σ.1)) (slots + (σ1.2.1 - σ.2.1)) Q (F0 m (pc + 3) mls mst')) :
    W p l e R s m args below meth c H locs cells slots Q (F0 m pc mls mst) := by
  obtain ⟨hk, hd4, hsl, hrc⟩ := ll_okc_spec hok
  obtain ⟨ht1, ht2⟩ := ll_st_take k hst
  have hlen : st.length = mst.length := ll_st_len hst
  have hwas := ll_st_reverse ht1
  have hM := ll_met hb hm hsl l B D adr ws (mst.take k).reverse H.size hwas
  have hA1 : ∀ q, va_A ws H.size q → A q := by
    intro q hq
    rcases hq with ⟨j, e0, hj⟩ | hq
    · exact hW.2.1.2 j _ hj
    · exact cx.2.2.2.2.2.2.1 q (Nat.le_trans hS.1 hq)
  have hroom : (mst.drop k |>.map fun v => v.category).sum ≤ 8 := by
    have := ll_cat ht2
    omega
  have hfix : CallFix p m c (mC y) (mL y) s args ll_T (mN y).cls := ⟨cx.1, cx.2.1, cx.2.2.1, cx.2.2.2.1, ll_hts cx.2.2.2.2.1⟩
  have hwl : (mst.take k).reverse.length = k := by rw [List.length_reverse, List.length_take]; omega
  have hsplit : mst = (mst.take k).reverse.reverse ++ mst.drop k := by rw [List.reverse_reverse, List.take_append_drop]
  have hpre : ∀ U : State, U.heap = H → s.WarmedH U.vm → va_Pc (mst.take k).reverse (fun U => U.heap.size = H.size ∧ va_K D vwCl [] U ∧ ll_Z U ∧ ll_W B U D (fun _ => True) adr ws σ U.heap) (mst.take k).reverse.toArray U := fun U hU hWm => ⟨rfl, by rw [hU], va_K.moved hWm.alike cx.2.2.2.2.2.1, ll_Z_warm hWm cx.2.2.2.2.2.2.2.2.2.2.2, by
    rw [hU]
    have := ll_W_moved hWm.alike hW
    exact ⟨this.1, this.2.1.weaken (fun _ _ _ _ => trivial), this.2.2⟩⟩
  generalize hwe : (mst.take k).reverse = was at hM hwas hwl hsplit hpre
  -- the run
  have hRun : va_Run p l e R s m args below meth c H locs cells slots (σ1.1 - σ.1) (σ1.2.1 - σ.2.1) (F0 m pc mls mst) (mst.drop k) (ll_Qc B D adr (va_A ws H.size) σ1 r was.toArray) (va_A ws H.size) := by
    have hR : d + 1 + 1 ≤ R.frames ∧ 8 + (mL z + 11) + 64 * (d + 1) ≤ R.locals := ⟨by omega, by have := hm.2.2.2.2.1; omega⟩
    rcases hJ with ⟨ix, n, ci, q, j1, j2, j3, j4, j5, j6, j7, j8, j9⟩ | ⟨ix, j1, j2, j3, j4⟩ | ⟨ix, n, ci, j1, j2, j3, j4, j5, j6, j7⟩
    · rw [j5] at hrc
      obtain ⟨i, f, rest, he, hcell⟩ := ll_rc_spec hrc
      rw [he] at hwas
      obtain ⟨b, As, hbi, rfl, hAs⟩ := ll_st_ref hwas
      obtain ⟨e0, hws, hcr⟩ := ll_W_at hW hbi
      rw [hcell] at hcr
      obtain ⟨fs, rfl, -, -⟩ := hcr
      have hcb := callB_of (own := (mN y).cls) (index := ix) (R := R) n (ll_hts cx.2.2.2.2.1) (ll_good hm.1) rfl rfl rfl (cx.2.2.2.2.1 _ hm.2.1) (cx.2.2.2.2.1 _ j2) ⟨hm.2.2.2.1.1, hm.2.2.2.1.2, j9⟩ (rm := { frames := d + 1, cells := σ1.1 - σ.1, slots := σ1.2.1 - σ.2.1, locals := 64 * (d + 1) }) hR
      refine va_runV (C := (mN z).cls) hfix hM ⟨hcb, cx.2.2.2.2.1 _ j3, cx.2.2.2.2.1 _ j4⟩ ⟨ll_blind, ?_, hpre⟩ rfl (by simp only [List.length_cons] at hwl; omega) hsz ?_ (lv_room hroom) j1 ⟨hc, hs⟩
      · have := va_recv cx.2.2.2.2.2.1 hW.1 j6 hws
        rw [j7] at this
        exact this
      · show mst = _
        rw [List.reverse_cons, List.append_assoc] at hsplit
        exact hsplit
    · have hcb := callB_of (own := (mN y).cls) (index := ix) (R := R) k (ll_hts cx.2.2.2.2.1) (ll_good hm.1) rfl rfl rfl (cx.2.2.2.2.1 _ hm.2.1) (cx.2.2.2.2.1 _ j2) ⟨hm.2.2.2.1.1, hm.2.2.2.1.2, j4⟩ (rm := { frames := d + 1, cells := σ1.1 - σ.1, slots := σ1.2.1 - σ.2.1, locals := 64 * (d + 1) }) hR
      exact va_runS hfix hM ⟨hcb, cx.2.2.2.2.1 _ j3⟩ ⟨ll_blind, hpre⟩ rfl hwl hsz hsplit (lv_room hroom) j1 ⟨hc, hs⟩
    · have hmr := hrn ⟨ix, j1⟩
      rw [j5] at hrc
      obtain ⟨i, f, rest, he, hcell⟩ := ll_rc_spec hrc
      rw [he] at hwas
      obtain ⟨b, As, hbi, rfl, hAs⟩ := ll_st_ref hwas
      have hm1 := hm.1
      rw [hmr] at hM hm1
      have hspl : mst = As.reverse ++ .ref b :: mst.drop k := by
        rw [List.reverse_cons, List.append_assoc] at hsplit
        exact hsplit
      rcases j2 with j2 | ⟨host, j2⟩
      · have hcb := callB_of (own := (mN y).cls) (index := ix) (R := R) n (ll_hts cx.2.2.2.2.1) (ll_good hm1) rfl rfl rfl (cx.2.2.2.2.1 _ hm.2.1) (cx.2.2.2.2.1 _ j2) ⟨hm.2.2.2.1.1, hm.2.2.2.1.2, j7⟩ (rm := { frames := d + 1, cells := σ1.1 - σ.1, slots := σ1.2.1 - σ.2.1, locals := 64 * (d + 1) }) hR
        exact va_runI hfix hM ⟨hcb, j4, cx.2.2.2.2.1 _ j3⟩ ⟨ll_blind, hpre⟩ rfl (by simp only [List.length_cons] at hwl; omega) hsz hspl (lv_room hroom) j1 ⟨hc, hs⟩
      · have hnw := cx.2.2.2.2.2.2.2.2.2.2.2.2 _ j2
        have hcb := va_cnB (R := R) (own := (mN y).cls) (host := host) (index := ix) n (ll_hts cx.2.2.2.2.1) (ll_good hm1) rfl rfl rfl hnw (cx.2.2.2.2.1 _ hm.2.1) ⟨hm.2.2.2.1.1, hm.2.2.2.1.2, j7⟩ (rm := { frames := d + 1, cells := σ1.1 - σ.1, slots := σ1.2.1 - σ.2.1, locals := 64 * (d + 1) }) hR
        exact va_runIN hfix hM ⟨hcb, j4, cx.2.2.2.2.1 _ j3⟩ ⟨ll_blind, hpre⟩ rfl (by simp only [List.length_cons] at hwl; omega) hsz hspl (lv_room hroom) j1 ⟨hc, hs⟩
  cases r with
  | none =>
    refine va_callv (a := was.toArray) hRun hS (fun q _ h => hA1 q h) hA1 (fun u t H1 locs1 hth hvm _ hB _ _ hS1 => ?_)
    obtain ⟨⟨zz, hzz⟩, hW1⟩ := hB
    rw [hth] at hW1
    have hW1 := ll_W_moved hvm.symm hW1
    refine kk u.1 u.2 (mst.drop k) H1 locs1 ⟨zz, hzz⟩ ⟨hW1.1, hW1.2.1.weaken (fun _ _ _ h => hA1 _ h), hW1.2.2⟩ hS1 ?_
    rw [hzz]
    exact ll_st_app ht2
  | some x =>
    refine va_calli (a := was.toArray) hRun hS (fun q _ h => hA1 q h) hA1 (fun r2 u t H1 locs1 hth hvm hr2 hB _ _ hS1 => ?_)
    obtain ⟨⟨zz, hzz⟩, hW1⟩ := hB
    rw [hth] at hW1
    have hW1 := ll_W_moved hvm.symm hW1
    refine kk u.1 u.2 (.int r2 :: mst.drop k) H1 locs1 ⟨zz, hzz⟩ ⟨hW1.1, hW1.2.1.weaken (fun _ _ _ h => hA1 _ h), hW1.2.2⟩ hS1 ?_
    rw [hzz, hr2]
    exact ⟨rfl, ll_st_app ht2⟩
theorem ll_ret_spec {t : Nat} {st : List Value} {σ : ll_S} {r : Option Int32} {σ' : ll_S} (h : ll_ret t st σ = some (r, σ')) : σ' = σ ∧ ((st = [] ∧ t = 0 ∧ r = none) ∨ ∃ x, st = [.int x] ∧ r = some x ∧ (t = 1 ∨ (t = 2 ∧ (x = 0 ∨ x = 1)))) := by
  unfold ll_ret at h
  split at h
  · split at h
    · rename_i ht
      cases h
      exact ⟨rfl, Or.inl ⟨rfl, ht, rfl⟩⟩
    · cases h
  · rename_i x
    split at h
    · rename_i ht
      cases h
      exact ⟨rfl, Or.inr ⟨x, rfl, rfl, ht⟩⟩
    · cases h
  · cases h
/-- THE LIGHT RUN IS THE MACHINE'S -/
theorem ll_body (HM : ∀ y, y < cnt → ll_M mN mC mL mR mI y) (HP : ∀ y, y < cnt → ∀ pc o, P y pc = some o → ll_OK mN mC mR mK mI cnt L xs false y pc o) : ∀ (fuel : Nat) (d y : Nat) (lwf : Bool) (pc : Nat) (ls st : List Value) (σ : ll_S) (r : Option Int32) (σ' : ll_S),
    (∀ pc o, P y pc = some o → ll_OK mN mC mR mK mI cnt L xs lwf y pc o) → ll_run P mL mK fuel d y pc ls st σ = some (r, σ') → (σ.1 ≤ σ'.1 ∧ σ.2.1 ≤ σ'.2.1) ∧ ll_Bd mN mC mL mR mI L xs lwf d y pc ls st σ r σ' := by
  intro fuel
  induction fuel with
  | zero => intro d y lwf pc ls st σ r σ' _ h; rw [ll_run] at h; cases h
  | succ n ih =>
    intro d y lwf pc ls st σ r σ' hy h
    rw [ll_run.eq_def] at h
    simp only at h
    cases hP : P y pc with
    | none => rw [hP] at h; cases h
    | some o =>
      rw [hP] at h
      have hO := hy pc o hP
      rcases o with f | q | t
      · simp only at h
        cases hf : f ls st σ with
        | none => rw [hf] at h; cases h
        | some r0 =>
          rw [hf] at h
          obtain ⟨pc1, ls1, st1, σ1⟩ := r0
          obtain ⟨⟨a1, a2⟩, k1⟩ := hO ls st σ pc1 ls1 st1 σ1 hf
          obtain ⟨⟨b1, b2⟩, k2⟩ := ih d y lwf pc1 ls1 st1 σ1 r σ' hy h
          refine ⟨⟨Nat.le_trans a1 b1, Nat.le_trans a2 b2⟩, ?_⟩
          intro B p l e R s m args below meth c D A Q cx hfr hlo adr ws mls mst H locs cells slots hW hS hL hst hc hs kk
          refine k1 B (mL y) p l e R s m args below meth c D A Q cx adr ws mls mst H locs cells slots hW hS hL hst (by omega) (by omega) fun adr' ws' mls' mst' H' locs' hz hW' hS' hL' hst' => ?_
          refine k2 B p l e R s m args below meth c D A Q cx hfr hlo adr' ws' mls' mst' H' locs' _ _ hW' hS' hL' hst' (by omega) (by omega) fun pc' adr2 ws2 mls2 H2 locs2 q1 q2 q3 q4 => ?_
          have e1 : cells + (σ1.1 - σ.1) + (σ'.1 - σ1.1) = cells + (σ'.1 - σ.1) := by omega
          have e2 : slots + (σ1.2.1 - σ.2.1) + (σ'.2.1 - σ1.2.1) = slots + (σ'.2.1 - σ.2.1) := by omega
          rw [e1, e2]
          obtain ⟨z1, rfl⟩ := hz
          obtain ⟨z2, rfl⟩ := q2
          exact kk pc' _ ws2 mls2 H2 locs2 q1 ⟨z1 ++ z2, by rw [List.append_assoc]⟩ q3 q4
      · obtain ⟨z, k, n'⟩ := q
        simp only at h
        obtain ⟨rfl, hzc, hJ, hrn⟩ := hO
        cases d with
        | zero => cases h
        | succ d' =>
          simp only at h
          split at h
          · rename_i hok
            cases hr : ll_run P mL mK n d' z 0 (ll_ent (mL z) (st.take k).reverse) [] σ with
            | none => rw [hr] at h; cases h
            | some q1 =>
              rw [hr] at h
              obtain ⟨r1, σ1⟩ := q1
              obtain ⟨⟨a1, a2⟩, k1⟩ := ih d' z false 0 _ [] σ r1 σ1 (HP z hzc) hr
              obtain ⟨⟨b1, b2⟩, k2⟩ := ih (d' + 1) y lwf (pc + 3) ls _ σ1 r σ' hy h
              refine ⟨⟨Nat.le_trans a1 b1, Nat.le_trans a2 b2⟩, ?_⟩
              intro B p l e R s m args below meth c D A Q cx hfr hlo adr ws mls mst H locs cells slots hW hS hL hst hc hs kk
              refine ll_call k1 (HM z hzc) hok hJ hrn cx hfr hlo hW hS (by obtain ⟨-, lv, q, -⟩ := hL; exact q.1) hst (by omega) (by omega) fun adr' ws' mst' H' locs' hz hW' hS' hst' => ?_
              obtain ⟨z1, rfl⟩ := hz
              refine k2 B p l e R s m args below meth c D A Q cx hfr hlo _ ws' mls mst' H' locs' _ _ hW' hS' (ll_L_app hL) hst' (by omega) (by omega) fun pc' adr2 ws2 mls2 H2 locs2 q1 q2 q3 q4 => ?_
              have e1 : cells + (σ1.1 - σ.1) + (σ'.1 - σ1.1) = cells + (σ'.1 - σ.1) := by omega
              have e2 : slots + (σ1.2.1 - σ.2.1) + (σ'.2.1 - σ1.2.1) = slots + (σ'.2.1 - σ.2.1) := by omega
              rw [e1, e2]
              obtain ⟨z2, rfl⟩ := q2
              exact kk pc' _ ws2 mls2 H2 locs2 q1 ⟨z1 ++ z2, by rw [List.append_assoc]⟩ q3 q4
          · cases h
      · simp only at h
        obtain ⟨rfl, hc⟩ := ll_ret_spec h
        refine ⟨⟨Nat.le_refl _, Nat.le_refl _⟩, ?_⟩
        intro B p l e R s m args below meth c D A Q cx hfr hlo adr ws mls mst H locs cells slots hW hS hL hst _ _ kk
        rcases hc with ⟨rfl, rfl, rfl⟩ | ⟨x, rfl, rfl, ht⟩
        · cases mst with
          | cons w b => exact hst.elim
          | nil =>
            have := kk pc adr ws mls H locs (hO.1 rfl) ⟨[], by simp⟩ hW hS
            rw [Nat.sub_self, Nat.sub_self] at this
            exact this
        · obtain ⟨m1, rfl, h1⟩ := ll_st_int hst
          cases m1 with
          | cons w b => exact h1.elim
          | nil =>
            have hrt : ll_rt mC mR y pc (some x) := by
              rcases ht with rfl | ⟨rfl, hx⟩
              · exact ⟨(hO.2.1 rfl).1, Or.inl (hO.2.1 rfl).2⟩
              · exact ⟨(hO.2.2 rfl).1, Or.inr ⟨(hO.2.2 rfl).2, hx⟩⟩
            have := kk pc adr ws mls H locs hrt ⟨[], by simp⟩ hW hS
            rw [Nat.sub_self, Nat.sub_self] at this
            exact this
end LB
end
