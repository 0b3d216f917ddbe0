section
-- ===== PART A: goes FIRST, ahead of the names: the tables' words, and 'selects' of the private methods out of them =====
/-- a private method of a class that the tables say can be made, by its rows of tables_1 -/
def lw_okq (q : MethodName × Nat) : Prop := (q.1.cls ≠ "java/lang/invoke/MethodHandle" ∧ q.1.cls ≠ "java/lang/invoke/VarHandle") ∧ Cond.instantiable q.1.cls q.2 ∈ tables_1 ∧ Cond.privateMethod q.1 ∈ tables_1 ∧ Cond.instanceMethod q.1 ∈ tables_1
theorem lw_p0 : lw_okq (⟨"FoundVirtues", "textOf", "(I)LFoundVirtues$Entries;"⟩, 13) := ⟨⟨by decide +kernel, by decide +kernel⟩, List.mem_of_getElem? (i := 15) (by decide +kernel), List.mem_of_getElem? (i := 289) (by decide +kernel), List.mem_of_getElem? (i := 290) (by decide +kernel)⟩
theorem lw_p1 : lw_okq (⟨"FoundVirtues$Entries", "takes", "(I)Z"⟩, 7) := ⟨⟨by decide +kernel, by decide +kernel⟩, List.mem_of_getElem? (i := 23) (by decide +kernel), List.mem_of_getElem? (i := 297) (by decide +kernel), List.mem_of_getElem? (i := 298) (by decide +kernel)⟩
theorem lw_p2 : lw_okq (⟨"FoundVirtues$Entries", "takesLetter", "(III)Z"⟩, 7) := ⟨⟨by decide +kernel, by decide +kernel⟩, List.mem_of_getElem? (i := 23) (by decide +kernel), List.mem_of_getElem? (i := 301) (by decide +kernel), List.mem_of_getElem? (i := 302) (by decide +kernel)⟩
theorem lw_p3 : lw_okq (⟨"FoundVirtues$Entries", "takesFigure", "(II)Z"⟩, 7) := ⟨⟨by decide +kernel, by decide +kernel⟩, List.mem_of_getElem? (i := 23) (by decide +kernel), List.mem_of_getElem? (i := 305) (by decide +kernel), List.mem_of_getElem? (i := 306) (by decide +kernel)⟩
theorem lw_p4 : lw_okq (⟨"FoundVirtues$Entries", "countWhole", "()V"⟩, 7) := ⟨⟨by decide +kernel, by decide +kernel⟩, List.mem_of_getElem? (i := 23) (by decide +kernel), List.mem_of_getElem? (i := 309) (by decide +kernel), List.mem_of_getElem? (i := 310) (by decide +kernel)⟩
theorem lw_p5 : lw_okq (⟨"FoundVirtues", "textChanged", "()V"⟩, 13) := ⟨⟨by decide +kernel, by decide +kernel⟩, List.mem_of_getElem? (i := 15) (by decide +kernel), List.mem_of_getElem? (i := 317) (by decide +kernel), List.mem_of_getElem? (i := 318) (by decide +kernel)⟩
theorem lw_p6 : lw_okq (⟨"FoundVirtues", "noVirtue", "(I)Z"⟩, 13) := ⟨⟨by decide +kernel, by decide +kernel⟩, List.mem_of_getElem? (i := 15) (by decide +kernel), List.mem_of_getElem? (i := 346) (by decide +kernel), List.mem_of_getElem? (i := 347) (by decide +kernel)⟩
theorem lw_p7 : lw_okq (⟨"FoundVirtues", "noClaimant", "(I)Z"⟩, 13) := ⟨⟨by decide +kernel, by decide +kernel⟩, List.mem_of_getElem? (i := 15) (by decide +kernel), List.mem_of_getElem? (i := 354) (by decide +kernel), List.mem_of_getElem? (i := 355) (by decide +kernel)⟩
theorem lw_p8 : lw_okq (⟨"FoundVirtues", "found", "(I)I"⟩, 13) := ⟨⟨by decide +kernel, by decide +kernel⟩, List.mem_of_getElem? (i := 15) (by decide +kernel), List.mem_of_getElem? (i := 387) (by decide +kernel), List.mem_of_getElem? (i := 388) (by decide +kernel)⟩
theorem lw_p9 : lw_okq (⟨"FoundVirtues", "toldRun", "()LFoundVirtues$Run;"⟩, 13) := ⟨⟨by decide +kernel, by decide +kernel⟩, List.mem_of_getElem? (i := 15) (by decide +kernel), List.mem_of_getElem? (i := 396) (by decide +kernel), List.mem_of_getElem? (i := 397) (by decide +kernel)⟩
theorem lw_p10 : lw_okq (⟨"FoundVirtues$Office", "isFitting", "(II)Z"⟩, 5) := ⟨⟨by decide +kernel, by decide +kernel⟩, List.mem_of_getElem? (i := 66) (by decide +kernel), List.mem_of_getElem? (i := 411) (by decide +kernel), List.mem_of_getElem? (i := 412) (by decide +kernel)⟩
theorem lw_p11 : lw_okq (⟨"FoundVirtues$Run", "begin", "()V"⟩, 17) := ⟨⟨by decide +kernel, by decide +kernel⟩, List.mem_of_getElem? (i := 135) (by decide +kernel), List.mem_of_getElem? (i := 437) (by decide +kernel), List.mem_of_getElem? (i := 438) (by decide +kernel)⟩
theorem lw_p12 : lw_okq (⟨"FoundVirtues$Run", "bringIn", "(I)V"⟩, 17) := ⟨⟨by decide +kernel, by decide +kernel⟩, List.mem_of_getElem? (i := 135) (by decide +kernel), List.mem_of_getElem? (i := 441) (by decide +kernel), List.mem_of_getElem? (i := 442) (by decide +kernel)⟩
theorem lw_p13 : lw_okq (⟨"FoundVirtues$Run", "serve", "(II)V"⟩, 17) := ⟨⟨by decide +kernel, by decide +kernel⟩, List.mem_of_getElem? (i := 135) (by decide +kernel), List.mem_of_getElem? (i := 445) (by decide +kernel), List.mem_of_getElem? (i := 446) (by decide +kernel)⟩
theorem lw_p14 : lw_okq (⟨"FoundVirtues$Run", "give", "(III)V"⟩, 17) := ⟨⟨by decide +kernel, by decide +kernel⟩, List.mem_of_getElem? (i := 135) (by decide +kernel), List.mem_of_getElem? (i := 453) (by decide +kernel), List.mem_of_getElem? (i := 454) (by decide +kernel)⟩
theorem lw_p15 : lw_okq (⟨"FoundVirtues$Run", "sell", "(I)V"⟩, 17) := ⟨⟨by decide +kernel, by decide +kernel⟩, List.mem_of_getElem? (i := 135) (by decide +kernel), List.mem_of_getElem? (i := 457) (by decide +kernel), List.mem_of_getElem? (i := 458) (by decide +kernel)⟩
def lw_privs_1 : List (MethodName × Nat) := [(⟨"FoundVirtues", "textOf", "(I)LFoundVirtues$Entries;"⟩, 13), (⟨"FoundVirtues$Entries", "takes", "(I)Z"⟩, 7), (⟨"FoundVirtues$Entries", "takesLetter", "(III)Z"⟩, 7), (⟨"FoundVirtues$Entries", "takesFigure", "(II)Z"⟩, 7), (⟨"FoundVirtues$Entries", "countWhole", "()V"⟩, 7), (⟨"FoundVirtues", "textChanged", "()V"⟩, 13), (⟨"FoundVirtues", "noVirtue", "(I)Z"⟩, 13), (⟨"FoundVirtues", "noClaimant", "(I)Z"⟩, 13), (⟨"FoundVirtues", "found", "(I)I"⟩, 13), (⟨"FoundVirtues", "toldRun", "()LFoundVirtues$Run;"⟩, 13), (⟨"FoundVirtues$Office", "isFitting", "(II)Z"⟩, 5), (⟨"FoundVirtues$Run", "begin", "()V"⟩, 17), (⟨"FoundVirtues$Run", "bringIn", "(I)V"⟩, 17), (⟨"FoundVirtues$Run", "serve", "(II)V"⟩, 17), (⟨"FoundVirtues$Run", "give", "(III)V"⟩, 17), (⟨"FoundVirtues$Run", "sell", "(I)V"⟩, 17)]
theorem lw_r1 : ∀ q ∈ lw_privs_1, lw_okq q := List.forall_mem_cons.mpr ⟨lw_p0, List.forall_mem_cons.mpr ⟨lw_p1, List.forall_mem_cons.mpr ⟨lw_p2, List.forall_mem_cons.mpr ⟨lw_p3, List.forall_mem_cons.mpr ⟨lw_p4, List.forall_mem_cons.mpr ⟨lw_p5, List.forall_mem_cons.mpr ⟨lw_p6, List.forall_mem_cons.mpr ⟨lw_p7, List.forall_mem_cons.mpr ⟨lw_p8, List.forall_mem_cons.mpr ⟨lw_p9, List.forall_mem_cons.mpr ⟨lw_p10, List.forall_mem_cons.mpr ⟨lw_p11, List.forall_mem_cons.mpr ⟨lw_p12, List.forall_mem_cons.mpr ⟨lw_p13, List.forall_mem_cons.mpr ⟨lw_p14, List.forall_mem_cons.mpr ⟨lw_p15, fun _ h => absurd h List.not_mem_nil⟩⟩⟩⟩⟩⟩⟩⟩⟩⟩⟩⟩⟩⟩⟩⟩
theorem lw_p16 : lw_okq (⟨"FoundVirtues", "bestRows", "()LFoundVirtues$Rows;"⟩, 13) := ⟨⟨by decide +kernel, by decide +kernel⟩, List.mem_of_getElem? (i := 15) (by decide +kernel), List.mem_of_getElem? (i := 490) (by decide +kernel), List.mem_of_getElem? (i := 491) (by decide +kernel)⟩
theorem lw_p17 : lw_okq (⟨"FoundVirtues$Rows", "withOneMore", "(IIIJ)J"⟩, 3) := ⟨⟨by decide +kernel, by decide +kernel⟩, List.mem_of_getElem? (i := 203) (by decide +kernel), List.mem_of_getElem? (i := 502) (by decide +kernel), List.mem_of_getElem? (i := 503) (by decide +kernel)⟩
theorem lw_p18 : lw_okq (⟨"FoundVirtues$Rows", "firstPaired", "(LFoundVirtues$Entries;I)J"⟩, 3) := ⟨⟨by decide +kernel, by decide +kernel⟩, List.mem_of_getElem? (i := 203) (by decide +kernel), List.mem_of_getElem? (i := 517) (by decide +kernel), List.mem_of_getElem? (i := 518) (by decide +kernel)⟩
theorem lw_p19 : lw_okq (⟨"FoundVirtues$Office", "alikeIn", "(II)I"⟩, 5) := ⟨⟨by decide +kernel, by decide +kernel⟩, List.mem_of_getElem? (i := 66) (by decide +kernel), List.mem_of_getElem? (i := 555) (by decide +kernel), List.mem_of_getElem? (i := 556) (by decide +kernel)⟩
theorem lw_p20 : lw_okq (⟨"FoundVirtues", "guarded", "(II)Z"⟩, 13) := ⟨⟨by decide +kernel, by decide +kernel⟩, List.mem_of_getElem? (i := 15) (by decide +kernel), List.mem_of_getElem? (i := 583) (by decide +kernel), List.mem_of_getElem? (i := 584) (by decide +kernel)⟩
theorem lw_p21 : lw_okq (⟨"FoundVirtues", "shelfPlace", "(II)I"⟩, 13) := ⟨⟨by decide +kernel, by decide +kernel⟩, List.mem_of_getElem? (i := 15) (by decide +kernel), List.mem_of_getElem? (i := 591) (by decide +kernel), List.mem_of_getElem? (i := 592) (by decide +kernel)⟩
theorem lw_p22 : lw_okq (⟨"FoundVirtues", "comesOutSo", "(II)Z"⟩, 13) := ⟨⟨by decide +kernel, by decide +kernel⟩, List.mem_of_getElem? (i := 15) (by decide +kernel), List.mem_of_getElem? (i := 621) (by decide +kernel), List.mem_of_getElem? (i := 622) (by decide +kernel)⟩
theorem lw_p23 : lw_okq (⟨"FoundVirtues", "drawLots", "(II)V"⟩, 13) := ⟨⟨by decide +kernel, by decide +kernel⟩, List.mem_of_getElem? (i := 15) (by decide +kernel), List.mem_of_getElem? (i := 639) (by decide +kernel), List.mem_of_getElem? (i := 640) (by decide +kernel)⟩
theorem lw_p24 : lw_okq (⟨"FoundVirtues", "virtueMixed", "(JI)J"⟩, 13) := ⟨⟨by decide +kernel, by decide +kernel⟩, List.mem_of_getElem? (i := 15) (by decide +kernel), List.mem_of_getElem? (i := 714) (by decide +kernel), List.mem_of_getElem? (i := 715) (by decide +kernel)⟩
theorem lw_p25 : lw_okq (⟨"FoundVirtues", "claimantMixed", "(JI)J"⟩, 13) := ⟨⟨by decide +kernel, by decide +kernel⟩, List.mem_of_getElem? (i := 15) (by decide +kernel), List.mem_of_getElem? (i := 726) (by decide +kernel), List.mem_of_getElem? (i := 727) (by decide +kernel)⟩
theorem lw_p26 : lw_okq (⟨"FoundVirtues", "weekMixed", "(JI)J"⟩, 13) := ⟨⟨by decide +kernel, by decide +kernel⟩, List.mem_of_getElem? (i := 15) (by decide +kernel), List.mem_of_getElem? (i := 732) (by decide +kernel), List.mem_of_getElem? (i := 733) (by decide +kernel)⟩
theorem lw_p27 : lw_okq (⟨"FoundVirtues", "wholeMixed", "(J)J"⟩, 13) := ⟨⟨by decide +kernel, by decide +kernel⟩, List.mem_of_getElem? (i := 15) (by decide +kernel), List.mem_of_getElem? (i := 737) (by decide +kernel), List.mem_of_getElem? (i := 738) (by decide +kernel)⟩
theorem lw_p28 : lw_okq (⟨"FoundVirtuesModel", "faultOf", "(I)I"⟩, 37) := ⟨⟨by decide +kernel, by decide +kernel⟩, List.mem_of_getElem? (i := 747) (by decide +kernel), List.mem_of_getElem? (i := 888) (by decide +kernel), List.mem_of_getElem? (i := 889) (by decide +kernel)⟩
theorem lw_p29 : lw_okq (⟨"FoundVirtuesModel", "readsText", "(I)I"⟩, 37) := ⟨⟨by decide +kernel, by decide +kernel⟩, List.mem_of_getElem? (i := 747) (by decide +kernel), List.mem_of_getElem? (i := 892) (by decide +kernel), List.mem_of_getElem? (i := 893) (by decide +kernel)⟩
theorem lw_p30 : lw_okq (⟨"FoundVirtuesModel", "readsOne", "(III)I"⟩, 37) := ⟨⟨by decide +kernel, by decide +kernel⟩, List.mem_of_getElem? (i := 747) (by decide +kernel), List.mem_of_getElem? (i := 896) (by decide +kernel), List.mem_of_getElem? (i := 897) (by decide +kernel)⟩
theorem lw_p31 : lw_okq (⟨"FoundVirtuesModel", "isVirtue", "(I)Z"⟩, 37) := ⟨⟨by decide +kernel, by decide +kernel⟩, List.mem_of_getElem? (i := 747) (by decide +kernel), List.mem_of_getElem? (i := 904) (by decide +kernel), List.mem_of_getElem? (i := 905) (by decide +kernel)⟩
def lw_privs_2 : List (MethodName × Nat) := [(⟨"FoundVirtues", "bestRows", "()LFoundVirtues$Rows;"⟩, 13), (⟨"FoundVirtues$Rows", "withOneMore", "(IIIJ)J"⟩, 3), (⟨"FoundVirtues$Rows", "firstPaired", "(LFoundVirtues$Entries;I)J"⟩, 3), (⟨"FoundVirtues$Office", "alikeIn", "(II)I"⟩, 5), (⟨"FoundVirtues", "guarded", "(II)Z"⟩, 13), (⟨"FoundVirtues", "shelfPlace", "(II)I"⟩, 13), (⟨"FoundVirtues", "comesOutSo", "(II)Z"⟩, 13), (⟨"FoundVirtues", "drawLots", "(II)V"⟩, 13), (⟨"FoundVirtues", "virtueMixed", "(JI)J"⟩, 13), (⟨"FoundVirtues", "claimantMixed", "(JI)J"⟩, 13), (⟨"FoundVirtues", "weekMixed", "(JI)J"⟩, 13), (⟨"FoundVirtues", "wholeMixed", "(J)J"⟩, 13), (⟨"FoundVirtuesModel", "faultOf", "(I)I"⟩, 37), (⟨"FoundVirtuesModel", "readsText", "(I)I"⟩, 37), (⟨"FoundVirtuesModel", "readsOne", "(III)I"⟩, 37), (⟨"FoundVirtuesModel", "isVirtue", "(I)Z"⟩, 37)]
theorem lw_r2 : ∀ q ∈ lw_privs_2, lw_okq q := List.forall_mem_cons.mpr ⟨lw_p16, List.forall_mem_cons.mpr ⟨lw_p17, List.forall_mem_cons.mpr ⟨lw_p18, List.forall_mem_cons.mpr ⟨lw_p19, List.forall_mem_cons.mpr ⟨lw_p20, List.forall_mem_cons.mpr ⟨lw_p21, List.forall_mem_cons.mpr ⟨lw_p22, List.forall_mem_cons.mpr ⟨lw_p23, List.forall_mem_cons.mpr ⟨lw_p24, List.forall_mem_cons.mpr ⟨lw_p25, List.forall_mem_cons.mpr ⟨lw_p26, List.forall_mem_cons.mpr ⟨lw_p27, List.forall_mem_cons.mpr ⟨lw_p28, List.forall_mem_cons.mpr ⟨lw_p29, List.forall_mem_cons.mpr ⟨lw_p30, List.forall_mem_cons.mpr ⟨lw_p31, fun _ h => absurd h List.not_mem_nil⟩⟩⟩⟩⟩⟩⟩⟩⟩⟩⟩⟩⟩⟩⟩⟩
theorem lw_p32 : lw_okq (⟨"FoundVirtuesModel", "reads", "()V"⟩, 37) := ⟨⟨by decide +kernel, by decide +kernel⟩, List.mem_of_getElem? (i := 747) (by decide +kernel), List.mem_of_getElem? (i := 908) (by decide +kernel), List.mem_of_getElem? (i := 909) (by decide +kernel)⟩
theorem lw_p33 : lw_okq (⟨"FoundVirtuesModel", "isClaimant", "(I)Z"⟩, 37) := ⟨⟨by decide +kernel, by decide +kernel⟩, List.mem_of_getElem? (i := 747) (by decide +kernel), List.mem_of_getElem? (i := 916) (by decide +kernel), List.mem_of_getElem? (i := 917) (by decide +kernel)⟩
theorem lw_p34 : lw_okq (⟨"FoundVirtuesModel", "claimantOf", "(II)I"⟩, 37) := ⟨⟨by decide +kernel, by decide +kernel⟩, List.mem_of_getElem? (i := 747) (by decide +kernel), List.mem_of_getElem? (i := 920) (by decide +kernel), List.mem_of_getElem? (i := 921) (by decide +kernel)⟩
theorem lw_p35 : lw_okq (⟨"FoundVirtuesModel", "meets", "(I)I"⟩, 37) := ⟨⟨by decide +kernel, by decide +kernel⟩, List.mem_of_getElem? (i := 747) (by decide +kernel), List.mem_of_getElem? (i := 953) (by decide +kernel), List.mem_of_getElem? (i := 954) (by decide +kernel)⟩
theorem lw_p36 : lw_okq (⟨"FoundVirtuesModel", "behindOf", "(II)I"⟩, 37) := ⟨⟨by decide +kernel, by decide +kernel⟩, List.mem_of_getElem? (i := 747) (by decide +kernel), List.mem_of_getElem? (i := 962) (by decide +kernel), List.mem_of_getElem? (i := 963) (by decide +kernel)⟩
theorem lw_p37 : lw_okq (⟨"FoundVirtuesModel", "runsTo", "(I)V"⟩, 37) := ⟨⟨by decide +kernel, by decide +kernel⟩, List.mem_of_getElem? (i := 747) (by decide +kernel), List.mem_of_getElem? (i := 966) (by decide +kernel), List.mem_of_getElem? (i := 967) (by decide +kernel)⟩
theorem lw_p38 : lw_okq (⟨"FoundVirtuesModel", "runs", "(III)V"⟩, 37) := ⟨⟨by decide +kernel, by decide +kernel⟩, List.mem_of_getElem? (i := 747) (by decide +kernel), List.mem_of_getElem? (i := 970) (by decide +kernel), List.mem_of_getElem? (i := 971) (by decide +kernel)⟩
theorem lw_p39 : lw_okq (⟨"FoundVirtuesModel", "comes", "(II)V"⟩, 37) := ⟨⟨by decide +kernel, by decide +kernel⟩, List.mem_of_getElem? (i := 747) (by decide +kernel), List.mem_of_getElem? (i := 974) (by decide +kernel), List.mem_of_getElem? (i := 975) (by decide +kernel)⟩
theorem lw_p40 : lw_okq (⟨"FoundVirtuesModel", "givenTo", "(I)I"⟩, 37) := ⟨⟨by decide +kernel, by decide +kernel⟩, List.mem_of_getElem? (i := 747) (by decide +kernel), List.mem_of_getElem? (i := 978) (by decide +kernel), List.mem_of_getElem? (i := 979) (by decide +kernel)⟩
theorem lw_p41 : lw_okq (⟨"FoundVirtuesModel", "fits", "(II)Z"⟩, 37) := ⟨⟨by decide +kernel, by decide +kernel⟩, List.mem_of_getElem? (i := 747) (by decide +kernel), List.mem_of_getElem? (i := 982) (by decide +kernel), List.mem_of_getElem? (i := 983) (by decide +kernel)⟩
theorem lw_p42 : lw_okq (⟨"FoundVirtuesModel", "fitsGone", "(I)Z"⟩, 37) := ⟨⟨by decide +kernel, by decide +kernel⟩, List.mem_of_getElem? (i := 747) (by decide +kernel), List.mem_of_getElem? (i := 989) (by decide +kernel), List.mem_of_getElem? (i := 990) (by decide +kernel)⟩
theorem lw_p43 : lw_okq (⟨"FoundVirtuesModel", "bitsNow", "(I)I"⟩, 37) := ⟨⟨by decide +kernel, by decide +kernel⟩, List.mem_of_getElem? (i := 747) (by decide +kernel), List.mem_of_getElem? (i := 993) (by decide +kernel), List.mem_of_getElem? (i := 994) (by decide +kernel)⟩
theorem lw_p44 : lw_okq (⟨"FoundVirtuesModel", "goneOf", "(II)I"⟩, 37) := ⟨⟨by decide +kernel, by decide +kernel⟩, List.mem_of_getElem? (i := 747) (by decide +kernel), List.mem_of_getElem? (i := 1001) (by decide +kernel), List.mem_of_getElem? (i := 1002) (by decide +kernel)⟩
theorem lw_p45 : lw_okq (⟨"FoundVirtuesModel", "emptyNow", "()I"⟩, 37) := ⟨⟨by decide +kernel, by decide +kernel⟩, List.mem_of_getElem? (i := 747) (by decide +kernel), List.mem_of_getElem? (i := 1009) (by decide +kernel), List.mem_of_getElem? (i := 1010) (by decide +kernel)⟩
theorem lw_p46 : lw_okq (⟨"FoundVirtuesModel", "saleNow", "()I"⟩, 37) := ⟨⟨by decide +kernel, by decide +kernel⟩, List.mem_of_getElem? (i := 747) (by decide +kernel), List.mem_of_getElem? (i := 1017) (by decide +kernel), List.mem_of_getElem? (i := 1018) (by decide +kernel)⟩
theorem lw_p47 : lw_okq (⟨"FoundVirtuesModel", "saintOf", "()I"⟩, 37) := ⟨⟨by decide +kernel, by decide +kernel⟩, List.mem_of_getElem? (i := 747) (by decide +kernel), List.mem_of_getElem? (i := 1028) (by decide +kernel), List.mem_of_getElem? (i := 1029) (by decide +kernel)⟩
def lw_privs_3 : List (MethodName × Nat) := [(⟨"FoundVirtuesModel", "reads", "()V"⟩, 37), (⟨"FoundVirtuesModel", "isClaimant", "(I)Z"⟩, 37), (⟨"FoundVirtuesModel", "claimantOf", "(II)I"⟩, 37), (⟨"FoundVirtuesModel", "meets", "(I)I"⟩, 37), (⟨"FoundVirtuesModel", "behindOf", "(II)I"⟩, 37), (⟨"FoundVirtuesModel", "runsTo", "(I)V"⟩, 37), (⟨"FoundVirtuesModel", "runs", "(III)V"⟩, 37), (⟨"FoundVirtuesModel", "comes", "(II)V"⟩, 37), (⟨"FoundVirtuesModel", "givenTo", "(I)I"⟩, 37), (⟨"FoundVirtuesModel", "fits", "(II)Z"⟩, 37), (⟨"FoundVirtuesModel", "fitsGone", "(I)Z"⟩, 37), (⟨"FoundVirtuesModel", "bitsNow", "(I)I"⟩, 37), (⟨"FoundVirtuesModel", "goneOf", "(II)I"⟩, 37), (⟨"FoundVirtuesModel", "emptyNow", "()I"⟩, 37), (⟨"FoundVirtuesModel", "saleNow", "()I"⟩, 37), (⟨"FoundVirtuesModel", "saintOf", "()I"⟩, 37)]
theorem lw_r3 : ∀ q ∈ lw_privs_3, lw_okq q := List.forall_mem_cons.mpr ⟨lw_p32, List.forall_mem_cons.mpr ⟨lw_p33, List.forall_mem_cons.mpr ⟨lw_p34, List.forall_mem_cons.mpr ⟨lw_p35, List.forall_mem_cons.mpr ⟨lw_p36, List.forall_mem_cons.mpr ⟨lw_p37, List.forall_mem_cons.mpr ⟨lw_p38, List.forall_mem_cons.mpr ⟨lw_p39, List.forall_mem_cons.mpr ⟨lw_p40, List.forall_mem_cons.mpr ⟨lw_p41, List.forall_mem_cons.mpr ⟨lw_p42, List.forall_mem_cons.mpr ⟨lw_p43, List.forall_mem_cons.mpr ⟨lw_p44, List.forall_mem_cons.mpr ⟨lw_p45, List.forall_mem_cons.mpr ⟨lw_p46, List.forall_mem_cons.mpr ⟨lw_p47, fun _ h => absurd h List.not_mem_nil⟩⟩⟩⟩⟩⟩⟩⟩⟩⟩⟩⟩⟩⟩⟩⟩
theorem lw_p48 : lw_okq (⟨"FoundVirtuesModel", "fittingOf", "(II)I"⟩, 37) := ⟨⟨by decide +kernel, by decide +kernel⟩, List.mem_of_getElem? (i := 747) (by decide +kernel), List.mem_of_getElem? (i := 1036) (by decide +kernel), List.mem_of_getElem? (i := 1037) (by decide +kernel)⟩
theorem lw_p49 : lw_okq (⟨"FoundVirtuesModel", "matchAt", "(I)I"⟩, 37) := ⟨⟨by decide +kernel, by decide +kernel⟩, List.mem_of_getElem? (i := 747) (by decide +kernel), List.mem_of_getElem? (i := 1044) (by decide +kernel), List.mem_of_getElem? (i := 1045) (by decide +kernel)⟩
theorem lw_p50 : lw_okq (⟨"FoundVirtuesModel", "laysMatch", "()V"⟩, 37) := ⟨⟨by decide +kernel, by decide +kernel⟩, List.mem_of_getElem? (i := 747) (by decide +kernel), List.mem_of_getElem? (i := 1048) (by decide +kernel), List.mem_of_getElem? (i := 1049) (by decide +kernel)⟩
theorem lw_p51 : lw_okq (⟨"FoundVirtuesModel", "askOf", "(I)I"⟩, 37) := ⟨⟨by decide +kernel, by decide +kernel⟩, List.mem_of_getElem? (i := 747) (by decide +kernel), List.mem_of_getElem? (i := 1056) (by decide +kernel), List.mem_of_getElem? (i := 1057) (by decide +kernel)⟩
theorem lw_p52 : lw_okq (⟨"FoundVirtuesModel", "lieOf", "(I)I"⟩, 37) := ⟨⟨by decide +kernel, by decide +kernel⟩, List.mem_of_getElem? (i := 747) (by decide +kernel), List.mem_of_getElem? (i := 1064) (by decide +kernel), List.mem_of_getElem? (i := 1065) (by decide +kernel)⟩
theorem lw_p53 : lw_okq (⟨"FoundVirtuesModel", "guessBy", "(III)I"⟩, 37) := ⟨⟨by decide +kernel, by decide +kernel⟩, List.mem_of_getElem? (i := 747) (by decide +kernel), List.mem_of_getElem? (i := 1072) (by decide +kernel), List.mem_of_getElem? (i := 1073) (by decide +kernel)⟩
theorem lw_p54 : lw_okq (⟨"FoundVirtuesModel", "guardOf", "(I)I"⟩, 37) := ⟨⟨by decide +kernel, by decide +kernel⟩, List.mem_of_getElem? (i := 747) (by decide +kernel), List.mem_of_getElem? (i := 1087) (by decide +kernel), List.mem_of_getElem? (i := 1088) (by decide +kernel)⟩
theorem lw_p55 : lw_okq (⟨"FoundVirtuesModel", "shelvesOf", "(I)I"⟩, 37) := ⟨⟨by decide +kernel, by decide +kernel⟩, List.mem_of_getElem? (i := 747) (by decide +kernel), List.mem_of_getElem? (i := 1095) (by decide +kernel), List.mem_of_getElem? (i := 1096) (by decide +kernel)⟩
theorem lw_p56 : lw_okq (⟨"FoundVirtuesModel", "togetherOf", "(I)I"⟩, 37) := ⟨⟨by decide +kernel, by decide +kernel⟩, List.mem_of_getElem? (i := 747) (by decide +kernel), List.mem_of_getElem? (i := 1103) (by decide +kernel), List.mem_of_getElem? (i := 1104) (by decide +kernel)⟩
theorem lw_p57 : lw_okq (⟨"FoundVirtuesModel", "laysPairs", "()V"⟩, 37) := ⟨⟨by decide +kernel, by decide +kernel⟩, List.mem_of_getElem? (i := 747) (by decide +kernel), List.mem_of_getElem? (i := 1107) (by decide +kernel), List.mem_of_getElem? (i := 1108) (by decide +kernel)⟩
theorem lw_p58 : lw_okq (⟨"FoundVirtuesModel", "arePair", "(II)Z"⟩, 37) := ⟨⟨by decide +kernel, by decide +kernel⟩, List.mem_of_getElem? (i := 747) (by decide +kernel), List.mem_of_getElem? (i := 1111) (by decide +kernel), List.mem_of_getElem? (i := 1112) (by decide +kernel)⟩
theorem lw_p59 : lw_okq (⟨"FoundVirtuesModel", "whenOf", "(I)I"⟩, 37) := ⟨⟨by decide +kernel, by decide +kernel⟩, List.mem_of_getElem? (i := 747) (by decide +kernel), List.mem_of_getElem? (i := 1127) (by decide +kernel), List.mem_of_getElem? (i := 1128) (by decide +kernel)⟩
theorem lw_p60 : lw_okq (⟨"FoundVirtuesModel", "weeksOf", "(III)I"⟩, 37) := ⟨⟨by decide +kernel, by decide +kernel⟩, List.mem_of_getElem? (i := 747) (by decide +kernel), List.mem_of_getElem? (i := 1135) (by decide +kernel), List.mem_of_getElem? (i := 1136) (by decide +kernel)⟩
theorem lw_p61 : lw_okq (⟨"FoundVirtuesModel", "lacks", "(III)I"⟩, 37) := ⟨⟨by decide +kernel, by decide +kernel⟩, List.mem_of_getElem? (i := 747) (by decide +kernel), List.mem_of_getElem? (i := 1152) (by decide +kernel), List.mem_of_getElem? (i := 1153) (by decide +kernel)⟩
theorem lw_p62 : lw_okq (⟨"FoundVirtuesModel", "keep", "(III)V"⟩, 37) := ⟨⟨by decide +kernel, by decide +kernel⟩, List.mem_of_getElem? (i := 747) (by decide +kernel), List.mem_of_getElem? (i := 1156) (by decide +kernel), List.mem_of_getElem? (i := 1157) (by decide +kernel)⟩
theorem lw_p63 : lw_okq (⟨"FoundVirtuesModel", "sumOf", "(I)I"⟩, 37) := ⟨⟨by decide +kernel, by decide +kernel⟩, List.mem_of_getElem? (i := 747) (by decide +kernel), List.mem_of_getElem? (i := 1177) (by decide +kernel), List.mem_of_getElem? (i := 1178) (by decide +kernel)⟩
def lw_privs_4 : List (MethodName × Nat) := [(⟨"FoundVirtuesModel", "fittingOf", "(II)I"⟩, 37), (⟨"FoundVirtuesModel", "matchAt", "(I)I"⟩, 37), (⟨"FoundVirtuesModel", "laysMatch", "()V"⟩, 37), (⟨"FoundVirtuesModel", "askOf", "(I)I"⟩, 37), (⟨"FoundVirtuesModel", "lieOf", "(I)I"⟩, 37), (⟨"FoundVirtuesModel", "guessBy", "(III)I"⟩, 37), (⟨"FoundVirtuesModel", "guardOf", "(I)I"⟩, 37), (⟨"FoundVirtuesModel", "shelvesOf", "(I)I"⟩, 37), (⟨"FoundVirtuesModel", "togetherOf", "(I)I"⟩, 37), (⟨"FoundVirtuesModel", "laysPairs", "()V"⟩, 37), (⟨"FoundVirtuesModel", "arePair", "(II)Z"⟩, 37), (⟨"FoundVirtuesModel", "whenOf", "(I)I"⟩, 37), (⟨"FoundVirtuesModel", "weeksOf", "(III)I"⟩, 37), (⟨"FoundVirtuesModel", "lacks", "(III)I"⟩, 37), (⟨"FoundVirtuesModel", "keep", "(III)V"⟩, 37), (⟨"FoundVirtuesModel", "sumOf", "(I)I"⟩, 37)]
theorem lw_r4 : ∀ q ∈ lw_privs_4, lw_okq q := List.forall_mem_cons.mpr ⟨lw_p48, List.forall_mem_cons.mpr ⟨lw_p49, List.forall_mem_cons.mpr ⟨lw_p50, List.forall_mem_cons.mpr ⟨lw_p51, List.forall_mem_cons.mpr ⟨lw_p52, List.forall_mem_cons.mpr ⟨lw_p53, List.forall_mem_cons.mpr ⟨lw_p54, List.forall_mem_cons.mpr ⟨lw_p55, List.forall_mem_cons.mpr ⟨lw_p56, List.forall_mem_cons.mpr ⟨lw_p57, List.forall_mem_cons.mpr ⟨lw_p58, List.forall_mem_cons.mpr ⟨lw_p59, List.forall_mem_cons.mpr ⟨lw_p60, List.forall_mem_cons.mpr ⟨lw_p61, List.forall_mem_cons.mpr ⟨lw_p62, List.forall_mem_cons.mpr ⟨lw_p63, fun _ h => absurd h List.not_mem_nil⟩⟩⟩⟩⟩⟩⟩⟩⟩⟩⟩⟩⟩⟩⟩⟩
theorem lw_p64 : lw_okq (⟨"FoundVirtuesModel", "virtueDigest", "(JI)J"⟩, 37) := ⟨⟨by decide +kernel, by decide +kernel⟩, List.mem_of_getElem? (i := 747) (by decide +kernel), List.mem_of_getElem? (i := 1188) (by decide +kernel), List.mem_of_getElem? (i := 1189) (by decide +kernel)⟩
theorem lw_p65 : lw_okq (⟨"FoundVirtuesModel", "weekDigest", "(JI)J"⟩, 37) := ⟨⟨by decide +kernel, by decide +kernel⟩, List.mem_of_getElem? (i := 747) (by decide +kernel), List.mem_of_getElem? (i := 1193) (by decide +kernel), List.mem_of_getElem? (i := 1194) (by decide +kernel)⟩
def lw_privs_5 : List (MethodName × Nat) := [(⟨"FoundVirtuesModel", "virtueDigest", "(JI)J"⟩, 37), (⟨"FoundVirtuesModel", "weekDigest", "(JI)J"⟩, 37)]
theorem lw_r5 : ∀ q ∈ lw_privs_5, lw_okq q := List.forall_mem_cons.mpr ⟨lw_p64, List.forall_mem_cons.mpr ⟨lw_p65, fun _ h => absurd h List.not_mem_nil⟩⟩
def lw_privs : List (MethodName × Nat) := lw_privs_1 ++ (lw_privs_2 ++ (lw_privs_3 ++ (lw_privs_4 ++ (lw_privs_5))))
def lw_tbl : List Cond := k2_sels lw_privs ++ tables_1
theorem lw_privs_ok : ∀ q ∈ lw_privs, lw_okq q := by
  show ∀ q ∈ lw_privs_1 ++ (lw_privs_2 ++ (lw_privs_3 ++ (lw_privs_4 ++ (lw_privs_5)))), lw_okq q
  exact List.forall_mem_append.mpr ⟨lw_r1, List.forall_mem_append.mpr ⟨lw_r2, List.forall_mem_append.mpr ⟨lw_r3, List.forall_mem_append.mpr ⟨lw_r4, lw_r5⟩⟩⟩⟩
-- ===== end of PART A; then your names; then what follows =====
end
section
def RX0 : String := "FoundVirtues$Book"
def TX0 : u_T := fun k => match k with
  | 0 => ("FoundVirtues$Book", "week", "[I", true)
  | 1 => ("FoundVirtues$Book", "who", "[I", true)
  | _ => ("FoundVirtues$Book", "size", "I", false)
def tyX0 : Nat → FieldType := fun k => match k with
  | 0 => .array .int
  | 1 => .array .int
  | _ => .int
theorem nmX0 : ∀ a, a < 3 → ∀ b, b < 3 → a ≠ b → (TX0 a).2.1 ≠ (TX0 b).2.1 := by decide +kernel
theorem tyX0_ok : ∀ k, k < 3 → parseFieldDescriptor (TX0 k).2.2.1 = some (tyX0 k) := by decide +kernel
abbrev cX0_init : ByteArray := prog_2_method_1_code
def yX0_init : MethodName := ⟨RX0, "<init>", "()V"⟩
abbrev cX0_add : ByteArray := prog_2_method_2_code
def yX0_add : MethodName := ⟨RX0, "add", "(II)I"⟩
def RX1 : String := "FoundVirtues$Entries"
def TX1 : u_T := fun k => match k with
  | 0 => ("FoundVirtues$Entries", "mayBeVague", "Z", true)
  | 1 => ("FoundVirtues$Entries", "said", "[I", true)
  | 2 => ("FoundVirtues$Entries", "high", "[I", true)
  | 3 => ("FoundVirtues$Entries", "figure", "[I", true)
  | 4 => ("FoundVirtues$Entries", "size", "I", false)
  | 5 => ("FoundVirtues$Entries", "whole", "I", false)
  | _ => ("FoundVirtues$Entries", "wrong", "I", false)
def tyX1 : Nat → FieldType := fun k => match k with
  | 0 => .boolean
  | 1 => .array .int
  | 2 => .array .int
  | 3 => .array .int
  | 4 => .int
  | 5 => .int
  | _ => .int
theorem nmX1 : ∀ a, a < 7 → ∀ b, b < 7 → a ≠ b → (TX1 a).2.1 ≠ (TX1 b).2.1 := by decide +kernel
theorem tyX1_ok : ∀ k, k < 7 → parseFieldDescriptor (TX1 k).2.2.1 = some (tyX1 k) := by decide +kernel
abbrev cX1_init : ByteArray := prog_3_method_1_code
def yX1_init : MethodName := ⟨RX1, "<init>", "(Z)V"⟩
abbrev cX1_add : ByteArray := prog_3_method_2_code
def yX1_add : MethodName := ⟨RX1, "add", "(I)V"⟩
abbrev cX1_dropLast : ByteArray := prog_3_method_3_code
def yX1_dropLast : MethodName := ⟨RX1, "dropLast", "()V"⟩
abbrev cX1_clear : ByteArray := prog_3_method_4_code
def yX1_clear : MethodName := ⟨RX1, "clear", "()V"⟩
abbrev cX1_countWhole : ByteArray := prog_3_method_5_code
def yX1_countWhole : MethodName := ⟨RX1, "countWhole", "()V"⟩
abbrev cX1_faultPlace : ByteArray := prog_3_method_6_code
def yX1_faultPlace : MethodName := ⟨RX1, "faultPlace", "()I"⟩
abbrev cX1_takes : ByteArray := prog_3_method_7_code
def yX1_takes : MethodName := ⟨RX1, "takes", "(I)Z"⟩
abbrev cX1_takesLetter : ByteArray := prog_3_method_8_code
def yX1_takesLetter : MethodName := ⟨RX1, "takesLetter", "(III)Z"⟩
abbrev cX1_takesFigure : ByteArray := prog_3_method_9_code
def yX1_takesFigure : MethodName := ⟨RX1, "takesFigure", "(II)Z"⟩
def RX2 : String := "FoundVirtues$Office"
def TX2 : u_T := fun k => match k with
  | 0 => ("FoundVirtues$Office", "virtues", "LFoundVirtues$Entries;", true)
  | 1 => ("FoundVirtues$Office", "claimants", "LFoundVirtues$Entries;", true)
  | 2 => ("FoundVirtues$Office", "enough", "I", false)
  | 3 => ("FoundVirtues$Office", "secret", "I", false)
  | _ => ("FoundVirtues$Office", "kept", "I", false)
def tyX2 : Nat → FieldType := fun k => match k with
  | 0 => .object "FoundVirtues$Entries"
  | 1 => .object "FoundVirtues$Entries"
  | 2 => .int
  | 3 => .int
  | _ => .int
theorem nmX2 : ∀ a, a < 5 → ∀ b, b < 5 → a ≠ b → (TX2 a).2.1 ≠ (TX2 b).2.1 := by decide +kernel
theorem tyX2_ok : ∀ k, k < 5 → parseFieldDescriptor (TX2 k).2.2.1 = some (tyX2 k) := by decide +kernel
abbrev cX2_init : ByteArray := prog_4_method_1_code
def yX2_init : MethodName := ⟨RX2, "<init>", "(LFoundVirtues$Entries;LFoundVirtues$Entries;)V"⟩
abbrev cX2_isFitting : ByteArray := prog_4_method_2_code
def yX2_isFitting : MethodName := ⟨RX2, "isFitting", "(II)Z"⟩
abbrev cX2_virtuesFittedBy : ByteArray := prog_4_method_3_code
def yX2_virtuesFittedBy : MethodName := ⟨RX2, "virtuesFittedBy", "(I)I"⟩
abbrev cX2_claimantsFitting : ByteArray := prog_4_method_4_code
def yX2_claimantsFitting : MethodName := ⟨RX2, "claimantsFitting", "(I)I"⟩
abbrev cX2_wantedBy : ByteArray := prog_4_method_5_code
def yX2_wantedBy : MethodName := ⟨RX2, "wantedBy", "(I)I"⟩
abbrev cX2_saysEnough : ByteArray := prog_4_method_6_code
def yX2_saysEnough : MethodName := ⟨RX2, "saysEnough", "(I)Z"⟩
abbrev cX2_worthOfAll : ByteArray := prog_4_method_7_code
def yX2_worthOfAll : MethodName := ⟨RX2, "worthOfAll", "()I"⟩
abbrev cX2_leastWorthOf : ByteArray := prog_4_method_8_code
def yX2_leastWorthOf : MethodName := ⟨RX2, "leastWorthOf", "(I)I"⟩
abbrev cX2_highOf : ByteArray := prog_4_method_9_code
def yX2_highOf : MethodName := ⟨RX2, "highOf", "(II)I"⟩
abbrev cX2_alikeIn : ByteArray := prog_4_method_10_code
def yX2_alikeIn : MethodName := ⟨RX2, "alikeIn", "(II)I"⟩
abbrev cX2_alikeInOpen : ByteArray := prog_4_method_11_code
def yX2_alikeInOpen : MethodName := ⟨RX2, "alikeInOpen", "(II)I"⟩
abbrev cX2_onlyOneSuch : ByteArray := prog_4_method_12_code
def yX2_onlyOneSuch : MethodName := ⟨RX2, "onlyOneSuch", "(II)Z"⟩
abbrev cX2_mostOfOneKind : ByteArray := prog_4_method_13_code
def yX2_mostOfOneKind : MethodName := ⟨RX2, "mostOfOneKind", "(I)I"⟩
def RX3 : String := "FoundVirtues$Rows"
def TX3 : u_T := fun k => match k with
  | 0 => ("FoundVirtues$Rows", "best", "[J", true)
  | 1 => ("FoundVirtues$Rows", "matched", "J", false)
  | _ => ("FoundVirtues$Rows", "paired", "J", false)
def tyX3 : Nat → FieldType := fun k => match k with
  | 0 => .array .long
  | 1 => .long
  | _ => .long
theorem nmX3 : ∀ a, a < 3 → ∀ b, b < 3 → a ≠ b → (TX3 a).2.1 ≠ (TX3 b).2.1 := by decide +kernel
theorem tyX3_ok : ∀ k, k < 3 → parseFieldDescriptor (TX3 k).2.2.1 = some (tyX3 k) := by decide +kernel
abbrev cX3_init : ByteArray := prog_5_method_1_code
def yX3_init : MethodName := ⟨RX3, "<init>", "()V"⟩
abbrev cX3_countOf : ByteArray := prog_5_method_2_code
def yX3_countOf : MethodName := ⟨RX3, "countOf", "(J)I"⟩
abbrev cX3_worthOf : ByteArray := prog_5_method_3_code
def yX3_worthOf : MethodName := ⟨RX3, "worthOf", "(J)I"⟩
abbrev cX3_otherOf : ByteArray := prog_5_method_4_code
def yX3_otherOf : MethodName := ⟨RX3, "otherOf", "(JI)I"⟩
abbrev cX3_digit : ByteArray := prog_5_method_5_code
def yX3_digit : MethodName := ⟨RX3, "digit", "(II)J"⟩
abbrev cX3_findMatch : ByteArray := prog_5_method_6_code
def yX3_findMatch : MethodName := ⟨RX3, "findMatch", "(LFoundVirtues$Office;)V"⟩
abbrev cX3_withOneMore : ByteArray := prog_5_method_7_code
def yX3_withOneMore : MethodName := ⟨RX3, "withOneMore", "(IIIJ)J"⟩
abbrev cX3_findPairs : ByteArray := prog_5_method_8_code
def yX3_findPairs : MethodName := ⟨RX3, "findPairs", "(LFoundVirtues$Entries;)V"⟩
abbrev cX3_firstPaired : ByteArray := prog_5_method_9_code
def yX3_firstPaired : MethodName := ⟨RX3, "firstPaired", "(LFoundVirtues$Entries;I)J"⟩
def RX4 : String := "FoundVirtues$Run"
def TX4 : u_T := fun k => match k with
  | 0 => ("FoundVirtues$Run", "office", "LFoundVirtues$Office;", true)
  | 1 => ("FoundVirtues$Run", "handed", "[I", true)
  | 2 => ("FoundVirtues$Run", "queue", "[I", true)
  | 3 => ("FoundVirtues$Run", "queued", "I", false)
  | 4 => ("FoundVirtues$Run", "fitted", "[I", true)
  | 5 => ("FoundVirtues$Run", "allowed", "[I", true)
  | 6 => ("FoundVirtues$Run", "arrived", "[I", true)
  | 7 => ("FoundVirtues$Run", "shelfBehind", "[I", true)
  | 8 => ("FoundVirtues$Run", "givenBehind", "[I", true)
  | 9 => ("FoundVirtues$Run", "soldBehind", "[I", true)
  | 10 => ("FoundVirtues$Run", "taker", "[I", true)
  | 11 => ("FoundVirtues$Run", "goneWeek", "[I", true)
  | 12 => ("FoundVirtues$Run", "shelf", "I", false)
  | 13 => ("FoundVirtues$Run", "given", "I", false)
  | 14 => ("FoundVirtues$Run", "sold", "I", false)
  | 15 => ("FoundVirtues$Run", "served", "J", false)
  | _ => ("FoundVirtues$Run", "saint", "I", false)
def tyX4 : Nat → FieldType := fun k => match k with
  | 0 => .object "FoundVirtues$Office"
  | 1 => .array .int
  | 2 => .array .int
  | 3 => .int
  | 4 => .array .int
  | 5 => .array .int
  | 6 => .array .int
  | 7 => .array .int
  | 8 => .array .int
  | 9 => .array .int
  | 10 => .array .int
  | 11 => .array .int
  | 12 => .int
  | 13 => .int
  | 14 => .int
  | 15 => .long
  | _ => .int
theorem nmX4 : ∀ a, a < 17 → ∀ b, b < 17 → a ≠ b → (TX4 a).2.1 ≠ (TX4 b).2.1 := by decide +kernel
theorem tyX4_ok : ∀ k, k < 17 → parseFieldDescriptor (TX4 k).2.2.1 = some (tyX4 k) := by decide +kernel
abbrev cX4_init : ByteArray := prog_6_method_1_code
def yX4_init : MethodName := ⟨RX4, "<init>", "(LFoundVirtues$Office;)V"⟩
abbrev cX4_load : ByteArray := prog_6_method_2_code
def yX4_load : MethodName := ⟨RX4, "load", "(LFoundVirtues$Book;LFoundVirtues$Book;)V"⟩
abbrev cX4_hand : ByteArray := prog_6_method_3_code
def yX4_hand : MethodName := ⟨RX4, "hand", "(II)V"⟩
abbrev cX4_come : ByteArray := prog_6_method_4_code
def yX4_come : MethodName := ⟨RX4, "come", "(III)V"⟩
abbrev cX4_play : ByteArray := prog_6_method_5_code
def yX4_play : MethodName := ⟨RX4, "play", "(I)V"⟩
abbrev cX4_begin : ByteArray := prog_6_method_6_code
def yX4_begin : MethodName := ⟨RX4, "begin", "()V"⟩
abbrev cX4_bringIn : ByteArray := prog_6_method_7_code
def yX4_bringIn : MethodName := ⟨RX4, "bringIn", "(I)V"⟩
abbrev cX4_serve : ByteArray := prog_6_method_8_code
def yX4_serve : MethodName := ⟨RX4, "serve", "(II)V"⟩
abbrev cX4_give : ByteArray := prog_6_method_9_code
def yX4_give : MethodName := ⟨RX4, "give", "(III)V"⟩
abbrev cX4_sell : ByteArray := prog_6_method_10_code
def yX4_sell : MethodName := ⟨RX4, "sell", "(I)V"⟩
def RX5 : String := "FoundVirtues$Sheet"
def TX5 : u_T := fun k => match k with
  | 0 => ("FoundVirtues$Sheet", "items", "[I", true)
  | 1 => ("FoundVirtues$Sheet", "size", "I", false)
  | _ => ("FoundVirtues$Sheet", "form", "I", false)
def tyX5 : Nat → FieldType := fun k => match k with
  | 0 => .array .int
  | 1 => .int
  | _ => .int
theorem nmX5 : ∀ a, a < 3 → ∀ b, b < 3 → a ≠ b → (TX5 a).2.1 ≠ (TX5 b).2.1 := by decide +kernel
theorem tyX5_ok : ∀ k, k < 3 → parseFieldDescriptor (TX5 k).2.2.1 = some (tyX5 k) := by decide +kernel
abbrev cX5_init : ByteArray := prog_7_method_1_code
def yX5_init : MethodName := ⟨RX5, "<init>", "()V"⟩
abbrev cX5_isLost : ByteArray := prog_7_method_2_code
def yX5_isLost : MethodName := ⟨RX5, "isLost", "()Z"⟩
abbrev cX5_renew : ByteArray := prog_7_method_3_code
def yX5_renew : MethodName := ⟨RX5, "renew", "(II)V"⟩
abbrev cX5_findingAt : ByteArray := prog_7_method_4_code
def yX5_findingAt : MethodName := ⟨RX5, "findingAt", "(II)I"⟩
abbrev cX5_hasRange : ByteArray := prog_7_method_5_code
def yX5_hasRange : MethodName := ⟨RX5, "hasRange", "(II)Z"⟩
abbrev cX5_store : ByteArray := prog_7_method_6_code
def yX5_store : MethodName := ⟨RX5, "store", "(II)V"⟩
def RX6 : String := "FoundVirtues$Sightings"
def TX6 : u_T := fun k => match k with
  | 0 => ("FoundVirtues$Sightings", "week", "[I", true)
  | 1 => ("FoundVirtues$Sightings", "virtue", "[I", true)
  | 2 => ("FoundVirtues$Sightings", "was", "[I", true)
  | _ => ("FoundVirtues$Sightings", "size", "I", false)
def tyX6 : Nat → FieldType := fun k => match k with
  | 0 => .array .int
  | 1 => .array .int
  | 2 => .array .int
  | _ => .int
theorem nmX6 : ∀ a, a < 4 → ∀ b, b < 4 → a ≠ b → (TX6 a).2.1 ≠ (TX6 b).2.1 := by decide +kernel
theorem tyX6_ok : ∀ k, k < 4 → parseFieldDescriptor (TX6 k).2.2.1 = some (tyX6 k) := by decide +kernel
abbrev cX6_init : ByteArray := prog_8_method_1_code
def yX6_init : MethodName := ⟨RX6, "<init>", "()V"⟩
abbrev cX6_add : ByteArray := prog_8_method_2_code
def yX6_add : MethodName := ⟨RX6, "add", "(III)I"⟩
abbrev cX6_lastWeek : ByteArray := prog_8_method_3_code
def yX6_lastWeek : MethodName := ⟨RX6, "lastWeek", "()I"⟩
abbrev cX6_agreeWith : ByteArray := prog_8_method_4_code
def yX6_agreeWith : MethodName := ⟨RX6, "agreeWith", "([I)Z"⟩
def RX7 : String := "FoundVirtues"
def TX7 : u_T := fun k => match k with
  | 0 => ("FoundVirtues", "virtues", "LFoundVirtues$Entries;", true)
  | 1 => ("FoundVirtues", "claimants", "LFoundVirtues$Entries;", true)
  | 2 => ("FoundVirtues", "office", "LFoundVirtues$Office;", true)
  | 3 => ("FoundVirtues", "handings", "LFoundVirtues$Book;", true)
  | 4 => ("FoundVirtues", "claims", "LFoundVirtues$Book;", true)
  | 5 => ("FoundVirtues", "sightings", "LFoundVirtues$Sightings;", true)
  | 6 => ("FoundVirtues", "told", "LFoundVirtues$Run;", true)
  | 7 => ("FoundVirtues", "trial", "LFoundVirtues$Run;", true)
  | 8 => ("FoundVirtues", "rows", "LFoundVirtues$Rows;", true)
  | 9 => ("FoundVirtues", "sheets", "[LFoundVirtues$Sheet;", true)
  | 10 => ("FoundVirtues", "toldStands", "Z", false)
  | 11 => ("FoundVirtues", "rowsStand", "Z", false)
  | _ => ("FoundVirtues", "latestFinding", "I", false)
def tyX7 : Nat → FieldType := fun k => match k with
  | 0 => .object "FoundVirtues$Entries"
  | 1 => .object "FoundVirtues$Entries"
  | 2 => .object "FoundVirtues$Office"
  | 3 => .object "FoundVirtues$Book"
  | 4 => .object "FoundVirtues$Book"
  | 5 => .object "FoundVirtues$Sightings"
  | 6 => .object "FoundVirtues$Run"
  | 7 => .object "FoundVirtues$Run"
  | 8 => .object "FoundVirtues$Rows"
  | 9 => .array (.object "FoundVirtues$Sheet")
  | 10 => .boolean
  | 11 => .boolean
  | _ => .int
theorem nmX7 : ∀ a, a < 13 → ∀ b, b < 13 → a ≠ b → (TX7 a).2.1 ≠ (TX7 b).2.1 := by decide +kernel
theorem tyX7_ok : ∀ k, k < 13 → parseFieldDescriptor (TX7 k).2.2.1 = some (tyX7 k) := by decide +kernel
abbrev cX7_init : ByteArray := prog_1_method_1_code
def yX7_init : MethodName := ⟨RX7, "<init>", "()V"⟩
abbrev cX7_type : ByteArray := prog_1_method_2_code
def yX7_type : MethodName := ⟨RX7, "type", "(II)I"⟩
abbrev cX7_wipe : ByteArray := prog_1_method_3_code
def yX7_wipe : MethodName := ⟨RX7, "wipe", "(I)I"⟩
abbrev cX7_undo : ByteArray := prog_1_method_4_code
def yX7_undo : MethodName := ⟨RX7, "undo", "(I)I"⟩
abbrev cX7_fault : ByteArray := prog_1_method_5_code
def yX7_fault : MethodName := ⟨RX7, "fault", "(I)I"⟩
abbrev cX7_virtue : ByteArray := prog_1_method_6_code
def yX7_virtue : MethodName := ⟨RX7, "virtue", "(II)I"⟩
abbrev cX7_claimant : ByteArray := prog_1_method_7_code
def yX7_claimant : MethodName := ⟨RX7, "claimant", "(II)I"⟩
abbrev cX7_set : ByteArray := prog_1_method_8_code
def yX7_set : MethodName := ⟨RX7, "set", "(II)I"⟩
abbrev cX7_handing : ByteArray := prog_1_method_9_code
def yX7_handing : MethodName := ⟨RX7, "handing", "(II)I"⟩
abbrev cX7_claim : ByteArray := prog_1_method_10_code
def yX7_claim : MethodName := ⟨RX7, "claim", "(II)I"⟩
abbrev cX7_back : ByteArray := prog_1_method_11_code
def yX7_back : MethodName := ⟨RX7, "back", "(I)I"⟩
abbrev cX7_read : ByteArray := prog_1_method_12_code
def yX7_read : MethodName := ⟨RX7, "read", "(I)I"⟩
abbrev cX7_behind : ByteArray := prog_1_method_13_code
def yX7_behind : MethodName := ⟨RX7, "behind", "(II)I"⟩
abbrev cX7_gone : ByteArray := prog_1_method_14_code
def yX7_gone : MethodName := ⟨RX7, "gone", "(II)I"⟩
abbrev cX7_empty : ByteArray := prog_1_method_15_code
def yX7_empty : MethodName := ⟨RX7, "empty", "()I"⟩
abbrev cX7_sale : ByteArray := prog_1_method_16_code
def yX7_sale : MethodName := ⟨RX7, "sale", "()I"⟩
abbrev cX7_saint : ByteArray := prog_1_method_17_code
def yX7_saint : MethodName := ⟨RX7, "saint", "()I"⟩
abbrev cX7_fitting : ByteArray := prog_1_method_18_code
def yX7_fitting : MethodName := ⟨RX7, "fitting", "(II)I"⟩
abbrev cX7_match : ByteArray := prog_1_method_19_code
def yX7_match : MethodName := ⟨RX7, "match", "(I)I"⟩
abbrev cX7_ask : ByteArray := prog_1_method_20_code
def yX7_ask : MethodName := ⟨RX7, "ask", "(I)I"⟩
abbrev cX7_lie : ByteArray := prog_1_method_21_code
def yX7_lie : MethodName := ⟨RX7, "lie", "(I)I"⟩
abbrev cX7_guess : ByteArray := prog_1_method_22_code
def yX7_guess : MethodName := ⟨RX7, "guess", "(II)J"⟩
abbrev cX7_guard : ByteArray := prog_1_method_23_code
def yX7_guard : MethodName := ⟨RX7, "guard", "(I)I"⟩
abbrev cX7_shelves : ByteArray := prog_1_method_24_code
def yX7_shelves : MethodName := ⟨RX7, "shelves", "(I)I"⟩
abbrev cX7_together : ByteArray := prog_1_method_25_code
def yX7_together : MethodName := ⟨RX7, "together", "(I)I"⟩
abbrev cX7_seen : ByteArray := prog_1_method_26_code
def yX7_seen : MethodName := ⟨RX7, "seen", "(III)I"⟩
abbrev cX7_forget : ByteArray := prog_1_method_27_code
def yX7_forget : MethodName := ⟨RX7, "forget", "()I"⟩
abbrev cX7_when : ByteArray := prog_1_method_28_code
def yX7_when : MethodName := ⟨RX7, "when", "(I)I"⟩
abbrev cX7_weeks : ByteArray := prog_1_method_29_code
def yX7_weeks : MethodName := ⟨RX7, "weeks", "(III)I"⟩
abbrev cX7_sheet : ByteArray := prog_1_method_30_code
def yX7_sheet : MethodName := ⟨RX7, "sheet", "(III)I"⟩
abbrev cX7_lose : ByteArray := prog_1_method_31_code
def yX7_lose : MethodName := ⟨RX7, "lose", "(I)I"⟩
abbrev cX7_put : ByteArray := prog_1_method_32_code
def yX7_put : MethodName := ⟨RX7, "put", "(IIII)I"⟩
abbrev cX7_get : ByteArray := prog_1_method_33_code
def yX7_get : MethodName := ⟨RX7, "get", "(III)I"⟩
abbrev cX7_copy : ByteArray := prog_1_method_34_code
def yX7_copy : MethodName := ⟨RX7, "copy", "(IIIII)I"⟩
abbrev cX7_write : ByteArray := prog_1_method_35_code
def yX7_write : MethodName := ⟨RX7, "write", "(I)I"⟩
abbrev cX7_count : ByteArray := prog_1_method_36_code
def yX7_count : MethodName := ⟨RX7, "count", "(I)I"⟩
abbrev cX7_digest : ByteArray := prog_1_method_37_code
def yX7_digest : MethodName := ⟨RX7, "digest", "()J"⟩
abbrev cX7_mixed : ByteArray := prog_1_method_38_code
def yX7_mixed : MethodName := ⟨RX7, "mixed", "(JJ)J"⟩
abbrev cX7_virtueMixed : ByteArray := prog_1_method_39_code
def yX7_virtueMixed : MethodName := ⟨RX7, "virtueMixed", "(JI)J"⟩
abbrev cX7_claimantMixed : ByteArray := prog_1_method_40_code
def yX7_claimantMixed : MethodName := ⟨RX7, "claimantMixed", "(JI)J"⟩
abbrev cX7_weekMixed : ByteArray := prog_1_method_41_code
def yX7_weekMixed : MethodName := ⟨RX7, "weekMixed", "(JI)J"⟩
abbrev cX7_wholeMixed : ByteArray := prog_1_method_42_code
def yX7_wholeMixed : MethodName := ⟨RX7, "wholeMixed", "(J)J"⟩
abbrev cX7_outside : ByteArray := prog_1_method_43_code
def yX7_outside : MethodName := ⟨RX7, "outside", "(II)Z"⟩
abbrev cX7_noVirtue : ByteArray := prog_1_method_44_code
def yX7_noVirtue : MethodName := ⟨RX7, "noVirtue", "(I)Z"⟩
abbrev cX7_noClaimant : ByteArray := prog_1_method_45_code
def yX7_noClaimant : MethodName := ⟨RX7, "noClaimant", "(I)Z"⟩
abbrev cX7_textOf : ByteArray := prog_1_method_46_code
def yX7_textOf : MethodName := ⟨RX7, "textOf", "(I)LFoundVirtues$Entries;"⟩
abbrev cX7_textChanged : ByteArray := prog_1_method_47_code
def yX7_textChanged : MethodName := ⟨RX7, "textChanged", "()V"⟩
abbrev cX7_found : ByteArray := prog_1_method_48_code
def yX7_found : MethodName := ⟨RX7, "found", "(I)I"⟩
abbrev cX7_toldRun : ByteArray := prog_1_method_49_code
def yX7_toldRun : MethodName := ⟨RX7, "toldRun", "()LFoundVirtues$Run;"⟩
abbrev cX7_bestRows : ByteArray := prog_1_method_50_code
def yX7_bestRows : MethodName := ⟨RX7, "bestRows", "()LFoundVirtues$Rows;"⟩
abbrev cX7_greatestDivisor : ByteArray := prog_1_method_51_code
def yX7_greatestDivisor : MethodName := ⟨RX7, "greatestDivisor", "(II)I"⟩
abbrev cX7_guarded : ByteArray := prog_1_method_52_code
def yX7_guarded : MethodName := ⟨RX7, "guarded", "(II)Z"⟩
abbrev cX7_shelfPlace : ByteArray := prog_1_method_53_code
def yX7_shelfPlace : MethodName := ⟨RX7, "shelfPlace", "(II)I"⟩
abbrev cX7_comesOutSo : ByteArray := prog_1_method_54_code
def yX7_comesOutSo : MethodName := ⟨RX7, "comesOutSo", "(II)Z"⟩
abbrev cX7_drawLots : ByteArray := prog_1_method_55_code
def yX7_drawLots : MethodName := ⟨RX7, "drawLots", "(II)V"⟩
abbrev cX7_nextSeed : ByteArray := prog_1_method_56_code
def yX7_nextSeed : MethodName := ⟨RX7, "nextSeed", "(I)I"⟩
def RX8 : String := "FoundVirtuesModel"
def TX8 : u_T := fun k => match k with
  | 0 => ("FoundVirtuesModel", "typed", "[I", true)
  | 1 => ("FoundVirtuesModel", "texts", "[I", true)
  | 2 => ("FoundVirtuesModel", "virtues", "I", false)
  | 3 => ("FoundVirtuesModel", "marks", "[I", true)
  | 4 => ("FoundVirtuesModel", "worths", "[I", true)
  | 5 => ("FoundVirtuesModel", "claimants", "I", false)
  | 6 => ("FoundVirtuesModel", "says", "[I", true)
  | 7 => ("FoundVirtuesModel", "saysHigh", "[I", true)
  | 8 => ("FoundVirtuesModel", "riches", "[I", true)
  | 9 => ("FoundVirtuesModel", "enough", "I", false)
  | 10 => ("FoundVirtuesModel", "secret", "I", false)
  | 11 => ("FoundVirtuesModel", "kept", "I", false)
  | 12 => ("FoundVirtuesModel", "handings", "I", false)
  | 13 => ("FoundVirtuesModel", "handWeek", "[I", true)
  | 14 => ("FoundVirtuesModel", "handVirtue", "[I", true)
  | 15 => ("FoundVirtuesModel", "claims", "I", false)
  | 16 => ("FoundVirtuesModel", "claimWeek", "[I", true)
  | 17 => ("FoundVirtuesModel", "claimOf", "[I", true)
  | 18 => ("FoundVirtuesModel", "cameIn", "[I", true)
  | 19 => ("FoundVirtuesModel", "goneIn", "[I", true)
  | 20 => ("FoundVirtuesModel", "goneTo", "[I", true)
  | 21 => ("FoundVirtuesModel", "emptyBits", "I", false)
  | 22 => ("FoundVirtuesModel", "saintNow", "I", false)
  | 23 => ("FoundVirtuesModel", "matches", "[I", true)
  | 24 => ("FoundVirtuesModel", "matchOf", "[I", true)
  | 25 => ("FoundVirtuesModel", "pairs", "[I", true)
  | 26 => ("FoundVirtuesModel", "pairOf", "[I", true)
  | 27 => ("FoundVirtuesModel", "seens", "I", false)
  | 28 => ("FoundVirtuesModel", "seenWeek", "[I", true)
  | 29 => ("FoundVirtuesModel", "seenVirtue", "[I", true)
  | 30 => ("FoundVirtuesModel", "seenIs", "[I", true)
  | 31 => ("FoundVirtuesModel", "isThere", "[Z", true)
  | 32 => ("FoundVirtuesModel", "forms", "[I", true)
  | 33 => ("FoundVirtuesModel", "sizes", "[I", true)
  | 34 => ("FoundVirtuesModel", "items", "[I", true)
  | 35 => ("FoundVirtuesModel", "moved", "[I", true)
  | _ => ("FoundVirtuesModel", "finding", "I", false)
def tyX8 : Nat → FieldType := fun k => match k with
  | 0 => .array .int
  | 1 => .array .int
  | 2 => .int
  | 3 => .array .int
  | 4 => .array .int
  | 5 => .int
  | 6 => .array .int
  | 7 => .array .int
  | 8 => .array .int
  | 9 => .int
  | 10 => .int
  | 11 => .int
  | 12 => .int
  | 13 => .array .int
  | 14 => .array .int
  | 15 => .int
  | 16 => .array .int
  | 17 => .array .int
  | 18 => .array .int
  | 19 => .array .int
  | 20 => .array .int
  | 21 => .int
  | 22 => .int
  | 23 => .array .int
  | 24 => .array .int
  | 25 => .array .int
  | 26 => .array .int
  | 27 => .int
  | 28 => .array .int
  | 29 => .array .int
  | 30 => .array .int
  | 31 => .array .boolean
  | 32 => .array .int
  | 33 => .array .int
  | 34 => .array .int
  | 35 => .array .int
  | _ => .int
theorem nmX8 : ∀ a, a < 37 → ∀ b, b < 37 → a ≠ b → (TX8 a).2.1 ≠ (TX8 b).2.1 := by decide +kernel
theorem tyX8_ok : ∀ k, k < 37 → parseFieldDescriptor (TX8 k).2.2.1 = some (tyX8 k) := by decide +kernel
abbrev cX8_init : ByteArray := prog_10_method_1_code
def yX8_init : MethodName := ⟨RX8, "<init>", "()V"⟩
abbrev cX8_in : ByteArray := prog_10_method_3_code
def yX8_in : MethodName := ⟨RX8, "in", "(III)Z"⟩
abbrev cX8_isIn : ByteArray := prog_10_method_4_code
def yX8_isIn : MethodName := ⟨RX8, "isIn", "(II)Z"⟩
abbrev cX8_ones : ByteArray := prog_10_method_5_code
def yX8_ones : MethodName := ⟨RX8, "ones", "(I)I"⟩
abbrev cX8_no : ByteArray := prog_10_method_6_code
def yX8_no : MethodName := ⟨RX8, "no", "(I)J"⟩
abbrev cX8_lowest : ByteArray := prog_10_method_7_code
def yX8_lowest : MethodName := ⟨RX8, "lowest", "(JJI)J"⟩
abbrev cX8_isText : ByteArray := prog_10_method_8_code
def yX8_isText : MethodName := ⟨RX8, "isText", "(I)Z"⟩
abbrev cX8_isEight : ByteArray := prog_10_method_9_code
def yX8_isEight : MethodName := ⟨RX8, "isEight", "(I)Z"⟩
abbrev cX8_isWeek : ByteArray := prog_10_method_10_code
def yX8_isWeek : MethodName := ⟨RX8, "isWeek", "(I)Z"⟩
abbrev cX8_type : ByteArray := prog_10_method_11_code
def yX8_type : MethodName := ⟨RX8, "type", "(II)I"⟩
abbrev cX8_wipe : ByteArray := prog_10_method_12_code
def yX8_wipe : MethodName := ⟨RX8, "wipe", "(I)I"⟩
abbrev cX8_undo : ByteArray := prog_10_method_13_code
def yX8_undo : MethodName := ⟨RX8, "undo", "(I)I"⟩
abbrev cX8_readsOne : ByteArray := prog_10_method_14_code
def yX8_readsOne : MethodName := ⟨RX8, "readsOne", "(III)I"⟩
abbrev cX8_readsText : ByteArray := prog_10_method_15_code
def yX8_readsText : MethodName := ⟨RX8, "readsText", "(I)I"⟩
abbrev cX8_faultOf : ByteArray := prog_10_method_16_code
def yX8_faultOf : MethodName := ⟨RX8, "faultOf", "(I)I"⟩
abbrev cX8_reads : ByteArray := prog_10_method_17_code
def yX8_reads : MethodName := ⟨RX8, "reads", "()V"⟩
abbrev cX8_fault : ByteArray := prog_10_method_18_code
def yX8_fault : MethodName := ⟨RX8, "fault", "(I)I"⟩
abbrev cX8_isVirtue : ByteArray := prog_10_method_19_code
def yX8_isVirtue : MethodName := ⟨RX8, "isVirtue", "(I)Z"⟩
abbrev cX8_isClaimant : ByteArray := prog_10_method_20_code
def yX8_isClaimant : MethodName := ⟨RX8, "isClaimant", "(I)Z"⟩
abbrev cX8_virtue : ByteArray := prog_10_method_21_code
def yX8_virtue : MethodName := ⟨RX8, "virtue", "(II)I"⟩
abbrev cX8_claimantOf : ByteArray := prog_10_method_22_code
def yX8_claimantOf : MethodName := ⟨RX8, "claimantOf", "(II)I"⟩
abbrev cX8_claimant : ByteArray := prog_10_method_23_code
def yX8_claimant : MethodName := ⟨RX8, "claimant", "(II)I"⟩
abbrev cX8_set : ByteArray := prog_10_method_24_code
def yX8_set : MethodName := ⟨RX8, "set", "(II)I"⟩
abbrev cX8_handing : ByteArray := prog_10_method_25_code
def yX8_handing : MethodName := ⟨RX8, "handing", "(II)I"⟩
abbrev cX8_claim : ByteArray := prog_10_method_26_code
def yX8_claim : MethodName := ⟨RX8, "claim", "(II)I"⟩
abbrev cX8_back : ByteArray := prog_10_method_27_code
def yX8_back : MethodName := ⟨RX8, "back", "(I)I"⟩
abbrev cX8_read : ByteArray := prog_10_method_28_code
def yX8_read : MethodName := ⟨RX8, "read", "(I)I"⟩
abbrev cX8_fits : ByteArray := prog_10_method_29_code
def yX8_fits : MethodName := ⟨RX8, "fits", "(II)Z"⟩
abbrev cX8_givenTo : ByteArray := prog_10_method_30_code
def yX8_givenTo : MethodName := ⟨RX8, "givenTo", "(I)I"⟩
abbrev cX8_fitsGone : ByteArray := prog_10_method_31_code
def yX8_fitsGone : MethodName := ⟨RX8, "fitsGone", "(I)Z"⟩
abbrev cX8_comes : ByteArray := prog_10_method_32_code
def yX8_comes : MethodName := ⟨RX8, "comes", "(II)V"⟩
abbrev cX8_runs : ByteArray := prog_10_method_33_code
def yX8_runs : MethodName := ⟨RX8, "runs", "(III)V"⟩
abbrev cX8_runsTo : ByteArray := prog_10_method_34_code
def yX8_runsTo : MethodName := ⟨RX8, "runsTo", "(I)V"⟩
abbrev cX8_bitsNow : ByteArray := prog_10_method_35_code
def yX8_bitsNow : MethodName := ⟨RX8, "bitsNow", "(I)I"⟩
abbrev cX8_behindOf : ByteArray := prog_10_method_36_code
def yX8_behindOf : MethodName := ⟨RX8, "behindOf", "(II)I"⟩
abbrev cX8_behind : ByteArray := prog_10_method_37_code
def yX8_behind : MethodName := ⟨RX8, "behind", "(II)I"⟩
abbrev cX8_goneOf : ByteArray := prog_10_method_38_code
def yX8_goneOf : MethodName := ⟨RX8, "goneOf", "(II)I"⟩
abbrev cX8_gone : ByteArray := prog_10_method_39_code
def yX8_gone : MethodName := ⟨RX8, "gone", "(II)I"⟩
abbrev cX8_emptyNow : ByteArray := prog_10_method_40_code
def yX8_emptyNow : MethodName := ⟨RX8, "emptyNow", "()I"⟩
abbrev cX8_empty : ByteArray := prog_10_method_41_code
def yX8_empty : MethodName := ⟨RX8, "empty", "()I"⟩
abbrev cX8_saleNow : ByteArray := prog_10_method_42_code
def yX8_saleNow : MethodName := ⟨RX8, "saleNow", "()I"⟩
abbrev cX8_sale : ByteArray := prog_10_method_43_code
def yX8_sale : MethodName := ⟨RX8, "sale", "()I"⟩
abbrev cX8_saintOf : ByteArray := prog_10_method_44_code
def yX8_saintOf : MethodName := ⟨RX8, "saintOf", "()I"⟩
abbrev cX8_saint : ByteArray := prog_10_method_45_code
def yX8_saint : MethodName := ⟨RX8, "saint", "()I"⟩
abbrev cX8_fittingOf : ByteArray := prog_10_method_46_code
def yX8_fittingOf : MethodName := ⟨RX8, "fittingOf", "(II)I"⟩
abbrev cX8_fitting : ByteArray := prog_10_method_47_code
def yX8_fitting : MethodName := ⟨RX8, "fitting", "(II)I"⟩
abbrev cX8_laysMatch : ByteArray := prog_10_method_48_code
def yX8_laysMatch : MethodName := ⟨RX8, "laysMatch", "()V"⟩
abbrev cX8_matchAt : ByteArray := prog_10_method_49_code
def yX8_matchAt : MethodName := ⟨RX8, "matchAt", "(I)I"⟩
abbrev cX8_match : ByteArray := prog_10_method_50_code
def yX8_match : MethodName := ⟨RX8, "match", "(I)I"⟩
abbrev cX8_askOf : ByteArray := prog_10_method_51_code
def yX8_askOf : MethodName := ⟨RX8, "askOf", "(I)I"⟩
abbrev cX8_ask : ByteArray := prog_10_method_52_code
def yX8_ask : MethodName := ⟨RX8, "ask", "(I)I"⟩
abbrev cX8_lieOf : ByteArray := prog_10_method_53_code
def yX8_lieOf : MethodName := ⟨RX8, "lieOf", "(I)I"⟩
abbrev cX8_lie : ByteArray := prog_10_method_54_code
def yX8_lie : MethodName := ⟨RX8, "lie", "(I)I"⟩
abbrev cX8_guessBy : ByteArray := prog_10_method_55_code
def yX8_guessBy : MethodName := ⟨RX8, "guessBy", "(III)I"⟩
abbrev cX8_guess : ByteArray := prog_10_method_56_code
def yX8_guess : MethodName := ⟨RX8, "guess", "(II)J"⟩
abbrev cX8_guardOf : ByteArray := prog_10_method_57_code
def yX8_guardOf : MethodName := ⟨RX8, "guardOf", "(I)I"⟩
abbrev cX8_guard : ByteArray := prog_10_method_58_code
def yX8_guard : MethodName := ⟨RX8, "guard", "(I)I"⟩
abbrev cX8_shelvesOf : ByteArray := prog_10_method_59_code
def yX8_shelvesOf : MethodName := ⟨RX8, "shelvesOf", "(I)I"⟩
abbrev cX8_shelves : ByteArray := prog_10_method_60_code
def yX8_shelves : MethodName := ⟨RX8, "shelves", "(I)I"⟩
abbrev cX8_arePair : ByteArray := prog_10_method_61_code
def yX8_arePair : MethodName := ⟨RX8, "arePair", "(II)Z"⟩
abbrev cX8_laysPairs : ByteArray := prog_10_method_62_code
def yX8_laysPairs : MethodName := ⟨RX8, "laysPairs", "()V"⟩
abbrev cX8_togetherOf : ByteArray := prog_10_method_63_code
def yX8_togetherOf : MethodName := ⟨RX8, "togetherOf", "(I)I"⟩
abbrev cX8_together : ByteArray := prog_10_method_64_code
def yX8_together : MethodName := ⟨RX8, "together", "(I)I"⟩
abbrev cX8_seen : ByteArray := prog_10_method_65_code
def yX8_seen : MethodName := ⟨RX8, "seen", "(III)I"⟩
abbrev cX8_forget : ByteArray := prog_10_method_66_code
def yX8_forget : MethodName := ⟨RX8, "forget", "()I"⟩
abbrev cX8_whenOf : ByteArray := prog_10_method_67_code
def yX8_whenOf : MethodName := ⟨RX8, "whenOf", "(I)I"⟩
abbrev cX8_when : ByteArray := prog_10_method_68_code
def yX8_when : MethodName := ⟨RX8, "when", "(I)I"⟩
abbrev cX8_weeksOf : ByteArray := prog_10_method_69_code
def yX8_weeksOf : MethodName := ⟨RX8, "weeksOf", "(III)I"⟩
abbrev cX8_weeks : ByteArray := prog_10_method_70_code
def yX8_weeks : MethodName := ⟨RX8, "weeks", "(III)I"⟩
abbrev cX8_meets : ByteArray := prog_10_method_71_code
def yX8_meets : MethodName := ⟨RX8, "meets", "(I)I"⟩
abbrev cX8_isSheet : ByteArray := prog_10_method_72_code
def yX8_isSheet : MethodName := ⟨RX8, "isSheet", "(I)Z"⟩
abbrev cX8_sheet : ByteArray := prog_10_method_73_code
def yX8_sheet : MethodName := ⟨RX8, "sheet", "(III)I"⟩
abbrev cX8_lose : ByteArray := prog_10_method_74_code
def yX8_lose : MethodName := ⟨RX8, "lose", "(I)I"⟩
abbrev cX8_lacks : ByteArray := prog_10_method_75_code
def yX8_lacks : MethodName := ⟨RX8, "lacks", "(III)I"⟩
abbrev cX8_keep : ByteArray := prog_10_method_76_code
def yX8_keep : MethodName := ⟨RX8, "keep", "(III)V"⟩
abbrev cX8_put : ByteArray := prog_10_method_77_code
def yX8_put : MethodName := ⟨RX8, "put", "(IIII)I"⟩
abbrev cX8_get : ByteArray := prog_10_method_78_code
def yX8_get : MethodName := ⟨RX8, "get", "(III)I"⟩
abbrev cX8_copy : ByteArray := prog_10_method_79_code
def yX8_copy : MethodName := ⟨RX8, "copy", "(IIIII)I"⟩
abbrev cX8_write : ByteArray := prog_10_method_80_code
def yX8_write : MethodName := ⟨RX8, "write", "(I)I"⟩
abbrev cX8_sumOf : ByteArray := prog_10_method_81_code
def yX8_sumOf : MethodName := ⟨RX8, "sumOf", "(I)I"⟩
abbrev cX8_count : ByteArray := prog_10_method_82_code
def yX8_count : MethodName := ⟨RX8, "count", "(I)I"⟩
abbrev cX8_virtueDigest : ByteArray := prog_10_method_83_code
def yX8_virtueDigest : MethodName := ⟨RX8, "virtueDigest", "(JI)J"⟩
abbrev cX8_weekDigest : ByteArray := prog_10_method_84_code
def yX8_weekDigest : MethodName := ⟨RX8, "weekDigest", "(JI)J"⟩
abbrev cX8_digest : ByteArray := prog_10_method_85_code
def yX8_digest : MethodName := ⟨RX8, "digest", "()J"⟩
def RJ6 : String := "java/lang/Integer"
def TJ6 : u_T := fun k => match k with
  | _ => ("", "", "", false)
def tyJ6 : Nat → FieldType := fun k => match k with
  | _ => .int
theorem nmJ6 : ∀ a, a < 0 → ∀ b, b < 0 → a ≠ b → (TJ6 a).2.1 ≠ (TJ6 b).2.1 := by decide +kernel
theorem tyJ6_ok : ∀ k, k < 0 → parseFieldDescriptor (TJ6 k).2.2.1 = some (tyJ6 k) := by decide +kernel
abbrev cJ6_numberOfTrailingZeros_0f7a4 : ByteArray := prog_11_method_48_code
def yJ6_numberOfTrailingZeros_0f7a4 : MethodName := ⟨RJ6, "numberOfTrailingZeros", "(I)I"⟩
abbrev cJ6_bitCount_0f7a4 : ByteArray := prog_11_method_49_code
def yJ6_bitCount_0f7a4 : MethodName := ⟨RJ6, "bitCount", "(I)I"⟩
def RJ9 : String := "java/lang/Math"
def TJ9 : u_T := fun k => match k with
  | _ => ("", "", "", false)
def tyJ9 : Nat → FieldType := fun k => match k with
  | _ => .int
theorem nmJ9 : ∀ a, a < 0 → ∀ b, b < 0 → a ≠ b → (TJ9 a).2.1 ≠ (TJ9 b).2.1 := by decide +kernel
theorem tyJ9_ok : ∀ k, k < 0 → parseFieldDescriptor (TJ9 k).2.2.1 = some (tyJ9 k) := by decide +kernel
abbrev cJ9_max_7cf53 : ByteArray := prog_12_method_65_code
def yJ9_max_7cf53 : MethodName := ⟨RJ9, "max", "(II)I"⟩
abbrev cJ9_max_f86c9 : ByteArray := prog_12_method_66_code
def yJ9_max_f86c9 : MethodName := ⟨RJ9, "max", "(JJ)J"⟩
abbrev cJ9_min_7cf53 : ByteArray := prog_12_method_69_code
def yJ9_min_7cf53 : MethodName := ⟨RJ9, "min", "(II)I"⟩
def RJ10 : String := "java/lang/System"
def TJ10 : u_T := fun k => match k with
  | _ => ("", "", "", false)
def tyJ10 : Nat → FieldType := fun k => match k with
  | _ => .int
theorem nmJ10 : ∀ a, a < 0 → ∀ b, b < 0 → a ≠ b → (TJ10 a).2.1 ≠ (TJ10 b).2.1 := by decide +kernel
theorem tyJ10_ok : ∀ k, k < 0 → parseFieldDescriptor (TJ10 k).2.2.1 = some (tyJ10 k) := by decide +kernel
def RJ7 : String := "java/util/Arrays"
def TJ7 : u_T := fun k => match k with
  | _ => ("", "", "", false)
def tyJ7 : Nat → FieldType := fun k => match k with
  | _ => .int
theorem nmJ7 : ∀ a, a < 0 → ∀ b, b < 0 → a ≠ b → (TJ7 a).2.1 ≠ (TJ7 b).2.1 := by decide +kernel
theorem tyJ7_ok : ∀ k, k < 0 → parseFieldDescriptor (TJ7 k).2.2.1 = some (tyJ7 k) := by decide +kernel
abbrev cJ7_fill_d0a16 : ByteArray := prog_14_method_101_code
def yJ7_fill_d0a16 : MethodName := ⟨RJ7, "fill", "([JJ)V"⟩
abbrev cJ7_fill_53178 : ByteArray := prog_14_method_103_code
def yJ7_fill_53178 : MethodName := ⟨RJ7, "fill", "([II)V"⟩
def RL : String := "FoundVirtuesLaw"
abbrev cL_law : ByteArray := code
def yL_law : MethodName := ⟨RL, "law", "([I)Z"⟩
abbrev vwCl : List vw_C := [(RX0, TX0, 3), (RX1, TX1, 7), (RX2, TX2, 5), (RX3, TX3, 3), (RX4, TX4, 17), (RX5, TX5, 3), (RX6, TX6, 4), (RX7, TX7, 13), (RX8, TX8, 37)]
end
section
theorem dX0_init_0 : decode cX0_init 0 = .ok (.aload_n 0, 1) := by decide +kernel
theorem dX0_init_1 : decode cX0_init 1 = .ok (.invokespecial 3, 3) := by decide +kernel
theorem dX0_init_4 : decode cX0_init 4 = .ok (.aload_n 0, 1) := by decide +kernel
theorem dX0_init_5 : decode cX0_init 5 = .ok (.bipush 12, 2) := by decide +kernel
theorem dX0_init_7 : decode cX0_init 7 = .ok (.newarray .int, 2) := by decide +kernel
theorem dX0_init_9 : decode cX0_init 9 = .ok (.putfield 9, 3) := by decide +kernel
theorem dX0_init_12 : decode cX0_init 12 = .ok (.aload_n 0, 1) := by decide +kernel
theorem dX0_init_13 : decode cX0_init 13 = .ok (.bipush 12, 2) := by decide +kernel
theorem dX0_init_15 : decode cX0_init 15 = .ok (.newarray .int, 2) := by decide +kernel
theorem dX0_init_17 : decode cX0_init 17 = .ok (.putfield 15, 3) := by decide +kernel
theorem dX0_init_20 : decode cX0_init 20 = .ok (.return_, 1) := by decide +kernel
theorem dX0_add_0 : decode cX0_add 0 = .ok (.iload_n 1, 1) := by decide +kernel
theorem dX0_add_1 : decode cX0_add 1 = .ok (.bipush 40, 2) := by decide +kernel
theorem dX0_add_3 : decode cX0_add 3 = .ok (.invokestatic 18, 3) := by decide +kernel
theorem dX0_add_6 : decode cX0_add 6 = .ok (.ifCond .ne 12, 3) := by decide +kernel
theorem dX0_add_9 : decode cX0_add 9 = .ok (.iload_n 2, 1) := by decide +kernel
theorem dX0_add_10 : decode cX0_add 10 = .ok (.bipush 8, 2) := by decide +kernel
theorem dX0_add_12 : decode cX0_add 12 = .ok (.invokestatic 18, 3) := by decide +kernel
theorem dX0_add_15 : decode cX0_add 15 = .ok (.ifCond .eq 6, 3) := by decide +kernel
theorem dX0_add_18 : decode cX0_add 18 = .ok (.bipush (-2), 2) := by decide +kernel
theorem dX0_add_20 : decode cX0_add 20 = .ok (.ireturn, 1) := by decide +kernel
theorem dX0_add_21 : decode cX0_add 21 = .ok (.aload_n 0, 1) := by decide +kernel
theorem dX0_add_22 : decode cX0_add 22 = .ok (.getfield 22, 3) := by decide +kernel
theorem dX0_add_25 : decode cX0_add 25 = .ok (.bipush 12, 2) := by decide +kernel
theorem dX0_add_27 : decode cX0_add 27 = .ok (.if_icmp .lt 6, 3) := by decide +kernel
theorem dX0_add_30 : decode cX0_add 30 = .ok (.bipush (-4), 2) := by decide +kernel
theorem dX0_add_32 : decode cX0_add 32 = .ok (.ireturn, 1) := by decide +kernel
theorem dX0_add_33 : decode cX0_add 33 = .ok (.aload_n 0, 1) := by decide +kernel
theorem dX0_add_34 : decode cX0_add 34 = .ok (.getfield 9, 3) := by decide +kernel
theorem dX0_add_37 : decode cX0_add 37 = .ok (.aload_n 0, 1) := by decide +kernel
theorem dX0_add_38 : decode cX0_add 38 = .ok (.getfield 22, 3) := by decide +kernel
theorem dX0_add_41 : decode cX0_add 41 = .ok (.iload_n 1, 1) := by decide +kernel
theorem dX0_add_42 : decode cX0_add 42 = .ok (.iastore, 1) := by decide +kernel
theorem dX0_add_43 : decode cX0_add 43 = .ok (.aload_n 0, 1) := by decide +kernel
theorem dX0_add_44 : decode cX0_add 44 = .ok (.getfield 15, 3) := by decide +kernel
theorem dX0_add_47 : decode cX0_add 47 = .ok (.aload_n 0, 1) := by decide +kernel
theorem dX0_add_48 : decode cX0_add 48 = .ok (.getfield 22, 3) := by decide +kernel
theorem dX0_add_51 : decode cX0_add 51 = .ok (.iload_n 2, 1) := by decide +kernel
theorem dX0_add_52 : decode cX0_add 52 = .ok (.iastore, 1) := by decide +kernel
theorem dX0_add_53 : decode cX0_add 53 = .ok (.aload_n 0, 1) := by decide +kernel
theorem dX0_add_54 : decode cX0_add 54 = .ok (.dup, 1) := by decide +kernel
theorem dX0_add_55 : decode cX0_add 55 = .ok (.getfield 22, 3) := by decide +kernel
theorem dX0_add_58 : decode cX0_add 58 = .ok (.iconst 1, 1) := by decide +kernel
theorem dX0_add_59 : decode cX0_add 59 = .ok (.iadd, 1) := by decide +kernel
theorem dX0_add_60 : decode cX0_add 60 = .ok (.putfield 22, 3) := by decide +kernel
theorem dX0_add_63 : decode cX0_add 63 = .ok (.aload_n 0, 1) := by decide +kernel
theorem dX0_add_64 : decode cX0_add 64 = .ok (.getfield 22, 3) := by decide +kernel
theorem dX0_add_67 : decode cX0_add 67 = .ok (.ireturn, 1) := by decide +kernel
theorem dX1_init_0 : decode cX1_init 0 = .ok (.aload_n 0, 1) := by decide +kernel
theorem dX1_init_1 : decode cX1_init 1 = .ok (.invokespecial 3, 3) := by decide +kernel
theorem dX1_init_4 : decode cX1_init 4 = .ok (.aload_n 0, 1) := by decide +kernel
theorem dX1_init_5 : decode cX1_init 5 = .ok (.bipush 8, 2) := by decide +kernel
theorem dX1_init_7 : decode cX1_init 7 = .ok (.newarray .int, 2) := by decide +kernel
theorem dX1_init_9 : decode cX1_init 9 = .ok (.putfield 9, 3) := by decide +kernel
theorem dX1_init_12 : decode cX1_init 12 = .ok (.aload_n 0, 1) := by decide +kernel
theorem dX1_init_13 : decode cX1_init 13 = .ok (.bipush 8, 2) := by decide +kernel
theorem dX1_init_15 : decode cX1_init 15 = .ok (.newarray .int, 2) := by decide +kernel
theorem dX1_init_17 : decode cX1_init 17 = .ok (.putfield 15, 3) := by decide +kernel
theorem dX1_init_20 : decode cX1_init 20 = .ok (.aload_n 0, 1) := by decide +kernel
theorem dX1_init_21 : decode cX1_init 21 = .ok (.bipush 8, 2) := by decide +kernel
theorem dX1_init_23 : decode cX1_init 23 = .ok (.newarray .int, 2) := by decide +kernel
theorem dX1_init_25 : decode cX1_init 25 = .ok (.putfield 18, 3) := by decide +kernel
theorem dX1_init_28 : decode cX1_init 28 = .ok (.aload_n 0, 1) := by decide +kernel
theorem dX1_init_29 : decode cX1_init 29 = .ok (.iconst (-1), 1) := by decide +kernel
theorem dX1_init_30 : decode cX1_init 30 = .ok (.putfield 21, 3) := by decide +kernel
theorem dX1_init_33 : decode cX1_init 33 = .ok (.aload_n 0, 1) := by decide +kernel
theorem dX1_init_34 : decode cX1_init 34 = .ok (.iload_n 1, 1) := by decide +kernel
theorem dX1_init_35 : decode cX1_init 35 = .ok (.putfield 25, 3) := by decide +kernel
theorem dX1_init_38 : decode cX1_init 38 = .ok (.return_, 1) := by decide +kernel
theorem dX1_add_0 : decode cX1_add 0 = .ok (.aload_n 0, 1) := by decide +kernel
theorem dX1_add_1 : decode cX1_add 1 = .ok (.getfield 21, 3) := by decide +kernel
theorem dX1_add_4 : decode cX1_add 4 = .ok (.iconst (-1), 1) := by decide +kernel
theorem dX1_add_5 : decode cX1_add 5 = .ok (.if_icmp .ne 19, 3) := by decide +kernel
theorem dX1_add_8 : decode cX1_add 8 = .ok (.aload_n 0, 1) := by decide +kernel
theorem dX1_add_9 : decode cX1_add 9 = .ok (.iload_n 1, 1) := by decide +kernel
theorem dX1_add_10 : decode cX1_add 10 = .ok (.invokevirtual 29, 3) := by decide +kernel
theorem dX1_add_13 : decode cX1_add 13 = .ok (.ifCond .ne 11, 3) := by decide +kernel
theorem dX1_add_16 : decode cX1_add 16 = .ok (.aload_n 0, 1) := by decide +kernel
theorem dX1_add_17 : decode cX1_add 17 = .ok (.aload_n 0, 1) := by decide +kernel
theorem dX1_add_18 : decode cX1_add 18 = .ok (.getfield 33, 3) := by decide +kernel
theorem dX1_add_21 : decode cX1_add 21 = .ok (.putfield 21, 3) := by decide +kernel
theorem dX1_add_24 : decode cX1_add 24 = .ok (.aload_n 0, 1) := by decide +kernel
theorem dX1_add_25 : decode cX1_add 25 = .ok (.dup, 1) := by decide +kernel
theorem dX1_add_26 : decode cX1_add 26 = .ok (.getfield 33, 3) := by decide +kernel
theorem dX1_add_29 : decode cX1_add 29 = .ok (.iconst 1, 1) := by decide +kernel
theorem dX1_add_30 : decode cX1_add 30 = .ok (.iadd, 1) := by decide +kernel
theorem dX1_add_31 : decode cX1_add 31 = .ok (.putfield 33, 3) := by decide +kernel
theorem dX1_add_34 : decode cX1_add 34 = .ok (.aload_n 0, 1) := by decide +kernel
theorem dX1_add_35 : decode cX1_add 35 = .ok (.invokevirtual 36, 3) := by decide +kernel
theorem dX1_add_38 : decode cX1_add 38 = .ok (.return_, 1) := by decide +kernel
theorem dX1_dropLast_0 : decode cX1_dropLast 0 = .ok (.aload_n 0, 1) := by decide +kernel
theorem dX1_dropLast_1 : decode cX1_dropLast 1 = .ok (.dup, 1) := by decide +kernel
theorem dX1_dropLast_2 : decode cX1_dropLast 2 = .ok (.getfield 33, 3) := by decide +kernel
theorem dX1_dropLast_5 : decode cX1_dropLast 5 = .ok (.iconst 1, 1) := by decide +kernel
theorem dX1_dropLast_6 : decode cX1_dropLast 6 = .ok (.isub, 1) := by decide +kernel
theorem dX1_dropLast_7 : decode cX1_dropLast 7 = .ok (.putfield 33, 3) := by decide +kernel
theorem dX1_dropLast_10 : decode cX1_dropLast 10 = .ok (.aload_n 0, 1) := by decide +kernel
theorem dX1_dropLast_11 : decode cX1_dropLast 11 = .ok (.getfield 21, 3) := by decide +kernel
theorem dX1_dropLast_14 : decode cX1_dropLast 14 = .ok (.aload_n 0, 1) := by decide +kernel
theorem dX1_dropLast_15 : decode cX1_dropLast 15 = .ok (.getfield 33, 3) := by decide +kernel
theorem dX1_dropLast_18 : decode cX1_dropLast 18 = .ok (.if_icmp .ne 8, 3) := by decide +kernel
theorem dX1_dropLast_21 : decode cX1_dropLast 21 = .ok (.aload_n 0, 1) := by decide +kernel
theorem dX1_dropLast_22 : decode cX1_dropLast 22 = .ok (.iconst (-1), 1) := by decide +kernel
theorem dX1_dropLast_23 : decode cX1_dropLast 23 = .ok (.putfield 21, 3) := by decide +kernel
theorem dX1_dropLast_26 : decode cX1_dropLast 26 = .ok (.aload_n 0, 1) := by decide +kernel
theorem dX1_dropLast_27 : decode cX1_dropLast 27 = .ok (.invokevirtual 36, 3) := by decide +kernel
theorem dX1_dropLast_30 : decode cX1_dropLast 30 = .ok (.return_, 1) := by decide +kernel
theorem dX1_clear_0 : decode cX1_clear 0 = .ok (.aload_n 0, 1) := by decide +kernel
theorem dX1_clear_1 : decode cX1_clear 1 = .ok (.iconst 0, 1) := by decide +kernel
theorem dX1_clear_2 : decode cX1_clear 2 = .ok (.putfield 33, 3) := by decide +kernel
theorem dX1_clear_5 : decode cX1_clear 5 = .ok (.aload_n 0, 1) := by decide +kernel
theorem dX1_clear_6 : decode cX1_clear 6 = .ok (.iconst (-1), 1) := by decide +kernel
theorem dX1_clear_7 : decode cX1_clear 7 = .ok (.putfield 21, 3) := by decide +kernel
theorem dX1_clear_10 : decode cX1_clear 10 = .ok (.aload_n 0, 1) := by decide +kernel
theorem dX1_clear_11 : decode cX1_clear 11 = .ok (.iconst 0, 1) := by decide +kernel
theorem dX1_clear_12 : decode cX1_clear 12 = .ok (.putfield 39, 3) := by decide +kernel
theorem dX1_clear_15 : decode cX1_clear 15 = .ok (.return_, 1) := by decide +kernel
theorem dX1_countWhole_0 : decode cX1_countWhole 0 = .ok (.aload_n 0, 1) := by decide +kernel
theorem dX1_countWhole_1 : decode cX1_countWhole 1 = .ok (.aload_n 0, 1) := by decide +kernel
theorem dX1_countWhole_2 : decode cX1_countWhole 2 = .ok (.invokevirtual 42, 3) := by decide +kernel
theorem dX1_countWhole_5 : decode cX1_countWhole 5 = .ok (.iconst (-1), 1) := by decide +kernel
theorem dX1_countWhole_6 : decode cX1_countWhole 6 = .ok (.if_icmp .ne 15, 3) := by decide +kernel
theorem dX1_countWhole_9 : decode cX1_countWhole 9 = .ok (.aload_n 0, 1) := by decide +kernel
theorem dX1_countWhole_10 : decode cX1_countWhole 10 = .ok (.getfield 33, 3) := by decide +kernel
theorem dX1_countWhole_13 : decode cX1_countWhole 13 = .ok (.iconst 1, 1) := by decide +kernel
theorem dX1_countWhole_14 : decode cX1_countWhole 14 = .ok (.iadd, 1) := by decide +kernel
theorem dX1_countWhole_15 : decode cX1_countWhole 15 = .ok (.bipush 6, 2) := by decide +kernel
theorem dX1_countWhole_17 : decode cX1_countWhole 17 = .ok (.idiv, 1) := by decide +kernel
theorem dX1_countWhole_18 : decode cX1_countWhole 18 = .ok (.goto 4, 3) := by decide +kernel
theorem dX1_countWhole_21 : decode cX1_countWhole 21 = .ok (.iconst 0, 1) := by decide +kernel
theorem dX1_countWhole_22 : decode cX1_countWhole 22 = .ok (.putfield 39, 3) := by decide +kernel
theorem dX1_countWhole_25 : decode cX1_countWhole 25 = .ok (.return_, 1) := by decide +kernel
theorem dX1_faultPlace_0 : decode cX1_faultPlace 0 = .ok (.aload_n 0, 1) := by decide +kernel
theorem dX1_faultPlace_1 : decode cX1_faultPlace 1 = .ok (.getfield 21, 3) := by decide +kernel
theorem dX1_faultPlace_4 : decode cX1_faultPlace 4 = .ok (.iconst (-1), 1) := by decide +kernel
theorem dX1_faultPlace_5 : decode cX1_faultPlace 5 = .ok (.if_icmp .eq 8, 3) := by decide +kernel
theorem dX1_faultPlace_8 : decode cX1_faultPlace 8 = .ok (.aload_n 0, 1) := by decide +kernel
theorem dX1_faultPlace_9 : decode cX1_faultPlace 9 = .ok (.getfield 21, 3) := by decide +kernel
theorem dX1_faultPlace_12 : decode cX1_faultPlace 12 = .ok (.ireturn, 1) := by decide +kernel
theorem dX1_faultPlace_13 : decode cX1_faultPlace 13 = .ok (.aload_n 0, 1) := by decide +kernel
theorem dX1_faultPlace_14 : decode cX1_faultPlace 14 = .ok (.getfield 33, 3) := by decide +kernel
theorem dX1_faultPlace_17 : decode cX1_faultPlace 17 = .ok (.ifCond .eq 14, 3) := by decide +kernel
theorem dX1_faultPlace_20 : decode cX1_faultPlace 20 = .ok (.aload_n 0, 1) := by decide +kernel
theorem dX1_faultPlace_21 : decode cX1_faultPlace 21 = .ok (.getfield 33, 3) := by decide +kernel
theorem dX1_faultPlace_24 : decode cX1_faultPlace 24 = .ok (.bipush 6, 2) := by decide +kernel
theorem dX1_faultPlace_26 : decode cX1_faultPlace 26 = .ok (.irem, 1) := by decide +kernel
theorem dX1_faultPlace_27 : decode cX1_faultPlace 27 = .ok (.iconst 5, 1) := by decide +kernel
theorem dX1_faultPlace_28 : decode cX1_faultPlace 28 = .ok (.if_icmp .ne 7, 3) := by decide +kernel
theorem dX1_faultPlace_31 : decode cX1_faultPlace 31 = .ok (.iconst (-1), 1) := by decide +kernel
theorem dX1_faultPlace_32 : decode cX1_faultPlace 32 = .ok (.goto 7, 3) := by decide +kernel
theorem dX1_faultPlace_35 : decode cX1_faultPlace 35 = .ok (.aload_n 0, 1) := by decide +kernel
theorem dX1_faultPlace_36 : decode cX1_faultPlace 36 = .ok (.getfield 33, 3) := by decide +kernel
theorem dX1_faultPlace_39 : decode cX1_faultPlace 39 = .ok (.ireturn, 1) := by decide +kernel
theorem dX1_takes_0 : decode cX1_takes 0 = .ok (.aload_n 0, 1) := by decide +kernel
theorem dX1_takes_1 : decode cX1_takes 1 = .ok (.getfield 33, 3) := by decide +kernel
theorem dX1_takes_4 : decode cX1_takes 4 = .ok (.bipush 6, 2) := by decide +kernel
theorem dX1_takes_6 : decode cX1_takes 6 = .ok (.idiv, 1) := by decide +kernel
theorem dX1_takes_7 : decode cX1_takes 7 = .ok (.istore_n 2, 1) := by decide +kernel
theorem dX1_takes_8 : decode cX1_takes 8 = .ok (.aload_n 0, 1) := by decide +kernel
theorem dX1_takes_9 : decode cX1_takes 9 = .ok (.getfield 33, 3) := by decide +kernel
theorem dX1_takes_12 : decode cX1_takes 12 = .ok (.bipush 6, 2) := by decide +kernel
theorem dX1_takes_14 : decode cX1_takes 14 = .ok (.irem, 1) := by decide +kernel
theorem dX1_takes_15 : decode cX1_takes 15 = .ok (.istore_n 3, 1) := by decide +kernel
theorem dX1_takes_16 : decode cX1_takes 16 = .ok (.iload_n 2, 1) := by decide +kernel
theorem dX1_takes_17 : decode cX1_takes 17 = .ok (.bipush 8, 2) := by decide +kernel
theorem dX1_takes_19 : decode cX1_takes 19 = .ok (.if_icmp .lt 5, 3) := by decide +kernel
theorem dX1_takes_22 : decode cX1_takes 22 = .ok (.iconst 0, 1) := by decide +kernel
theorem dX1_takes_23 : decode cX1_takes 23 = .ok (.ireturn, 1) := by decide +kernel
theorem dX1_takes_24 : decode cX1_takes 24 = .ok (.iload_n 3, 1) := by decide +kernel
theorem dX1_takes_25 : decode cX1_takes 25 = .ok (.iconst 4, 1) := by decide +kernel
theorem dX1_takes_26 : decode cX1_takes 26 = .ok (.if_icmp .ge 13, 3) := by decide +kernel
theorem dX1_takes_29 : decode cX1_takes 29 = .ok (.aload_n 0, 1) := by decide +kernel
theorem dX1_takes_30 : decode cX1_takes 30 = .ok (.iload_n 2, 1) := by decide +kernel
theorem dX1_takes_31 : decode cX1_takes 31 = .ok (.iconst 1, 1) := by decide +kernel
theorem dX1_takes_32 : decode cX1_takes 32 = .ok (.iload_n 3, 1) := by decide +kernel
theorem dX1_takes_33 : decode cX1_takes 33 = .ok (.ishl, 1) := by decide +kernel
theorem dX1_takes_34 : decode cX1_takes 34 = .ok (.iload_n 1, 1) := by decide +kernel
theorem dX1_takes_35 : decode cX1_takes 35 = .ok (.invokevirtual 46, 3) := by decide +kernel
theorem dX1_takes_38 : decode cX1_takes 38 = .ok (.ireturn, 1) := by decide +kernel
theorem dX1_takes_39 : decode cX1_takes 39 = .ok (.iload_n 3, 1) := by decide +kernel
theorem dX1_takes_40 : decode cX1_takes 40 = .ok (.iconst 4, 1) := by decide +kernel
theorem dX1_takes_41 : decode cX1_takes 41 = .ok (.if_icmp .ne 12, 3) := by decide +kernel
theorem dX1_takes_44 : decode cX1_takes 44 = .ok (.aload_n 0, 1) := by decide +kernel
theorem dX1_takes_45 : decode cX1_takes 45 = .ok (.iload_n 2, 1) := by decide +kernel
theorem dX1_takes_46 : decode cX1_takes 46 = .ok (.iload_n 1, 1) := by decide +kernel
theorem dX1_takes_47 : decode cX1_takes 47 = .ok (.invokevirtual 50, 3) := by decide +kernel
theorem dX1_takes_50 : decode cX1_takes 50 = .ok (.goto 14, 3) := by decide +kernel
theorem dX1_takes_53 : decode cX1_takes 53 = .ok (.iload_n 1, 1) := by decide +kernel
theorem dX1_takes_54 : decode cX1_takes 54 = .ok (.bipush 59, 2) := by decide +kernel
theorem dX1_takes_56 : decode cX1_takes 56 = .ok (.if_icmp .ne 7, 3) := by decide +kernel
theorem dX1_takes_59 : decode cX1_takes 59 = .ok (.iconst 1, 1) := by decide +kernel
theorem dX1_takes_60 : decode cX1_takes 60 = .ok (.goto 4, 3) := by decide +kernel
theorem dX1_takes_63 : decode cX1_takes 63 = .ok (.iconst 0, 1) := by decide +kernel
theorem dX1_takes_64 : decode cX1_takes 64 = .ok (.ireturn, 1) := by decide +kernel
theorem dX1_takesLetter_0 : decode cX1_takesLetter 0 = .ok (.aload_n 0, 1) := by decide +kernel
theorem dX1_takesLetter_1 : decode cX1_takesLetter 1 = .ok (.getfield 9, 3) := by decide +kernel
theorem dX1_takesLetter_4 : decode cX1_takesLetter 4 = .ok (.iload_n 1, 1) := by decide +kernel
theorem dX1_takesLetter_5 : decode cX1_takesLetter 5 = .ok (.dup2, 1) := by decide +kernel
theorem dX1_takesLetter_6 : decode cX1_takesLetter 6 = .ok (.iaload, 1) := by decide +kernel
theorem dX1_takesLetter_7 : decode cX1_takesLetter 7 = .ok (.iload_n 2, 1) := by decide +kernel
theorem dX1_takesLetter_8 : decode cX1_takesLetter 8 = .ok (.iconst (-1), 1) := by decide +kernel
theorem dX1_takesLetter_9 : decode cX1_takesLetter 9 = .ok (.ixor, 1) := by decide +kernel
theorem dX1_takesLetter_10 : decode cX1_takesLetter 10 = .ok (.iand, 1) := by decide +kernel
theorem dX1_takesLetter_11 : decode cX1_takesLetter 11 = .ok (.iastore, 1) := by decide +kernel
theorem dX1_takesLetter_12 : decode cX1_takesLetter 12 = .ok (.aload_n 0, 1) := by decide +kernel
theorem dX1_takesLetter_13 : decode cX1_takesLetter 13 = .ok (.getfield 15, 3) := by decide +kernel
theorem dX1_takesLetter_16 : decode cX1_takesLetter 16 = .ok (.iload_n 1, 1) := by decide +kernel
theorem dX1_takesLetter_17 : decode cX1_takesLetter 17 = .ok (.dup2, 1) := by decide +kernel
theorem dX1_takesLetter_18 : decode cX1_takesLetter 18 = .ok (.iaload, 1) := by decide +kernel
theorem dX1_takesLetter_19 : decode cX1_takesLetter 19 = .ok (.iload_n 2, 1) := by decide +kernel
theorem dX1_takesLetter_20 : decode cX1_takesLetter 20 = .ok (.iconst (-1), 1) := by decide +kernel
theorem dX1_takesLetter_21 : decode cX1_takesLetter 21 = .ok (.ixor, 1) := by decide +kernel
theorem dX1_takesLetter_22 : decode cX1_takesLetter 22 = .ok (.iand, 1) := by decide +kernel
theorem dX1_takesLetter_23 : decode cX1_takesLetter 23 = .ok (.iastore, 1) := by decide +kernel
theorem dX1_takesLetter_24 : decode cX1_takesLetter 24 = .ok (.iload_n 3, 1) := by decide +kernel
theorem dX1_takesLetter_25 : decode cX1_takesLetter 25 = .ok (.bipush 63, 2) := by decide +kernel
theorem dX1_takesLetter_27 : decode cX1_takesLetter 27 = .ok (.if_icmp .ne 8, 3) := by decide +kernel
theorem dX1_takesLetter_30 : decode cX1_takesLetter 30 = .ok (.aload_n 0, 1) := by decide +kernel
theorem dX1_takesLetter_31 : decode cX1_takesLetter 31 = .ok (.getfield 25, 3) := by decide +kernel
theorem dX1_takesLetter_34 : decode cX1_takesLetter 34 = .ok (.ireturn, 1) := by decide +kernel
theorem dX1_takesLetter_35 : decode cX1_takesLetter 35 = .ok (.aload_n 0, 1) := by decide +kernel
theorem dX1_takesLetter_36 : decode cX1_takesLetter 36 = .ok (.getfield 9, 3) := by decide +kernel
theorem dX1_takesLetter_39 : decode cX1_takesLetter 39 = .ok (.iload_n 1, 1) := by decide +kernel
theorem dX1_takesLetter_40 : decode cX1_takesLetter 40 = .ok (.dup2, 1) := by decide +kernel
theorem dX1_takesLetter_41 : decode cX1_takesLetter 41 = .ok (.iaload, 1) := by decide +kernel
theorem dX1_takesLetter_42 : decode cX1_takesLetter 42 = .ok (.iload_n 2, 1) := by decide +kernel
theorem dX1_takesLetter_43 : decode cX1_takesLetter 43 = .ok (.ior, 1) := by decide +kernel
theorem dX1_takesLetter_44 : decode cX1_takesLetter 44 = .ok (.iastore, 1) := by decide +kernel
theorem dX1_takesLetter_45 : decode cX1_takesLetter 45 = .ok (.iload_n 3, 1) := by decide +kernel
theorem dX1_takesLetter_46 : decode cX1_takesLetter 46 = .ok (.bipush 104, 2) := by decide +kernel
theorem dX1_takesLetter_48 : decode cX1_takesLetter 48 = .ok (.if_icmp .ne 13, 3) := by decide +kernel
theorem dX1_takesLetter_51 : decode cX1_takesLetter 51 = .ok (.aload_n 0, 1) := by decide +kernel
theorem dX1_takesLetter_52 : decode cX1_takesLetter 52 = .ok (.getfield 15, 3) := by decide +kernel
theorem dX1_takesLetter_55 : decode cX1_takesLetter 55 = .ok (.iload_n 1, 1) := by decide +kernel
theorem dX1_takesLetter_56 : decode cX1_takesLetter 56 = .ok (.dup2, 1) := by decide +kernel
theorem dX1_takesLetter_57 : decode cX1_takesLetter 57 = .ok (.iaload, 1) := by decide +kernel
theorem dX1_takesLetter_58 : decode cX1_takesLetter 58 = .ok (.iload_n 2, 1) := by decide +kernel
theorem dX1_takesLetter_59 : decode cX1_takesLetter 59 = .ok (.ior, 1) := by decide +kernel
theorem dX1_takesLetter_60 : decode cX1_takesLetter 60 = .ok (.iastore, 1) := by decide +kernel
theorem dX1_takesLetter_61 : decode cX1_takesLetter 61 = .ok (.iload_n 3, 1) := by decide +kernel
theorem dX1_takesLetter_62 : decode cX1_takesLetter 62 = .ok (.bipush 104, 2) := by decide +kernel
theorem dX1_takesLetter_64 : decode cX1_takesLetter 64 = .ok (.if_icmp .eq 9, 3) := by decide +kernel
theorem dX1_takesLetter_67 : decode cX1_takesLetter 67 = .ok (.iload_n 3, 1) := by decide +kernel
theorem dX1_takesLetter_68 : decode cX1_takesLetter 68 = .ok (.bipush 108, 2) := by decide +kernel
theorem dX1_takesLetter_70 : decode cX1_takesLetter 70 = .ok (.if_icmp .ne 7, 3) := by decide +kernel
theorem dX1_takesLetter_73 : decode cX1_takesLetter 73 = .ok (.iconst 1, 1) := by decide +kernel
theorem dX1_takesLetter_74 : decode cX1_takesLetter 74 = .ok (.goto 4, 3) := by decide +kernel
theorem dX1_takesLetter_77 : decode cX1_takesLetter 77 = .ok (.iconst 0, 1) := by decide +kernel
theorem dX1_takesLetter_78 : decode cX1_takesLetter 78 = .ok (.ireturn, 1) := by decide +kernel
theorem dX1_takesFigure_0 : decode cX1_takesFigure 0 = .ok (.aload_n 0, 1) := by decide +kernel
theorem dX1_takesFigure_1 : decode cX1_takesFigure 1 = .ok (.getfield 18, 3) := by decide +kernel
theorem dX1_takesFigure_4 : decode cX1_takesFigure 4 = .ok (.iload_n 1, 1) := by decide +kernel
theorem dX1_takesFigure_5 : decode cX1_takesFigure 5 = .ok (.iload_n 2, 1) := by decide +kernel
theorem dX1_takesFigure_6 : decode cX1_takesFigure 6 = .ok (.bipush 48, 2) := by decide +kernel
theorem dX1_takesFigure_8 : decode cX1_takesFigure 8 = .ok (.isub, 1) := by decide +kernel
theorem dX1_takesFigure_9 : decode cX1_takesFigure 9 = .ok (.iastore, 1) := by decide +kernel
theorem dX1_takesFigure_10 : decode cX1_takesFigure 10 = .ok (.iload_n 2, 1) := by decide +kernel
theorem dX1_takesFigure_11 : decode cX1_takesFigure 11 = .ok (.bipush 48, 2) := by decide +kernel
theorem dX1_takesFigure_13 : decode cX1_takesFigure 13 = .ok (.if_icmp .lt 13, 3) := by decide +kernel
theorem dX1_takesFigure_16 : decode cX1_takesFigure 16 = .ok (.iload_n 2, 1) := by decide +kernel
theorem dX1_takesFigure_17 : decode cX1_takesFigure 17 = .ok (.bipush 57, 2) := by decide +kernel
theorem dX1_takesFigure_19 : decode cX1_takesFigure 19 = .ok (.if_icmp .gt 7, 3) := by decide +kernel
theorem dX1_takesFigure_22 : decode cX1_takesFigure 22 = .ok (.iconst 1, 1) := by decide +kernel
theorem dX1_takesFigure_23 : decode cX1_takesFigure 23 = .ok (.goto 4, 3) := by decide +kernel
theorem dX1_takesFigure_26 : decode cX1_takesFigure 26 = .ok (.iconst 0, 1) := by decide +kernel
theorem dX1_takesFigure_27 : decode cX1_takesFigure 27 = .ok (.ireturn, 1) := by decide +kernel
theorem dX2_init_0 : decode cX2_init 0 = .ok (.aload_n 0, 1) := by decide +kernel
theorem dX2_init_1 : decode cX2_init 1 = .ok (.invokespecial 3, 3) := by decide +kernel
theorem dX2_init_4 : decode cX2_init 4 = .ok (.aload_n 0, 1) := by decide +kernel
theorem dX2_init_5 : decode cX2_init 5 = .ok (.iconst 2, 1) := by decide +kernel
theorem dX2_init_6 : decode cX2_init 6 = .ok (.putfield 9, 3) := by decide +kernel
theorem dX2_init_9 : decode cX2_init 9 = .ok (.aload_n 0, 1) := by decide +kernel
theorem dX2_init_10 : decode cX2_init 10 = .ok (.iconst 3, 1) := by decide +kernel
theorem dX2_init_11 : decode cX2_init 11 = .ok (.putfield 15, 3) := by decide +kernel
theorem dX2_init_14 : decode cX2_init 14 = .ok (.aload_n 0, 1) := by decide +kernel
theorem dX2_init_15 : decode cX2_init 15 = .ok (.aload_n 1, 1) := by decide +kernel
theorem dX2_init_16 : decode cX2_init 16 = .ok (.putfield 18, 3) := by decide +kernel
theorem dX2_init_19 : decode cX2_init 19 = .ok (.aload_n 0, 1) := by decide +kernel
theorem dX2_init_20 : decode cX2_init 20 = .ok (.aload_n 2, 1) := by decide +kernel
theorem dX2_init_21 : decode cX2_init 21 = .ok (.putfield 22, 3) := by decide +kernel
theorem dX2_init_24 : decode cX2_init 24 = .ok (.return_, 1) := by decide +kernel
theorem dX2_isFitting_0 : decode cX2_isFitting 0 = .ok (.aload_n 0, 1) := by decide +kernel
theorem dX2_isFitting_1 : decode cX2_isFitting 1 = .ok (.getfield 22, 3) := by decide +kernel
theorem dX2_isFitting_4 : decode cX2_isFitting 4 = .ok (.getfield 25, 3) := by decide +kernel
theorem dX2_isFitting_7 : decode cX2_isFitting 7 = .ok (.iload_n 1, 1) := by decide +kernel
theorem dX2_isFitting_8 : decode cX2_isFitting 8 = .ok (.iaload, 1) := by decide +kernel
theorem dX2_isFitting_9 : decode cX2_isFitting 9 = .ok (.aload_n 0, 1) := by decide +kernel
theorem dX2_isFitting_10 : decode cX2_isFitting 10 = .ok (.getfield 18, 3) := by decide +kernel
theorem dX2_isFitting_13 : decode cX2_isFitting 13 = .ok (.getfield 25, 3) := by decide +kernel
theorem dX2_isFitting_16 : decode cX2_isFitting 16 = .ok (.iload_n 2, 1) := by decide +kernel
theorem dX2_isFitting_17 : decode cX2_isFitting 17 = .ok (.iaload, 1) := by decide +kernel
theorem dX2_isFitting_18 : decode cX2_isFitting 18 = .ok (.ixor, 1) := by decide +kernel
theorem dX2_isFitting_19 : decode cX2_isFitting 19 = .ok (.istore_n 3, 1) := by decide +kernel
theorem dX2_isFitting_20 : decode cX2_isFitting 20 = .ok (.iload_n 3, 1) := by decide +kernel
theorem dX2_isFitting_21 : decode cX2_isFitting 21 = .ok (.aload_n 0, 1) := by decide +kernel
theorem dX2_isFitting_22 : decode cX2_isFitting 22 = .ok (.getfield 22, 3) := by decide +kernel
theorem dX2_isFitting_25 : decode cX2_isFitting 25 = .ok (.getfield 31, 3) := by decide +kernel
theorem dX2_isFitting_28 : decode cX2_isFitting 28 = .ok (.iload_n 1, 1) := by decide +kernel
theorem dX2_isFitting_29 : decode cX2_isFitting 29 = .ok (.iaload, 1) := by decide +kernel
theorem dX2_isFitting_30 : decode cX2_isFitting 30 = .ok (.iand, 1) := by decide +kernel
theorem dX2_isFitting_31 : decode cX2_isFitting 31 = .ok (.ifCond .ne 7, 3) := by decide +kernel
theorem dX2_isFitting_34 : decode cX2_isFitting 34 = .ok (.iconst 1, 1) := by decide +kernel
theorem dX2_isFitting_35 : decode cX2_isFitting 35 = .ok (.goto 4, 3) := by decide +kernel
theorem dX2_isFitting_38 : decode cX2_isFitting 38 = .ok (.iconst 0, 1) := by decide +kernel
theorem dX2_isFitting_39 : decode cX2_isFitting 39 = .ok (.ireturn, 1) := by decide +kernel
theorem dX2_virtuesFittedBy_0 : decode cX2_virtuesFittedBy 0 = .ok (.iconst 0, 1) := by decide +kernel
theorem dX2_virtuesFittedBy_1 : decode cX2_virtuesFittedBy 1 = .ok (.istore_n 2, 1) := by decide +kernel
theorem dX2_virtuesFittedBy_2 : decode cX2_virtuesFittedBy 2 = .ok (.iconst 0, 1) := by decide +kernel
theorem dX2_virtuesFittedBy_3 : decode cX2_virtuesFittedBy 3 = .ok (.istore_n 3, 1) := by decide +kernel
theorem dX2_virtuesFittedBy_4 : decode cX2_virtuesFittedBy 4 = .ok (.iload_n 3, 1) := by decide +kernel
theorem dX2_virtuesFittedBy_5 : decode cX2_virtuesFittedBy 5 = .ok (.aload_n 0, 1) := by decide +kernel
theorem dX2_virtuesFittedBy_6 : decode cX2_virtuesFittedBy 6 = .ok (.getfield 18, 3) := by decide +kernel
theorem dX2_virtuesFittedBy_9 : decode cX2_virtuesFittedBy 9 = .ok (.getfield 34, 3) := by decide +kernel
theorem dX2_virtuesFittedBy_12 : decode cX2_virtuesFittedBy 12 = .ok (.if_icmp .ge 24, 3) := by decide +kernel
theorem dX2_virtuesFittedBy_15 : decode cX2_virtuesFittedBy 15 = .ok (.aload_n 0, 1) := by decide +kernel
theorem dX2_virtuesFittedBy_16 : decode cX2_virtuesFittedBy 16 = .ok (.iload_n 1, 1) := by decide +kernel
theorem dX2_virtuesFittedBy_17 : decode cX2_virtuesFittedBy 17 = .ok (.iload_n 3, 1) := by decide +kernel
theorem dX2_virtuesFittedBy_18 : decode cX2_virtuesFittedBy 18 = .ok (.invokevirtual 37, 3) := by decide +kernel
theorem dX2_virtuesFittedBy_21 : decode cX2_virtuesFittedBy 21 = .ok (.ifCond .eq 9, 3) := by decide +kernel
theorem dX2_virtuesFittedBy_24 : decode cX2_virtuesFittedBy 24 = .ok (.iload_n 2, 1) := by decide +kernel
theorem dX2_virtuesFittedBy_25 : decode cX2_virtuesFittedBy 25 = .ok (.iconst 1, 1) := by decide +kernel
theorem dX2_virtuesFittedBy_26 : decode cX2_virtuesFittedBy 26 = .ok (.iload_n 3, 1) := by decide +kernel
theorem dX2_virtuesFittedBy_27 : decode cX2_virtuesFittedBy 27 = .ok (.ishl, 1) := by decide +kernel
theorem dX2_virtuesFittedBy_28 : decode cX2_virtuesFittedBy 28 = .ok (.ior, 1) := by decide +kernel
theorem dX2_virtuesFittedBy_29 : decode cX2_virtuesFittedBy 29 = .ok (.istore_n 2, 1) := by decide +kernel
theorem dX2_virtuesFittedBy_30 : decode cX2_virtuesFittedBy 30 = .ok (.iinc 3 1, 3) := by decide +kernel
theorem dX2_virtuesFittedBy_33 : decode cX2_virtuesFittedBy 33 = .ok (.goto (-29), 3) := by decide +kernel
theorem dX2_virtuesFittedBy_36 : decode cX2_virtuesFittedBy 36 = .ok (.iload_n 2, 1) := by decide +kernel
theorem dX2_virtuesFittedBy_37 : decode cX2_virtuesFittedBy 37 = .ok (.ireturn, 1) := by decide +kernel
theorem dX2_claimantsFitting_0 : decode cX2_claimantsFitting 0 = .ok (.iconst 0, 1) := by decide +kernel
theorem dX2_claimantsFitting_1 : decode cX2_claimantsFitting 1 = .ok (.istore_n 2, 1) := by decide +kernel
theorem dX2_claimantsFitting_2 : decode cX2_claimantsFitting 2 = .ok (.iconst 0, 1) := by decide +kernel
theorem dX2_claimantsFitting_3 : decode cX2_claimantsFitting 3 = .ok (.istore_n 3, 1) := by decide +kernel
theorem dX2_claimantsFitting_4 : decode cX2_claimantsFitting 4 = .ok (.iload_n 3, 1) := by decide +kernel
theorem dX2_claimantsFitting_5 : decode cX2_claimantsFitting 5 = .ok (.aload_n 0, 1) := by decide +kernel
theorem dX2_claimantsFitting_6 : decode cX2_claimantsFitting 6 = .ok (.getfield 22, 3) := by decide +kernel
theorem dX2_claimantsFitting_9 : decode cX2_claimantsFitting 9 = .ok (.getfield 34, 3) := by decide +kernel
theorem dX2_claimantsFitting_12 : decode cX2_claimantsFitting 12 = .ok (.if_icmp .ge 24, 3) := by decide +kernel
theorem dX2_claimantsFitting_15 : decode cX2_claimantsFitting 15 = .ok (.aload_n 0, 1) := by decide +kernel
theorem dX2_claimantsFitting_16 : decode cX2_claimantsFitting 16 = .ok (.iload_n 3, 1) := by decide +kernel
theorem dX2_claimantsFitting_17 : decode cX2_claimantsFitting 17 = .ok (.iload_n 1, 1) := by decide +kernel
theorem dX2_claimantsFitting_18 : decode cX2_claimantsFitting 18 = .ok (.invokevirtual 37, 3) := by decide +kernel
theorem dX2_claimantsFitting_21 : decode cX2_claimantsFitting 21 = .ok (.ifCond .eq 9, 3) := by decide +kernel
theorem dX2_claimantsFitting_24 : decode cX2_claimantsFitting 24 = .ok (.iload_n 2, 1) := by decide +kernel
theorem dX2_claimantsFitting_25 : decode cX2_claimantsFitting 25 = .ok (.iconst 1, 1) := by decide +kernel
theorem dX2_claimantsFitting_26 : decode cX2_claimantsFitting 26 = .ok (.iload_n 3, 1) := by decide +kernel
theorem dX2_claimantsFitting_27 : decode cX2_claimantsFitting 27 = .ok (.ishl, 1) := by decide +kernel
theorem dX2_claimantsFitting_28 : decode cX2_claimantsFitting 28 = .ok (.ior, 1) := by decide +kernel
theorem dX2_claimantsFitting_29 : decode cX2_claimantsFitting 29 = .ok (.istore_n 2, 1) := by decide +kernel
theorem dX2_claimantsFitting_30 : decode cX2_claimantsFitting 30 = .ok (.iinc 3 1, 3) := by decide +kernel
theorem dX2_claimantsFitting_33 : decode cX2_claimantsFitting 33 = .ok (.goto (-29), 3) := by decide +kernel
theorem dX2_claimantsFitting_36 : decode cX2_claimantsFitting 36 = .ok (.iload_n 2, 1) := by decide +kernel
theorem dX2_claimantsFitting_37 : decode cX2_claimantsFitting 37 = .ok (.ireturn, 1) := by decide +kernel
theorem dX2_wantedBy_0 : decode cX2_wantedBy 0 = .ok (.aload_n 0, 1) := by decide +kernel
theorem dX2_wantedBy_1 : decode cX2_wantedBy 1 = .ok (.iload_n 1, 1) := by decide +kernel
theorem dX2_wantedBy_2 : decode cX2_wantedBy 2 = .ok (.invokevirtual 41, 3) := by decide +kernel
theorem dX2_wantedBy_5 : decode cX2_wantedBy 5 = .ok (.invokestatic 45, 3) := by decide +kernel
theorem dX2_wantedBy_8 : decode cX2_wantedBy 8 = .ok (.ireturn, 1) := by decide +kernel
theorem dX2_saysEnough_0 : decode cX2_saysEnough 0 = .ok (.aload_n 0, 1) := by decide +kernel
theorem dX2_saysEnough_1 : decode cX2_saysEnough 1 = .ok (.getfield 22, 3) := by decide +kernel
theorem dX2_saysEnough_4 : decode cX2_saysEnough 4 = .ok (.getfield 31, 3) := by decide +kernel
theorem dX2_saysEnough_7 : decode cX2_saysEnough 7 = .ok (.iload_n 1, 1) := by decide +kernel
theorem dX2_saysEnough_8 : decode cX2_saysEnough 8 = .ok (.iaload, 1) := by decide +kernel
theorem dX2_saysEnough_9 : decode cX2_saysEnough 9 = .ok (.invokestatic 45, 3) := by decide +kernel
theorem dX2_saysEnough_12 : decode cX2_saysEnough 12 = .ok (.aload_n 0, 1) := by decide +kernel
theorem dX2_saysEnough_13 : decode cX2_saysEnough 13 = .ok (.getfield 9, 3) := by decide +kernel
theorem dX2_saysEnough_16 : decode cX2_saysEnough 16 = .ok (.if_icmp .lt 7, 3) := by decide +kernel
theorem dX2_saysEnough_19 : decode cX2_saysEnough 19 = .ok (.iconst 1, 1) := by decide +kernel
theorem dX2_saysEnough_20 : decode cX2_saysEnough 20 = .ok (.goto 4, 3) := by decide +kernel
theorem dX2_saysEnough_23 : decode cX2_saysEnough 23 = .ok (.iconst 0, 1) := by decide +kernel
theorem dX2_saysEnough_24 : decode cX2_saysEnough 24 = .ok (.ireturn, 1) := by decide +kernel
theorem dX2_worthOfAll_0 : decode cX2_worthOfAll 0 = .ok (.iconst 0, 1) := by decide +kernel
theorem dX2_worthOfAll_1 : decode cX2_worthOfAll 1 = .ok (.istore_n 1, 1) := by decide +kernel
theorem dX2_worthOfAll_2 : decode cX2_worthOfAll 2 = .ok (.iconst 0, 1) := by decide +kernel
theorem dX2_worthOfAll_3 : decode cX2_worthOfAll 3 = .ok (.istore_n 2, 1) := by decide +kernel
theorem dX2_worthOfAll_4 : decode cX2_worthOfAll 4 = .ok (.iload_n 2, 1) := by decide +kernel
theorem dX2_worthOfAll_5 : decode cX2_worthOfAll 5 = .ok (.aload_n 0, 1) := by decide +kernel
theorem dX2_worthOfAll_6 : decode cX2_worthOfAll 6 = .ok (.getfield 18, 3) := by decide +kernel
theorem dX2_worthOfAll_9 : decode cX2_worthOfAll 9 = .ok (.getfield 34, 3) := by decide +kernel
theorem dX2_worthOfAll_12 : decode cX2_worthOfAll 12 = .ok (.if_icmp .ge 21, 3) := by decide +kernel
theorem dX2_worthOfAll_15 : decode cX2_worthOfAll 15 = .ok (.iload_n 1, 1) := by decide +kernel
theorem dX2_worthOfAll_16 : decode cX2_worthOfAll 16 = .ok (.aload_n 0, 1) := by decide +kernel
theorem dX2_worthOfAll_17 : decode cX2_worthOfAll 17 = .ok (.getfield 18, 3) := by decide +kernel
theorem dX2_worthOfAll_20 : decode cX2_worthOfAll 20 = .ok (.getfield 50, 3) := by decide +kernel
theorem dX2_worthOfAll_23 : decode cX2_worthOfAll 23 = .ok (.iload_n 2, 1) := by decide +kernel
theorem dX2_worthOfAll_24 : decode cX2_worthOfAll 24 = .ok (.iaload, 1) := by decide +kernel
theorem dX2_worthOfAll_25 : decode cX2_worthOfAll 25 = .ok (.iadd, 1) := by decide +kernel
theorem dX2_worthOfAll_26 : decode cX2_worthOfAll 26 = .ok (.istore_n 1, 1) := by decide +kernel
theorem dX2_worthOfAll_27 : decode cX2_worthOfAll 27 = .ok (.iinc 2 1, 3) := by decide +kernel
theorem dX2_worthOfAll_30 : decode cX2_worthOfAll 30 = .ok (.goto (-26), 3) := by decide +kernel
theorem dX2_worthOfAll_33 : decode cX2_worthOfAll 33 = .ok (.iload_n 1, 1) := by decide +kernel
theorem dX2_worthOfAll_34 : decode cX2_worthOfAll 34 = .ok (.ireturn, 1) := by decide +kernel
theorem dX2_leastWorthOf_0 : decode cX2_leastWorthOf 0 = .ok (.iconst (-1), 1) := by decide +kernel
theorem dX2_leastWorthOf_1 : decode cX2_leastWorthOf 1 = .ok (.istore_n 2, 1) := by decide +kernel
theorem dX2_leastWorthOf_2 : decode cX2_leastWorthOf 2 = .ok (.iconst 0, 1) := by decide +kernel
theorem dX2_leastWorthOf_3 : decode cX2_leastWorthOf 3 = .ok (.istore_n 3, 1) := by decide +kernel
theorem dX2_leastWorthOf_4 : decode cX2_leastWorthOf 4 = .ok (.iload_n 3, 1) := by decide +kernel
theorem dX2_leastWorthOf_5 : decode cX2_leastWorthOf 5 = .ok (.aload_n 0, 1) := by decide +kernel
theorem dX2_leastWorthOf_6 : decode cX2_leastWorthOf 6 = .ok (.getfield 18, 3) := by decide +kernel
theorem dX2_leastWorthOf_9 : decode cX2_leastWorthOf 9 = .ok (.getfield 34, 3) := by decide +kernel
theorem dX2_leastWorthOf_12 : decode cX2_leastWorthOf 12 = .ok (.if_icmp .ge 58, 3) := by decide +kernel
theorem dX2_leastWorthOf_15 : decode cX2_leastWorthOf 15 = .ok (.iload_n 1, 1) := by decide +kernel
theorem dX2_leastWorthOf_16 : decode cX2_leastWorthOf 16 = .ok (.iload_n 3, 1) := by decide +kernel
theorem dX2_leastWorthOf_17 : decode cX2_leastWorthOf 17 = .ok (.ishr, 1) := by decide +kernel
theorem dX2_leastWorthOf_18 : decode cX2_leastWorthOf 18 = .ok (.iconst 1, 1) := by decide +kernel
theorem dX2_leastWorthOf_19 : decode cX2_leastWorthOf 19 = .ok (.iand, 1) := by decide +kernel
theorem dX2_leastWorthOf_20 : decode cX2_leastWorthOf 20 = .ok (.iconst 1, 1) := by decide +kernel
theorem dX2_leastWorthOf_21 : decode cX2_leastWorthOf 21 = .ok (.if_icmp .ne 7, 3) := by decide +kernel
theorem dX2_leastWorthOf_24 : decode cX2_leastWorthOf 24 = .ok (.iconst 1, 1) := by decide +kernel
theorem dX2_leastWorthOf_25 : decode cX2_leastWorthOf 25 = .ok (.goto 4, 3) := by decide +kernel
theorem dX2_leastWorthOf_28 : decode cX2_leastWorthOf 28 = .ok (.iconst 0, 1) := by decide +kernel
theorem dX2_leastWorthOf_29 : decode cX2_leastWorthOf 29 = .ok (.istore 4, 2) := by decide +kernel
theorem dX2_leastWorthOf_31 : decode cX2_leastWorthOf 31 = .ok (.iload 4, 2) := by decide +kernel
theorem dX2_leastWorthOf_33 : decode cX2_leastWorthOf 33 = .ok (.ifCond .eq 31, 3) := by decide +kernel
theorem dX2_leastWorthOf_36 : decode cX2_leastWorthOf 36 = .ok (.iload_n 2, 1) := by decide +kernel
theorem dX2_leastWorthOf_37 : decode cX2_leastWorthOf 37 = .ok (.iconst (-1), 1) := by decide +kernel
theorem dX2_leastWorthOf_38 : decode cX2_leastWorthOf 38 = .ok (.if_icmp .eq 24, 3) := by decide +kernel
theorem dX2_leastWorthOf_41 : decode cX2_leastWorthOf 41 = .ok (.aload_n 0, 1) := by decide +kernel
theorem dX2_leastWorthOf_42 : decode cX2_leastWorthOf 42 = .ok (.getfield 18, 3) := by decide +kernel
theorem dX2_leastWorthOf_45 : decode cX2_leastWorthOf 45 = .ok (.getfield 50, 3) := by decide +kernel
theorem dX2_leastWorthOf_48 : decode cX2_leastWorthOf 48 = .ok (.iload_n 3, 1) := by decide +kernel
theorem dX2_leastWorthOf_49 : decode cX2_leastWorthOf 49 = .ok (.iaload, 1) := by decide +kernel
theorem dX2_leastWorthOf_50 : decode cX2_leastWorthOf 50 = .ok (.aload_n 0, 1) := by decide +kernel
theorem dX2_leastWorthOf_51 : decode cX2_leastWorthOf 51 = .ok (.getfield 18, 3) := by decide +kernel
theorem dX2_leastWorthOf_54 : decode cX2_leastWorthOf 54 = .ok (.getfield 50, 3) := by decide +kernel
theorem dX2_leastWorthOf_57 : decode cX2_leastWorthOf 57 = .ok (.iload_n 2, 1) := by decide +kernel
theorem dX2_leastWorthOf_58 : decode cX2_leastWorthOf 58 = .ok (.iaload, 1) := by decide +kernel
theorem dX2_leastWorthOf_59 : decode cX2_leastWorthOf 59 = .ok (.if_icmp .ge 5, 3) := by decide +kernel
theorem dX2_leastWorthOf_62 : decode cX2_leastWorthOf 62 = .ok (.iload_n 3, 1) := by decide +kernel
theorem dX2_leastWorthOf_63 : decode cX2_leastWorthOf 63 = .ok (.istore_n 2, 1) := by decide +kernel
theorem dX2_leastWorthOf_64 : decode cX2_leastWorthOf 64 = .ok (.iinc 3 1, 3) := by decide +kernel
theorem dX2_leastWorthOf_67 : decode cX2_leastWorthOf 67 = .ok (.goto (-63), 3) := by decide +kernel
theorem dX2_leastWorthOf_70 : decode cX2_leastWorthOf 70 = .ok (.iload_n 2, 1) := by decide +kernel
theorem dX2_leastWorthOf_71 : decode cX2_leastWorthOf 71 = .ok (.ireturn, 1) := by decide +kernel
theorem dX2_highOf_0 : decode cX2_highOf 0 = .ok (.iconst 0, 1) := by decide +kernel
theorem dX2_highOf_1 : decode cX2_highOf 1 = .ok (.istore_n 3, 1) := by decide +kernel
theorem dX2_highOf_2 : decode cX2_highOf 2 = .ok (.iconst 0, 1) := by decide +kernel
theorem dX2_highOf_3 : decode cX2_highOf 3 = .ok (.istore 4, 2) := by decide +kernel
theorem dX2_highOf_5 : decode cX2_highOf 5 = .ok (.iload 4, 2) := by decide +kernel
theorem dX2_highOf_7 : decode cX2_highOf 7 = .ok (.aload_n 0, 1) := by decide +kernel
theorem dX2_highOf_8 : decode cX2_highOf 8 = .ok (.getfield 18, 3) := by decide +kernel
theorem dX2_highOf_11 : decode cX2_highOf 11 = .ok (.getfield 34, 3) := by decide +kernel
theorem dX2_highOf_14 : decode cX2_highOf 14 = .ok (.if_icmp .ge 31, 3) := by decide +kernel
theorem dX2_highOf_17 : decode cX2_highOf 17 = .ok (.iload_n 3, 1) := by decide +kernel
theorem dX2_highOf_18 : decode cX2_highOf 18 = .ok (.iload_n 1, 1) := by decide +kernel
theorem dX2_highOf_19 : decode cX2_highOf 19 = .ok (.iload 4, 2) := by decide +kernel
theorem dX2_highOf_21 : decode cX2_highOf 21 = .ok (.ishr, 1) := by decide +kernel
theorem dX2_highOf_22 : decode cX2_highOf 22 = .ok (.aload_n 0, 1) := by decide +kernel
theorem dX2_highOf_23 : decode cX2_highOf 23 = .ok (.getfield 18, 3) := by decide +kernel
theorem dX2_highOf_26 : decode cX2_highOf 26 = .ok (.getfield 25, 3) := by decide +kernel
theorem dX2_highOf_29 : decode cX2_highOf 29 = .ok (.iload 4, 2) := by decide +kernel
theorem dX2_highOf_31 : decode cX2_highOf 31 = .ok (.iaload, 1) := by decide +kernel
theorem dX2_highOf_32 : decode cX2_highOf 32 = .ok (.iload_n 2, 1) := by decide +kernel
theorem dX2_highOf_33 : decode cX2_highOf 33 = .ok (.ishr, 1) := by decide +kernel
theorem dX2_highOf_34 : decode cX2_highOf 34 = .ok (.iand, 1) := by decide +kernel
theorem dX2_highOf_35 : decode cX2_highOf 35 = .ok (.iconst 1, 1) := by decide +kernel
theorem dX2_highOf_36 : decode cX2_highOf 36 = .ok (.iand, 1) := by decide +kernel
theorem dX2_highOf_37 : decode cX2_highOf 37 = .ok (.iadd, 1) := by decide +kernel
theorem dX2_highOf_38 : decode cX2_highOf 38 = .ok (.istore_n 3, 1) := by decide +kernel
theorem dX2_highOf_39 : decode cX2_highOf 39 = .ok (.iinc 4 1, 3) := by decide +kernel
theorem dX2_highOf_42 : decode cX2_highOf 42 = .ok (.goto (-37), 3) := by decide +kernel
theorem dX2_highOf_45 : decode cX2_highOf 45 = .ok (.iload_n 3, 1) := by decide +kernel
theorem dX2_highOf_46 : decode cX2_highOf 46 = .ok (.ireturn, 1) := by decide +kernel
theorem dX2_alikeIn_0 : decode cX2_alikeIn 0 = .ok (.iconst 0, 1) := by decide +kernel
theorem dX2_alikeIn_1 : decode cX2_alikeIn 1 = .ok (.istore_n 3, 1) := by decide +kernel
theorem dX2_alikeIn_2 : decode cX2_alikeIn 2 = .ok (.iconst 0, 1) := by decide +kernel
theorem dX2_alikeIn_3 : decode cX2_alikeIn 3 = .ok (.istore 4, 2) := by decide +kernel
theorem dX2_alikeIn_5 : decode cX2_alikeIn 5 = .ok (.iload 4, 2) := by decide +kernel
theorem dX2_alikeIn_7 : decode cX2_alikeIn 7 = .ok (.aload_n 0, 1) := by decide +kernel
theorem dX2_alikeIn_8 : decode cX2_alikeIn 8 = .ok (.getfield 18, 3) := by decide +kernel
theorem dX2_alikeIn_11 : decode cX2_alikeIn 11 = .ok (.getfield 34, 3) := by decide +kernel
theorem dX2_alikeIn_14 : decode cX2_alikeIn 14 = .ok (.if_icmp .ge 41, 3) := by decide +kernel
theorem dX2_alikeIn_17 : decode cX2_alikeIn 17 = .ok (.aload_n 0, 1) := by decide +kernel
theorem dX2_alikeIn_18 : decode cX2_alikeIn 18 = .ok (.getfield 18, 3) := by decide +kernel
theorem dX2_alikeIn_21 : decode cX2_alikeIn 21 = .ok (.getfield 25, 3) := by decide +kernel
theorem dX2_alikeIn_24 : decode cX2_alikeIn 24 = .ok (.iload 4, 2) := by decide +kernel
theorem dX2_alikeIn_26 : decode cX2_alikeIn 26 = .ok (.iaload, 1) := by decide +kernel
theorem dX2_alikeIn_27 : decode cX2_alikeIn 27 = .ok (.aload_n 0, 1) := by decide +kernel
theorem dX2_alikeIn_28 : decode cX2_alikeIn 28 = .ok (.getfield 18, 3) := by decide +kernel
theorem dX2_alikeIn_31 : decode cX2_alikeIn 31 = .ok (.getfield 25, 3) := by decide +kernel
theorem dX2_alikeIn_34 : decode cX2_alikeIn 34 = .ok (.iload_n 1, 1) := by decide +kernel
theorem dX2_alikeIn_35 : decode cX2_alikeIn 35 = .ok (.iaload, 1) := by decide +kernel
theorem dX2_alikeIn_36 : decode cX2_alikeIn 36 = .ok (.ixor, 1) := by decide +kernel
theorem dX2_alikeIn_37 : decode cX2_alikeIn 37 = .ok (.iload_n 2, 1) := by decide +kernel
theorem dX2_alikeIn_38 : decode cX2_alikeIn 38 = .ok (.iand, 1) := by decide +kernel
theorem dX2_alikeIn_39 : decode cX2_alikeIn 39 = .ok (.ifCond .ne 10, 3) := by decide +kernel
theorem dX2_alikeIn_42 : decode cX2_alikeIn 42 = .ok (.iload_n 3, 1) := by decide +kernel
theorem dX2_alikeIn_43 : decode cX2_alikeIn 43 = .ok (.iconst 1, 1) := by decide +kernel
theorem dX2_alikeIn_44 : decode cX2_alikeIn 44 = .ok (.iload 4, 2) := by decide +kernel
theorem dX2_alikeIn_46 : decode cX2_alikeIn 46 = .ok (.ishl, 1) := by decide +kernel
theorem dX2_alikeIn_47 : decode cX2_alikeIn 47 = .ok (.ior, 1) := by decide +kernel
theorem dX2_alikeIn_48 : decode cX2_alikeIn 48 = .ok (.istore_n 3, 1) := by decide +kernel
theorem dX2_alikeIn_49 : decode cX2_alikeIn 49 = .ok (.iinc 4 1, 3) := by decide +kernel
theorem dX2_alikeIn_52 : decode cX2_alikeIn 52 = .ok (.goto (-47), 3) := by decide +kernel
theorem dX2_alikeIn_55 : decode cX2_alikeIn 55 = .ok (.iload_n 3, 1) := by decide +kernel
theorem dX2_alikeIn_56 : decode cX2_alikeIn 56 = .ok (.ireturn, 1) := by decide +kernel
theorem dX2_alikeInOpen_0 : decode cX2_alikeInOpen 0 = .ok (.aload_n 0, 1) := by decide +kernel
theorem dX2_alikeInOpen_1 : decode cX2_alikeInOpen 1 = .ok (.iload_n 1, 1) := by decide +kernel
theorem dX2_alikeInOpen_2 : decode cX2_alikeInOpen 2 = .ok (.bipush 15, 2) := by decide +kernel
theorem dX2_alikeInOpen_4 : decode cX2_alikeInOpen 4 = .ok (.iload_n 2, 1) := by decide +kernel
theorem dX2_alikeInOpen_5 : decode cX2_alikeInOpen 5 = .ok (.iconst (-1), 1) := by decide +kernel
theorem dX2_alikeInOpen_6 : decode cX2_alikeInOpen 6 = .ok (.ixor, 1) := by decide +kernel
theorem dX2_alikeInOpen_7 : decode cX2_alikeInOpen 7 = .ok (.iand, 1) := by decide +kernel
theorem dX2_alikeInOpen_8 : decode cX2_alikeInOpen 8 = .ok (.invokevirtual 53, 3) := by decide +kernel
theorem dX2_alikeInOpen_11 : decode cX2_alikeInOpen 11 = .ok (.ireturn, 1) := by decide +kernel
theorem dX2_onlyOneSuch_0 : decode cX2_onlyOneSuch 0 = .ok (.aload_n 0, 1) := by decide +kernel
theorem dX2_onlyOneSuch_1 : decode cX2_onlyOneSuch 1 = .ok (.iload_n 1, 1) := by decide +kernel
theorem dX2_onlyOneSuch_2 : decode cX2_onlyOneSuch 2 = .ok (.iload_n 2, 1) := by decide +kernel
theorem dX2_onlyOneSuch_3 : decode cX2_onlyOneSuch 3 = .ok (.invokevirtual 53, 3) := by decide +kernel
theorem dX2_onlyOneSuch_6 : decode cX2_onlyOneSuch 6 = .ok (.iconst 1, 1) := by decide +kernel
theorem dX2_onlyOneSuch_7 : decode cX2_onlyOneSuch 7 = .ok (.iload_n 1, 1) := by decide +kernel
theorem dX2_onlyOneSuch_8 : decode cX2_onlyOneSuch 8 = .ok (.ishl, 1) := by decide +kernel
theorem dX2_onlyOneSuch_9 : decode cX2_onlyOneSuch 9 = .ok (.if_icmp .ne 7, 3) := by decide +kernel
theorem dX2_onlyOneSuch_12 : decode cX2_onlyOneSuch 12 = .ok (.iconst 1, 1) := by decide +kernel
theorem dX2_onlyOneSuch_13 : decode cX2_onlyOneSuch 13 = .ok (.goto 4, 3) := by decide +kernel
theorem dX2_onlyOneSuch_16 : decode cX2_onlyOneSuch 16 = .ok (.iconst 0, 1) := by decide +kernel
theorem dX2_onlyOneSuch_17 : decode cX2_onlyOneSuch 17 = .ok (.ireturn, 1) := by decide +kernel
theorem dX2_mostOfOneKind_0 : decode cX2_mostOfOneKind 0 = .ok (.iconst 0, 1) := by decide +kernel
theorem dX2_mostOfOneKind_1 : decode cX2_mostOfOneKind 1 = .ok (.istore_n 2, 1) := by decide +kernel
theorem dX2_mostOfOneKind_2 : decode cX2_mostOfOneKind 2 = .ok (.iconst 0, 1) := by decide +kernel
theorem dX2_mostOfOneKind_3 : decode cX2_mostOfOneKind 3 = .ok (.istore_n 3, 1) := by decide +kernel
theorem dX2_mostOfOneKind_4 : decode cX2_mostOfOneKind 4 = .ok (.iload_n 3, 1) := by decide +kernel
theorem dX2_mostOfOneKind_5 : decode cX2_mostOfOneKind 5 = .ok (.aload_n 0, 1) := by decide +kernel
theorem dX2_mostOfOneKind_6 : decode cX2_mostOfOneKind 6 = .ok (.getfield 18, 3) := by decide +kernel
theorem dX2_mostOfOneKind_9 : decode cX2_mostOfOneKind 9 = .ok (.getfield 34, 3) := by decide +kernel
theorem dX2_mostOfOneKind_12 : decode cX2_mostOfOneKind 12 = .ok (.if_icmp .ge 39, 3) := by decide +kernel
theorem dX2_mostOfOneKind_15 : decode cX2_mostOfOneKind 15 = .ok (.iload_n 1, 1) := by decide +kernel
theorem dX2_mostOfOneKind_16 : decode cX2_mostOfOneKind 16 = .ok (.iload_n 3, 1) := by decide +kernel
theorem dX2_mostOfOneKind_17 : decode cX2_mostOfOneKind 17 = .ok (.ishr, 1) := by decide +kernel
theorem dX2_mostOfOneKind_18 : decode cX2_mostOfOneKind 18 = .ok (.iconst 1, 1) := by decide +kernel
theorem dX2_mostOfOneKind_19 : decode cX2_mostOfOneKind 19 = .ok (.iand, 1) := by decide +kernel
theorem dX2_mostOfOneKind_20 : decode cX2_mostOfOneKind 20 = .ok (.iconst 1, 1) := by decide +kernel
theorem dX2_mostOfOneKind_21 : decode cX2_mostOfOneKind 21 = .ok (.if_icmp .ne 24, 3) := by decide +kernel
theorem dX2_mostOfOneKind_24 : decode cX2_mostOfOneKind 24 = .ok (.aload_n 0, 1) := by decide +kernel
theorem dX2_mostOfOneKind_25 : decode cX2_mostOfOneKind 25 = .ok (.iload_n 3, 1) := by decide +kernel
theorem dX2_mostOfOneKind_26 : decode cX2_mostOfOneKind 26 = .ok (.bipush 15, 2) := by decide +kernel
theorem dX2_mostOfOneKind_28 : decode cX2_mostOfOneKind 28 = .ok (.invokevirtual 53, 3) := by decide +kernel
theorem dX2_mostOfOneKind_31 : decode cX2_mostOfOneKind 31 = .ok (.iload_n 1, 1) := by decide +kernel
theorem dX2_mostOfOneKind_32 : decode cX2_mostOfOneKind 32 = .ok (.iand, 1) := by decide +kernel
theorem dX2_mostOfOneKind_33 : decode cX2_mostOfOneKind 33 = .ok (.istore 4, 2) := by decide +kernel
theorem dX2_mostOfOneKind_35 : decode cX2_mostOfOneKind 35 = .ok (.iload_n 2, 1) := by decide +kernel
theorem dX2_mostOfOneKind_36 : decode cX2_mostOfOneKind 36 = .ok (.iload 4, 2) := by decide +kernel
theorem dX2_mostOfOneKind_38 : decode cX2_mostOfOneKind 38 = .ok (.invokestatic 45, 3) := by decide +kernel
theorem dX2_mostOfOneKind_41 : decode cX2_mostOfOneKind 41 = .ok (.invokestatic 57, 3) := by decide +kernel
theorem dX2_mostOfOneKind_44 : decode cX2_mostOfOneKind 44 = .ok (.istore_n 2, 1) := by decide +kernel
theorem dX2_mostOfOneKind_45 : decode cX2_mostOfOneKind 45 = .ok (.iinc 3 1, 3) := by decide +kernel
theorem dX2_mostOfOneKind_48 : decode cX2_mostOfOneKind 48 = .ok (.goto (-44), 3) := by decide +kernel
theorem dX2_mostOfOneKind_51 : decode cX2_mostOfOneKind 51 = .ok (.iload_n 2, 1) := by decide +kernel
theorem dX2_mostOfOneKind_52 : decode cX2_mostOfOneKind 52 = .ok (.ireturn, 1) := by decide +kernel
theorem dJ6_numberOfTrailingZeros_0f7a4_0 : decode cJ6_numberOfTrailingZeros_0f7a4 0 = .ok (.iload_n 0, 1) := by decide +kernel
theorem dJ6_numberOfTrailingZeros_0f7a4_1 : decode cJ6_numberOfTrailingZeros_0f7a4 1 = .ok (.iconst (-1), 1) := by decide +kernel
theorem dJ6_numberOfTrailingZeros_0f7a4_2 : decode cJ6_numberOfTrailingZeros_0f7a4 2 = .ok (.ixor, 1) := by decide +kernel
theorem dJ6_numberOfTrailingZeros_0f7a4_3 : decode cJ6_numberOfTrailingZeros_0f7a4 3 = .ok (.iload_n 0, 1) := by decide +kernel
theorem dJ6_numberOfTrailingZeros_0f7a4_4 : decode cJ6_numberOfTrailingZeros_0f7a4 4 = .ok (.iconst 1, 1) := by decide +kernel
theorem dJ6_numberOfTrailingZeros_0f7a4_5 : decode cJ6_numberOfTrailingZeros_0f7a4 5 = .ok (.isub, 1) := by decide +kernel
theorem dJ6_numberOfTrailingZeros_0f7a4_6 : decode cJ6_numberOfTrailingZeros_0f7a4 6 = .ok (.iand, 1) := by decide +kernel
theorem dJ6_numberOfTrailingZeros_0f7a4_7 : decode cJ6_numberOfTrailingZeros_0f7a4 7 = .ok (.istore_n 0, 1) := by decide +kernel
theorem dJ6_numberOfTrailingZeros_0f7a4_8 : decode cJ6_numberOfTrailingZeros_0f7a4 8 = .ok (.iload_n 0, 1) := by decide +kernel
theorem dJ6_numberOfTrailingZeros_0f7a4_9 : decode cJ6_numberOfTrailingZeros_0f7a4 9 = .ok (.ifCond .gt 8, 3) := by decide +kernel
theorem dJ6_numberOfTrailingZeros_0f7a4_12 : decode cJ6_numberOfTrailingZeros_0f7a4 12 = .ok (.iload_n 0, 1) := by decide +kernel
theorem dJ6_numberOfTrailingZeros_0f7a4_13 : decode cJ6_numberOfTrailingZeros_0f7a4 13 = .ok (.bipush 32, 2) := by decide +kernel
theorem dJ6_numberOfTrailingZeros_0f7a4_15 : decode cJ6_numberOfTrailingZeros_0f7a4 15 = .ok (.iand, 1) := by decide +kernel
theorem dJ6_numberOfTrailingZeros_0f7a4_16 : decode cJ6_numberOfTrailingZeros_0f7a4 16 = .ok (.ireturn, 1) := by decide +kernel
theorem dJ6_numberOfTrailingZeros_0f7a4_17 : decode cJ6_numberOfTrailingZeros_0f7a4 17 = .ok (.iconst 1, 1) := by decide +kernel
theorem dJ6_numberOfTrailingZeros_0f7a4_18 : decode cJ6_numberOfTrailingZeros_0f7a4 18 = .ok (.istore_n 1, 1) := by decide +kernel
theorem dJ6_numberOfTrailingZeros_0f7a4_19 : decode cJ6_numberOfTrailingZeros_0f7a4 19 = .ok (.iload_n 0, 1) := by decide +kernel
theorem dJ6_numberOfTrailingZeros_0f7a4_20 : decode cJ6_numberOfTrailingZeros_0f7a4 20 = .ok (.ldc_w 264, 3) := by decide +kernel
theorem dJ6_numberOfTrailingZeros_0f7a4_23 : decode cJ6_numberOfTrailingZeros_0f7a4 23 = .ok (.if_icmp .le 11, 3) := by decide +kernel
theorem dJ6_numberOfTrailingZeros_0f7a4_26 : decode cJ6_numberOfTrailingZeros_0f7a4 26 = .ok (.iinc 1 16, 3) := by decide +kernel
theorem dJ6_numberOfTrailingZeros_0f7a4_29 : decode cJ6_numberOfTrailingZeros_0f7a4 29 = .ok (.iload_n 0, 1) := by decide +kernel
theorem dJ6_numberOfTrailingZeros_0f7a4_30 : decode cJ6_numberOfTrailingZeros_0f7a4 30 = .ok (.bipush 16, 2) := by decide +kernel
theorem dJ6_numberOfTrailingZeros_0f7a4_32 : decode cJ6_numberOfTrailingZeros_0f7a4 32 = .ok (.iushr, 1) := by decide +kernel
theorem dJ6_numberOfTrailingZeros_0f7a4_33 : decode cJ6_numberOfTrailingZeros_0f7a4 33 = .ok (.istore_n 0, 1) := by decide +kernel
theorem dJ6_numberOfTrailingZeros_0f7a4_34 : decode cJ6_numberOfTrailingZeros_0f7a4 34 = .ok (.iload_n 0, 1) := by decide +kernel
theorem dJ6_numberOfTrailingZeros_0f7a4_35 : decode cJ6_numberOfTrailingZeros_0f7a4 35 = .ok (.sipush 256, 3) := by decide +kernel
theorem dJ6_numberOfTrailingZeros_0f7a4_38 : decode cJ6_numberOfTrailingZeros_0f7a4 38 = .ok (.if_icmp .le 11, 3) := by decide +kernel
theorem dJ6_numberOfTrailingZeros_0f7a4_41 : decode cJ6_numberOfTrailingZeros_0f7a4 41 = .ok (.iinc 1 8, 3) := by decide +kernel
theorem dJ6_numberOfTrailingZeros_0f7a4_44 : decode cJ6_numberOfTrailingZeros_0f7a4 44 = .ok (.iload_n 0, 1) := by decide +kernel
theorem dJ6_numberOfTrailingZeros_0f7a4_45 : decode cJ6_numberOfTrailingZeros_0f7a4 45 = .ok (.bipush 8, 2) := by decide +kernel
theorem dJ6_numberOfTrailingZeros_0f7a4_47 : decode cJ6_numberOfTrailingZeros_0f7a4 47 = .ok (.iushr, 1) := by decide +kernel
theorem dJ6_numberOfTrailingZeros_0f7a4_48 : decode cJ6_numberOfTrailingZeros_0f7a4 48 = .ok (.istore_n 0, 1) := by decide +kernel
theorem dJ6_numberOfTrailingZeros_0f7a4_49 : decode cJ6_numberOfTrailingZeros_0f7a4 49 = .ok (.iload_n 0, 1) := by decide +kernel
theorem dJ6_numberOfTrailingZeros_0f7a4_50 : decode cJ6_numberOfTrailingZeros_0f7a4 50 = .ok (.bipush 16, 2) := by decide +kernel
theorem dJ6_numberOfTrailingZeros_0f7a4_52 : decode cJ6_numberOfTrailingZeros_0f7a4 52 = .ok (.if_icmp .le 10, 3) := by decide +kernel
theorem dJ6_numberOfTrailingZeros_0f7a4_55 : decode cJ6_numberOfTrailingZeros_0f7a4 55 = .ok (.iinc 1 4, 3) := by decide +kernel
theorem dJ6_numberOfTrailingZeros_0f7a4_58 : decode cJ6_numberOfTrailingZeros_0f7a4 58 = .ok (.iload_n 0, 1) := by decide +kernel
theorem dJ6_numberOfTrailingZeros_0f7a4_59 : decode cJ6_numberOfTrailingZeros_0f7a4 59 = .ok (.iconst 4, 1) := by decide +kernel
theorem dJ6_numberOfTrailingZeros_0f7a4_60 : decode cJ6_numberOfTrailingZeros_0f7a4 60 = .ok (.iushr, 1) := by decide +kernel
theorem dJ6_numberOfTrailingZeros_0f7a4_61 : decode cJ6_numberOfTrailingZeros_0f7a4 61 = .ok (.istore_n 0, 1) := by decide +kernel
theorem dJ6_numberOfTrailingZeros_0f7a4_62 : decode cJ6_numberOfTrailingZeros_0f7a4 62 = .ok (.iload_n 0, 1) := by decide +kernel
theorem dJ6_numberOfTrailingZeros_0f7a4_63 : decode cJ6_numberOfTrailingZeros_0f7a4 63 = .ok (.iconst 4, 1) := by decide +kernel
theorem dJ6_numberOfTrailingZeros_0f7a4_64 : decode cJ6_numberOfTrailingZeros_0f7a4 64 = .ok (.if_icmp .le 10, 3) := by decide +kernel
theorem dJ6_numberOfTrailingZeros_0f7a4_67 : decode cJ6_numberOfTrailingZeros_0f7a4 67 = .ok (.iinc 1 2, 3) := by decide +kernel
theorem dJ6_numberOfTrailingZeros_0f7a4_70 : decode cJ6_numberOfTrailingZeros_0f7a4 70 = .ok (.iload_n 0, 1) := by decide +kernel
theorem dJ6_numberOfTrailingZeros_0f7a4_71 : decode cJ6_numberOfTrailingZeros_0f7a4 71 = .ok (.iconst 2, 1) := by decide +kernel
theorem dJ6_numberOfTrailingZeros_0f7a4_72 : decode cJ6_numberOfTrailingZeros_0f7a4 72 = .ok (.iushr, 1) := by decide +kernel
theorem dJ6_numberOfTrailingZeros_0f7a4_73 : decode cJ6_numberOfTrailingZeros_0f7a4 73 = .ok (.istore_n 0, 1) := by decide +kernel
theorem dJ6_numberOfTrailingZeros_0f7a4_74 : decode cJ6_numberOfTrailingZeros_0f7a4 74 = .ok (.iload_n 1, 1) := by decide +kernel
theorem dJ6_numberOfTrailingZeros_0f7a4_75 : decode cJ6_numberOfTrailingZeros_0f7a4 75 = .ok (.iload_n 0, 1) := by decide +kernel
theorem dJ6_numberOfTrailingZeros_0f7a4_76 : decode cJ6_numberOfTrailingZeros_0f7a4 76 = .ok (.iconst 1, 1) := by decide +kernel
theorem dJ6_numberOfTrailingZeros_0f7a4_77 : decode cJ6_numberOfTrailingZeros_0f7a4 77 = .ok (.iushr, 1) := by decide +kernel
theorem dJ6_numberOfTrailingZeros_0f7a4_78 : decode cJ6_numberOfTrailingZeros_0f7a4 78 = .ok (.iadd, 1) := by decide +kernel
theorem dJ6_numberOfTrailingZeros_0f7a4_79 : decode cJ6_numberOfTrailingZeros_0f7a4 79 = .ok (.ireturn, 1) := by decide +kernel
theorem dJ6_bitCount_0f7a4_0 : decode cJ6_bitCount_0f7a4 0 = .ok (.iload_n 0, 1) := by decide +kernel
theorem dJ6_bitCount_0f7a4_1 : decode cJ6_bitCount_0f7a4 1 = .ok (.iload_n 0, 1) := by decide +kernel
theorem dJ6_bitCount_0f7a4_2 : decode cJ6_bitCount_0f7a4 2 = .ok (.iconst 1, 1) := by decide +kernel
theorem dJ6_bitCount_0f7a4_3 : decode cJ6_bitCount_0f7a4 3 = .ok (.iushr, 1) := by decide +kernel
theorem dJ6_bitCount_0f7a4_4 : decode cJ6_bitCount_0f7a4 4 = .ok (.ldc_w 265, 3) := by decide +kernel
theorem dJ6_bitCount_0f7a4_7 : decode cJ6_bitCount_0f7a4 7 = .ok (.iand, 1) := by decide +kernel
theorem dJ6_bitCount_0f7a4_8 : decode cJ6_bitCount_0f7a4 8 = .ok (.isub, 1) := by decide +kernel
theorem dJ6_bitCount_0f7a4_9 : decode cJ6_bitCount_0f7a4 9 = .ok (.istore_n 0, 1) := by decide +kernel
theorem dJ6_bitCount_0f7a4_10 : decode cJ6_bitCount_0f7a4 10 = .ok (.iload_n 0, 1) := by decide +kernel
theorem dJ6_bitCount_0f7a4_11 : decode cJ6_bitCount_0f7a4 11 = .ok (.ldc_w 266, 3) := by decide +kernel
theorem dJ6_bitCount_0f7a4_14 : decode cJ6_bitCount_0f7a4 14 = .ok (.iand, 1) := by decide +kernel
theorem dJ6_bitCount_0f7a4_15 : decode cJ6_bitCount_0f7a4 15 = .ok (.iload_n 0, 1) := by decide +kernel
theorem dJ6_bitCount_0f7a4_16 : decode cJ6_bitCount_0f7a4 16 = .ok (.iconst 2, 1) := by decide +kernel
theorem dJ6_bitCount_0f7a4_17 : decode cJ6_bitCount_0f7a4 17 = .ok (.iushr, 1) := by decide +kernel
theorem dJ6_bitCount_0f7a4_18 : decode cJ6_bitCount_0f7a4 18 = .ok (.ldc_w 266, 3) := by decide +kernel
theorem dJ6_bitCount_0f7a4_21 : decode cJ6_bitCount_0f7a4 21 = .ok (.iand, 1) := by decide +kernel
theorem dJ6_bitCount_0f7a4_22 : decode cJ6_bitCount_0f7a4 22 = .ok (.iadd, 1) := by decide +kernel
theorem dJ6_bitCount_0f7a4_23 : decode cJ6_bitCount_0f7a4 23 = .ok (.istore_n 0, 1) := by decide +kernel
theorem dJ6_bitCount_0f7a4_24 : decode cJ6_bitCount_0f7a4 24 = .ok (.iload_n 0, 1) := by decide +kernel
theorem dJ6_bitCount_0f7a4_25 : decode cJ6_bitCount_0f7a4 25 = .ok (.iload_n 0, 1) := by decide +kernel
theorem dJ6_bitCount_0f7a4_26 : decode cJ6_bitCount_0f7a4 26 = .ok (.iconst 4, 1) := by decide +kernel
theorem dJ6_bitCount_0f7a4_27 : decode cJ6_bitCount_0f7a4 27 = .ok (.iushr, 1) := by decide +kernel
theorem dJ6_bitCount_0f7a4_28 : decode cJ6_bitCount_0f7a4 28 = .ok (.iadd, 1) := by decide +kernel
theorem dJ6_bitCount_0f7a4_29 : decode cJ6_bitCount_0f7a4 29 = .ok (.ldc_w 267, 3) := by decide +kernel
theorem dJ6_bitCount_0f7a4_32 : decode cJ6_bitCount_0f7a4 32 = .ok (.iand, 1) := by decide +kernel
theorem dJ6_bitCount_0f7a4_33 : decode cJ6_bitCount_0f7a4 33 = .ok (.istore_n 0, 1) := by decide +kernel
theorem dJ6_bitCount_0f7a4_34 : decode cJ6_bitCount_0f7a4 34 = .ok (.iload_n 0, 1) := by decide +kernel
theorem dJ6_bitCount_0f7a4_35 : decode cJ6_bitCount_0f7a4 35 = .ok (.iload_n 0, 1) := by decide +kernel
theorem dJ6_bitCount_0f7a4_36 : decode cJ6_bitCount_0f7a4 36 = .ok (.bipush 8, 2) := by decide +kernel
theorem dJ6_bitCount_0f7a4_38 : decode cJ6_bitCount_0f7a4 38 = .ok (.iushr, 1) := by decide +kernel
theorem dJ6_bitCount_0f7a4_39 : decode cJ6_bitCount_0f7a4 39 = .ok (.iadd, 1) := by decide +kernel
theorem dJ6_bitCount_0f7a4_40 : decode cJ6_bitCount_0f7a4 40 = .ok (.istore_n 0, 1) := by decide +kernel
theorem dJ6_bitCount_0f7a4_41 : decode cJ6_bitCount_0f7a4 41 = .ok (.iload_n 0, 1) := by decide +kernel
theorem dJ6_bitCount_0f7a4_42 : decode cJ6_bitCount_0f7a4 42 = .ok (.iload_n 0, 1) := by decide +kernel
theorem dJ6_bitCount_0f7a4_43 : decode cJ6_bitCount_0f7a4 43 = .ok (.bipush 16, 2) := by decide +kernel
theorem dJ6_bitCount_0f7a4_45 : decode cJ6_bitCount_0f7a4 45 = .ok (.iushr, 1) := by decide +kernel
theorem dJ6_bitCount_0f7a4_46 : decode cJ6_bitCount_0f7a4 46 = .ok (.iadd, 1) := by decide +kernel
theorem dJ6_bitCount_0f7a4_47 : decode cJ6_bitCount_0f7a4 47 = .ok (.istore_n 0, 1) := by decide +kernel
theorem dJ6_bitCount_0f7a4_48 : decode cJ6_bitCount_0f7a4 48 = .ok (.iload_n 0, 1) := by decide +kernel
theorem dJ6_bitCount_0f7a4_49 : decode cJ6_bitCount_0f7a4 49 = .ok (.bipush 63, 2) := by decide +kernel
theorem dJ6_bitCount_0f7a4_51 : decode cJ6_bitCount_0f7a4 51 = .ok (.iand, 1) := by decide +kernel
theorem dJ6_bitCount_0f7a4_52 : decode cJ6_bitCount_0f7a4 52 = .ok (.ireturn, 1) := by decide +kernel
theorem dJ9_max_7cf53_0 : decode cJ9_max_7cf53 0 = .ok (.iload_n 0, 1) := by decide +kernel
theorem dJ9_max_7cf53_1 : decode cJ9_max_7cf53 1 = .ok (.iload_n 1, 1) := by decide +kernel
theorem dJ9_max_7cf53_2 : decode cJ9_max_7cf53 2 = .ok (.if_icmp .lt 7, 3) := by decide +kernel
theorem dJ9_max_7cf53_5 : decode cJ9_max_7cf53 5 = .ok (.iload_n 0, 1) := by decide +kernel
theorem dJ9_max_7cf53_6 : decode cJ9_max_7cf53 6 = .ok (.goto 4, 3) := by decide +kernel
theorem dJ9_max_7cf53_9 : decode cJ9_max_7cf53 9 = .ok (.iload_n 1, 1) := by decide +kernel
theorem dJ9_max_7cf53_10 : decode cJ9_max_7cf53 10 = .ok (.ireturn, 1) := by decide +kernel
theorem dJ9_max_f86c9_0 : decode cJ9_max_f86c9 0 = .ok (.lload_n 0, 1) := by decide +kernel
theorem dJ9_max_f86c9_1 : decode cJ9_max_f86c9 1 = .ok (.lload_n 2, 1) := by decide +kernel
theorem dJ9_max_f86c9_2 : decode cJ9_max_f86c9 2 = .ok (.lcmp, 1) := by decide +kernel
theorem dJ9_max_f86c9_3 : decode cJ9_max_f86c9 3 = .ok (.ifCond .lt 7, 3) := by decide +kernel
theorem dJ9_max_f86c9_6 : decode cJ9_max_f86c9 6 = .ok (.lload_n 0, 1) := by decide +kernel
theorem dJ9_max_f86c9_7 : decode cJ9_max_f86c9 7 = .ok (.goto 4, 3) := by decide +kernel
theorem dJ9_max_f86c9_10 : decode cJ9_max_f86c9 10 = .ok (.lload_n 2, 1) := by decide +kernel
theorem dJ9_max_f86c9_11 : decode cJ9_max_f86c9 11 = .ok (.lreturn, 1) := by decide +kernel
theorem dJ9_min_7cf53_0 : decode cJ9_min_7cf53 0 = .ok (.iload_n 0, 1) := by decide +kernel
theorem dJ9_min_7cf53_1 : decode cJ9_min_7cf53 1 = .ok (.iload_n 1, 1) := by decide +kernel
theorem dJ9_min_7cf53_2 : decode cJ9_min_7cf53 2 = .ok (.if_icmp .gt 7, 3) := by decide +kernel
theorem dJ9_min_7cf53_5 : decode cJ9_min_7cf53 5 = .ok (.iload_n 0, 1) := by decide +kernel
theorem dJ9_min_7cf53_6 : decode cJ9_min_7cf53 6 = .ok (.goto 4, 3) := by decide +kernel
theorem dJ9_min_7cf53_9 : decode cJ9_min_7cf53 9 = .ok (.iload_n 1, 1) := by decide +kernel
theorem dJ9_min_7cf53_10 : decode cJ9_min_7cf53 10 = .ok (.ireturn, 1) := by decide +kernel
theorem dJ7_fill_d0a16_0 : decode cJ7_fill_d0a16 0 = .ok (.iconst 0, 1) := by decide +kernel
theorem dJ7_fill_d0a16_1 : decode cJ7_fill_d0a16 1 = .ok (.istore_n 3, 1) := by decide +kernel
theorem dJ7_fill_d0a16_2 : decode cJ7_fill_d0a16 2 = .ok (.aload_n 0, 1) := by decide +kernel
theorem dJ7_fill_d0a16_3 : decode cJ7_fill_d0a16 3 = .ok (.arraylength, 1) := by decide +kernel
theorem dJ7_fill_d0a16_4 : decode cJ7_fill_d0a16 4 = .ok (.istore 4, 2) := by decide +kernel
theorem dJ7_fill_d0a16_6 : decode cJ7_fill_d0a16 6 = .ok (.iload_n 3, 1) := by decide +kernel
theorem dJ7_fill_d0a16_7 : decode cJ7_fill_d0a16 7 = .ok (.iload 4, 2) := by decide +kernel
theorem dJ7_fill_d0a16_9 : decode cJ7_fill_d0a16 9 = .ok (.if_icmp .ge 13, 3) := by decide +kernel
theorem dJ7_fill_d0a16_12 : decode cJ7_fill_d0a16 12 = .ok (.aload_n 0, 1) := by decide +kernel
theorem dJ7_fill_d0a16_13 : decode cJ7_fill_d0a16 13 = .ok (.iload_n 3, 1) := by decide +kernel
theorem dJ7_fill_d0a16_14 : decode cJ7_fill_d0a16 14 = .ok (.lload_n 1, 1) := by decide +kernel
theorem dJ7_fill_d0a16_15 : decode cJ7_fill_d0a16 15 = .ok (.lastore, 1) := by decide +kernel
theorem dJ7_fill_d0a16_16 : decode cJ7_fill_d0a16 16 = .ok (.iinc 3 1, 3) := by decide +kernel
theorem dJ7_fill_d0a16_19 : decode cJ7_fill_d0a16 19 = .ok (.goto (-13), 3) := by decide +kernel
theorem dJ7_fill_d0a16_22 : decode cJ7_fill_d0a16 22 = .ok (.return_, 1) := by decide +kernel
theorem dJ7_fill_53178_0 : decode cJ7_fill_53178 0 = .ok (.iconst 0, 1) := by decide +kernel
theorem dJ7_fill_53178_1 : decode cJ7_fill_53178 1 = .ok (.istore_n 2, 1) := by decide +kernel
theorem dJ7_fill_53178_2 : decode cJ7_fill_53178 2 = .ok (.aload_n 0, 1) := by decide +kernel
theorem dJ7_fill_53178_3 : decode cJ7_fill_53178 3 = .ok (.arraylength, 1) := by decide +kernel
theorem dJ7_fill_53178_4 : decode cJ7_fill_53178 4 = .ok (.istore_n 3, 1) := by decide +kernel
theorem dJ7_fill_53178_5 : decode cJ7_fill_53178 5 = .ok (.iload_n 2, 1) := by decide +kernel
theorem dJ7_fill_53178_6 : decode cJ7_fill_53178 6 = .ok (.iload_n 3, 1) := by decide +kernel
theorem dJ7_fill_53178_7 : decode cJ7_fill_53178 7 = .ok (.if_icmp .ge 13, 3) := by decide +kernel
theorem dJ7_fill_53178_10 : decode cJ7_fill_53178 10 = .ok (.aload_n 0, 1) := by decide +kernel
theorem dJ7_fill_53178_11 : decode cJ7_fill_53178 11 = .ok (.iload_n 2, 1) := by decide +kernel
theorem dJ7_fill_53178_12 : decode cJ7_fill_53178 12 = .ok (.iload_n 1, 1) := by decide +kernel
theorem dJ7_fill_53178_13 : decode cJ7_fill_53178 13 = .ok (.iastore, 1) := by decide +kernel
theorem dJ7_fill_53178_14 : decode cJ7_fill_53178 14 = .ok (.iinc 2 1, 3) := by decide +kernel
theorem dJ7_fill_53178_17 : decode cJ7_fill_53178 17 = .ok (.goto (-12), 3) := by decide +kernel
theorem dJ7_fill_53178_20 : decode cJ7_fill_53178 20 = .ok (.return_, 1) := by decide +kernel
end
section
theorem dX3_init_0 : decode cX3_init 0 = .ok (.aload_n 0, 1) := by decide +kernel
theorem dX3_init_1 : decode cX3_init 1 = .ok (.invokespecial 5, 3) := by decide +kernel
theorem dX3_init_4 : decode cX3_init 4 = .ok (.aload_n 0, 1) := by decide +kernel
theorem dX3_init_5 : decode cX3_init 5 = .ok (.sipush 256, 3) := by decide +kernel
theorem dX3_init_8 : decode cX3_init 8 = .ok (.newarray .long, 2) := by decide +kernel
theorem dX3_init_10 : decode cX3_init 10 = .ok (.putfield 11, 3) := by decide +kernel
theorem dX3_init_13 : decode cX3_init 13 = .ok (.return_, 1) := by decide +kernel
theorem dX3_countOf_0 : decode cX3_countOf 0 = .ok (.lload_n 0, 1) := by decide +kernel
theorem dX3_countOf_1 : decode cX3_countOf 1 = .ok (.bipush 40, 2) := by decide +kernel
theorem dX3_countOf_3 : decode cX3_countOf 3 = .ok (.lshr, 1) := by decide +kernel
theorem dX3_countOf_4 : decode cX3_countOf 4 = .ok (.l2i, 1) := by decide +kernel
theorem dX3_countOf_5 : decode cX3_countOf 5 = .ok (.ireturn, 1) := by decide +kernel
theorem dX3_worthOf_0 : decode cX3_worthOf 0 = .ok (.lload_n 0, 1) := by decide +kernel
theorem dX3_worthOf_1 : decode cX3_worthOf 1 = .ok (.bipush 32, 2) := by decide +kernel
theorem dX3_worthOf_3 : decode cX3_worthOf 3 = .ok (.lshr, 1) := by decide +kernel
theorem dX3_worthOf_4 : decode cX3_worthOf 4 = .ok (.l2i, 1) := by decide +kernel
theorem dX3_worthOf_5 : decode cX3_worthOf 5 = .ok (.sipush 255, 3) := by decide +kernel
theorem dX3_worthOf_8 : decode cX3_worthOf 8 = .ok (.iand, 1) := by decide +kernel
theorem dX3_worthOf_9 : decode cX3_worthOf 9 = .ok (.ireturn, 1) := by decide +kernel
theorem dX3_otherOf_0 : decode cX3_otherOf 0 = .ok (.lload_n 0, 1) := by decide +kernel
theorem dX3_otherOf_1 : decode cX3_otherOf 1 = .ok (.iconst 4, 1) := by decide +kernel
theorem dX3_otherOf_2 : decode cX3_otherOf 2 = .ok (.bipush 7, 2) := by decide +kernel
theorem dX3_otherOf_4 : decode cX3_otherOf 4 = .ok (.iload_n 2, 1) := by decide +kernel
theorem dX3_otherOf_5 : decode cX3_otherOf 5 = .ok (.isub, 1) := by decide +kernel
theorem dX3_otherOf_6 : decode cX3_otherOf 6 = .ok (.imul, 1) := by decide +kernel
theorem dX3_otherOf_7 : decode cX3_otherOf 7 = .ok (.lshr, 1) := by decide +kernel
theorem dX3_otherOf_8 : decode cX3_otherOf 8 = .ok (.l2i, 1) := by decide +kernel
theorem dX3_otherOf_9 : decode cX3_otherOf 9 = .ok (.bipush 15, 2) := by decide +kernel
theorem dX3_otherOf_11 : decode cX3_otherOf 11 = .ok (.iand, 1) := by decide +kernel
theorem dX3_otherOf_12 : decode cX3_otherOf 12 = .ok (.istore_n 3, 1) := by decide +kernel
theorem dX3_otherOf_13 : decode cX3_otherOf 13 = .ok (.iload_n 3, 1) := by decide +kernel
theorem dX3_otherOf_14 : decode cX3_otherOf 14 = .ok (.ifCond .ne 7, 3) := by decide +kernel
theorem dX3_otherOf_17 : decode cX3_otherOf 17 = .ok (.iconst (-1), 1) := by decide +kernel
theorem dX3_otherOf_18 : decode cX3_otherOf 18 = .ok (.goto 7, 3) := by decide +kernel
theorem dX3_otherOf_21 : decode cX3_otherOf 21 = .ok (.bipush 8, 2) := by decide +kernel
theorem dX3_otherOf_23 : decode cX3_otherOf 23 = .ok (.iload_n 3, 1) := by decide +kernel
theorem dX3_otherOf_24 : decode cX3_otherOf 24 = .ok (.isub, 1) := by decide +kernel
theorem dX3_otherOf_25 : decode cX3_otherOf 25 = .ok (.ireturn, 1) := by decide +kernel
theorem dX3_digit_0 : decode cX3_digit 0 = .ok (.bipush 8, 2) := by decide +kernel
theorem dX3_digit_2 : decode cX3_digit 2 = .ok (.iload_n 1, 1) := by decide +kernel
theorem dX3_digit_3 : decode cX3_digit 3 = .ok (.isub, 1) := by decide +kernel
theorem dX3_digit_4 : decode cX3_digit 4 = .ok (.i2l, 1) := by decide +kernel
theorem dX3_digit_5 : decode cX3_digit 5 = .ok (.iconst 4, 1) := by decide +kernel
theorem dX3_digit_6 : decode cX3_digit 6 = .ok (.bipush 7, 2) := by decide +kernel
theorem dX3_digit_8 : decode cX3_digit 8 = .ok (.iload_n 0, 1) := by decide +kernel
theorem dX3_digit_9 : decode cX3_digit 9 = .ok (.isub, 1) := by decide +kernel
theorem dX3_digit_10 : decode cX3_digit 10 = .ok (.imul, 1) := by decide +kernel
theorem dX3_digit_11 : decode cX3_digit 11 = .ok (.lshl, 1) := by decide +kernel
theorem dX3_digit_12 : decode cX3_digit 12 = .ok (.lreturn, 1) := by decide +kernel
theorem dX3_findMatch_0 : decode cX3_findMatch 0 = .ok (.aload_n 0, 1) := by decide +kernel
theorem dX3_findMatch_1 : decode cX3_findMatch 1 = .ok (.getfield 11, 3) := by decide +kernel
theorem dX3_findMatch_4 : decode cX3_findMatch 4 = .ok (.lconst 0, 1) := by decide +kernel
theorem dX3_findMatch_5 : decode cX3_findMatch 5 = .ok (.invokestatic 15, 3) := by decide +kernel
theorem dX3_findMatch_8 : decode cX3_findMatch 8 = .ok (.iconst 1, 1) := by decide +kernel
theorem dX3_findMatch_9 : decode cX3_findMatch 9 = .ok (.aload_n 1, 1) := by decide +kernel
theorem dX3_findMatch_10 : decode cX3_findMatch 10 = .ok (.getfield 21, 3) := by decide +kernel
theorem dX3_findMatch_13 : decode cX3_findMatch 13 = .ok (.getfield 27, 3) := by decide +kernel
theorem dX3_findMatch_16 : decode cX3_findMatch 16 = .ok (.ishl, 1) := by decide +kernel
theorem dX3_findMatch_17 : decode cX3_findMatch 17 = .ok (.istore_n 2, 1) := by decide +kernel
theorem dX3_findMatch_18 : decode cX3_findMatch 18 = .ok (.aload_n 1, 1) := by decide +kernel
theorem dX3_findMatch_19 : decode cX3_findMatch 19 = .ok (.getfield 33, 3) := by decide +kernel
theorem dX3_findMatch_22 : decode cX3_findMatch 22 = .ok (.getfield 27, 3) := by decide +kernel
theorem dX3_findMatch_25 : decode cX3_findMatch 25 = .ok (.iconst 1, 1) := by decide +kernel
theorem dX3_findMatch_26 : decode cX3_findMatch 26 = .ok (.isub, 1) := by decide +kernel
theorem dX3_findMatch_27 : decode cX3_findMatch 27 = .ok (.istore_n 3, 1) := by decide +kernel
theorem dX3_findMatch_28 : decode cX3_findMatch 28 = .ok (.iload_n 3, 1) := by decide +kernel
theorem dX3_findMatch_29 : decode cX3_findMatch 29 = .ok (.ifCond .lt 69, 3) := by decide +kernel
theorem dX3_findMatch_32 : decode cX3_findMatch 32 = .ok (.aload_n 1, 1) := by decide +kernel
theorem dX3_findMatch_33 : decode cX3_findMatch 33 = .ok (.iload_n 3, 1) := by decide +kernel
theorem dX3_findMatch_34 : decode cX3_findMatch 34 = .ok (.invokevirtual 36, 3) := by decide +kernel
theorem dX3_findMatch_37 : decode cX3_findMatch 37 = .ok (.istore 4, 2) := by decide +kernel
theorem dX3_findMatch_39 : decode cX3_findMatch 39 = .ok (.aload_n 1, 1) := by decide +kernel
theorem dX3_findMatch_40 : decode cX3_findMatch 40 = .ok (.getfield 33, 3) := by decide +kernel
theorem dX3_findMatch_43 : decode cX3_findMatch 43 = .ok (.getfield 40, 3) := by decide +kernel
theorem dX3_findMatch_46 : decode cX3_findMatch 46 = .ok (.iload_n 3, 1) := by decide +kernel
theorem dX3_findMatch_47 : decode cX3_findMatch 47 = .ok (.iaload, 1) := by decide +kernel
theorem dX3_findMatch_48 : decode cX3_findMatch 48 = .ok (.i2l, 1) := by decide +kernel
theorem dX3_findMatch_49 : decode cX3_findMatch 49 = .ok (.bipush 32, 2) := by decide +kernel
theorem dX3_findMatch_51 : decode cX3_findMatch 51 = .ok (.lshl, 1) := by decide +kernel
theorem dX3_findMatch_52 : decode cX3_findMatch 52 = .ok (.lstore 5, 2) := by decide +kernel
theorem dX3_findMatch_54 : decode cX3_findMatch 54 = .ok (.iconst 0, 1) := by decide +kernel
theorem dX3_findMatch_55 : decode cX3_findMatch 55 = .ok (.istore 7, 2) := by decide +kernel
theorem dX3_findMatch_57 : decode cX3_findMatch 57 = .ok (.iload 7, 2) := by decide +kernel
theorem dX3_findMatch_59 : decode cX3_findMatch 59 = .ok (.iload_n 2, 1) := by decide +kernel
theorem dX3_findMatch_60 : decode cX3_findMatch 60 = .ok (.if_icmp .ge 32, 3) := by decide +kernel
theorem dX3_findMatch_63 : decode cX3_findMatch 63 = .ok (.aload_n 0, 1) := by decide +kernel
theorem dX3_findMatch_64 : decode cX3_findMatch 64 = .ok (.getfield 11, 3) := by decide +kernel
theorem dX3_findMatch_67 : decode cX3_findMatch 67 = .ok (.iload 7, 2) := by decide +kernel
theorem dX3_findMatch_69 : decode cX3_findMatch 69 = .ok (.aload_n 0, 1) := by decide +kernel
theorem dX3_findMatch_70 : decode cX3_findMatch 70 = .ok (.iload_n 3, 1) := by decide +kernel
theorem dX3_findMatch_71 : decode cX3_findMatch 71 = .ok (.iload 4, 2) := by decide +kernel
theorem dX3_findMatch_73 : decode cX3_findMatch 73 = .ok (.iload 7, 2) := by decide +kernel
theorem dX3_findMatch_75 : decode cX3_findMatch 75 = .ok (.iconst (-1), 1) := by decide +kernel
theorem dX3_findMatch_76 : decode cX3_findMatch 76 = .ok (.ixor, 1) := by decide +kernel
theorem dX3_findMatch_77 : decode cX3_findMatch 77 = .ok (.iand, 1) := by decide +kernel
theorem dX3_findMatch_78 : decode cX3_findMatch 78 = .ok (.iload 7, 2) := by decide +kernel
theorem dX3_findMatch_80 : decode cX3_findMatch 80 = .ok (.lload 5, 2) := by decide +kernel
theorem dX3_findMatch_82 : decode cX3_findMatch 82 = .ok (.invokevirtual 44, 3) := by decide +kernel
theorem dX3_findMatch_85 : decode cX3_findMatch 85 = .ok (.lastore, 1) := by decide +kernel
theorem dX3_findMatch_86 : decode cX3_findMatch 86 = .ok (.iinc 7 1, 3) := by decide +kernel
theorem dX3_findMatch_89 : decode cX3_findMatch 89 = .ok (.goto (-32), 3) := by decide +kernel
theorem dX3_findMatch_92 : decode cX3_findMatch 92 = .ok (.iinc 3 (-1), 3) := by decide +kernel
theorem dX3_findMatch_95 : decode cX3_findMatch 95 = .ok (.goto (-67), 3) := by decide +kernel
theorem dX3_findMatch_98 : decode cX3_findMatch 98 = .ok (.aload_n 0, 1) := by decide +kernel
theorem dX3_findMatch_99 : decode cX3_findMatch 99 = .ok (.aload_n 0, 1) := by decide +kernel
theorem dX3_findMatch_100 : decode cX3_findMatch 100 = .ok (.getfield 11, 3) := by decide +kernel
theorem dX3_findMatch_103 : decode cX3_findMatch 103 = .ok (.iconst 0, 1) := by decide +kernel
theorem dX3_findMatch_104 : decode cX3_findMatch 104 = .ok (.laload, 1) := by decide +kernel
theorem dX3_findMatch_105 : decode cX3_findMatch 105 = .ok (.putfield 48, 3) := by decide +kernel
theorem dX3_findMatch_108 : decode cX3_findMatch 108 = .ok (.return_, 1) := by decide +kernel
theorem dX3_withOneMore_0 : decode cX3_withOneMore 0 = .ok (.aload_n 0, 1) := by decide +kernel
theorem dX3_withOneMore_1 : decode cX3_withOneMore 1 = .ok (.getfield 11, 3) := by decide +kernel
theorem dX3_withOneMore_4 : decode cX3_withOneMore 4 = .ok (.iload_n 3, 1) := by decide +kernel
theorem dX3_withOneMore_5 : decode cX3_withOneMore 5 = .ok (.laload, 1) := by decide +kernel
theorem dX3_withOneMore_6 : decode cX3_withOneMore 6 = .ok (.lstore 6, 2) := by decide +kernel
theorem dX3_withOneMore_8 : decode cX3_withOneMore 8 = .ok (.iconst 0, 1) := by decide +kernel
theorem dX3_withOneMore_9 : decode cX3_withOneMore 9 = .ok (.istore 8, 2) := by decide +kernel
theorem dX3_withOneMore_11 : decode cX3_withOneMore 11 = .ok (.iload_n 2, 1) := by decide +kernel
theorem dX3_withOneMore_12 : decode cX3_withOneMore 12 = .ok (.iload 8, 2) := by decide +kernel
theorem dX3_withOneMore_14 : decode cX3_withOneMore 14 = .ok (.ishr, 1) := by decide +kernel
theorem dX3_withOneMore_15 : decode cX3_withOneMore 15 = .ok (.ifCond .eq 62, 3) := by decide +kernel
theorem dX3_withOneMore_18 : decode cX3_withOneMore 18 = .ok (.iload 8, 2) := by decide +kernel
theorem dX3_withOneMore_20 : decode cX3_withOneMore 20 = .ok (.bipush 8, 2) := by decide +kernel
theorem dX3_withOneMore_22 : decode cX3_withOneMore 22 = .ok (.if_icmp .ge 55, 3) := by decide +kernel
theorem dX3_withOneMore_25 : decode cX3_withOneMore 25 = .ok (.iload_n 2, 1) := by decide +kernel
theorem dX3_withOneMore_26 : decode cX3_withOneMore 26 = .ok (.iload 8, 2) := by decide +kernel
theorem dX3_withOneMore_28 : decode cX3_withOneMore 28 = .ok (.ishr, 1) := by decide +kernel
theorem dX3_withOneMore_29 : decode cX3_withOneMore 29 = .ok (.iconst 1, 1) := by decide +kernel
theorem dX3_withOneMore_30 : decode cX3_withOneMore 30 = .ok (.iand, 1) := by decide +kernel
theorem dX3_withOneMore_31 : decode cX3_withOneMore 31 = .ok (.iconst 1, 1) := by decide +kernel
theorem dX3_withOneMore_32 : decode cX3_withOneMore 32 = .ok (.if_icmp .ne 39, 3) := by decide +kernel
theorem dX3_withOneMore_35 : decode cX3_withOneMore 35 = .ok (.aload_n 0, 1) := by decide +kernel
theorem dX3_withOneMore_36 : decode cX3_withOneMore 36 = .ok (.getfield 11, 3) := by decide +kernel
theorem dX3_withOneMore_39 : decode cX3_withOneMore 39 = .ok (.iload_n 3, 1) := by decide +kernel
theorem dX3_withOneMore_40 : decode cX3_withOneMore 40 = .ok (.iconst 1, 1) := by decide +kernel
theorem dX3_withOneMore_41 : decode cX3_withOneMore 41 = .ok (.iload 8, 2) := by decide +kernel
theorem dX3_withOneMore_43 : decode cX3_withOneMore 43 = .ok (.ishl, 1) := by decide +kernel
theorem dX3_withOneMore_44 : decode cX3_withOneMore 44 = .ok (.ior, 1) := by decide +kernel
theorem dX3_withOneMore_45 : decode cX3_withOneMore 45 = .ok (.laload, 1) := by decide +kernel
theorem dX3_withOneMore_46 : decode cX3_withOneMore 46 = .ok (.ldc2_w 52, 3) := by decide +kernel
theorem dX3_withOneMore_49 : decode cX3_withOneMore 49 = .ok (.ladd, 1) := by decide +kernel
theorem dX3_withOneMore_50 : decode cX3_withOneMore 50 = .ok (.lload 4, 2) := by decide +kernel
theorem dX3_withOneMore_52 : decode cX3_withOneMore 52 = .ok (.ladd, 1) := by decide +kernel
theorem dX3_withOneMore_53 : decode cX3_withOneMore 53 = .ok (.iload_n 1, 1) := by decide +kernel
theorem dX3_withOneMore_54 : decode cX3_withOneMore 54 = .ok (.iload 8, 2) := by decide +kernel
theorem dX3_withOneMore_56 : decode cX3_withOneMore 56 = .ok (.invokestatic 54, 3) := by decide +kernel
theorem dX3_withOneMore_59 : decode cX3_withOneMore 59 = .ok (.ladd, 1) := by decide +kernel
theorem dX3_withOneMore_60 : decode cX3_withOneMore 60 = .ok (.lstore 9, 2) := by decide +kernel
theorem dX3_withOneMore_62 : decode cX3_withOneMore 62 = .ok (.lload 6, 2) := by decide +kernel
theorem dX3_withOneMore_64 : decode cX3_withOneMore 64 = .ok (.lload 9, 2) := by decide +kernel
theorem dX3_withOneMore_66 : decode cX3_withOneMore 66 = .ok (.invokestatic 58, 3) := by decide +kernel
theorem dX3_withOneMore_69 : decode cX3_withOneMore 69 = .ok (.lstore 6, 2) := by decide +kernel
theorem dX3_withOneMore_71 : decode cX3_withOneMore 71 = .ok (.iinc 8 1, 3) := by decide +kernel
theorem dX3_withOneMore_74 : decode cX3_withOneMore 74 = .ok (.goto (-63), 3) := by decide +kernel
theorem dX3_withOneMore_77 : decode cX3_withOneMore 77 = .ok (.lload 6, 2) := by decide +kernel
theorem dX3_withOneMore_79 : decode cX3_withOneMore 79 = .ok (.lreturn, 1) := by decide +kernel
theorem dX3_findPairs_0 : decode cX3_findPairs 0 = .ok (.iconst 1, 1) := by decide +kernel
theorem dX3_findPairs_1 : decode cX3_findPairs 1 = .ok (.aload_n 1, 1) := by decide +kernel
theorem dX3_findPairs_2 : decode cX3_findPairs 2 = .ok (.getfield 27, 3) := by decide +kernel
theorem dX3_findPairs_5 : decode cX3_findPairs 5 = .ok (.ishl, 1) := by decide +kernel
theorem dX3_findPairs_6 : decode cX3_findPairs 6 = .ok (.istore_n 2, 1) := by decide +kernel
theorem dX3_findPairs_7 : decode cX3_findPairs 7 = .ok (.aload_n 0, 1) := by decide +kernel
theorem dX3_findPairs_8 : decode cX3_findPairs 8 = .ok (.getfield 11, 3) := by decide +kernel
theorem dX3_findPairs_11 : decode cX3_findPairs 11 = .ok (.iconst 0, 1) := by decide +kernel
theorem dX3_findPairs_12 : decode cX3_findPairs 12 = .ok (.lconst 0, 1) := by decide +kernel
theorem dX3_findPairs_13 : decode cX3_findPairs 13 = .ok (.lastore, 1) := by decide +kernel
theorem dX3_findPairs_14 : decode cX3_findPairs 14 = .ok (.iconst 1, 1) := by decide +kernel
theorem dX3_findPairs_15 : decode cX3_findPairs 15 = .ok (.istore_n 3, 1) := by decide +kernel
theorem dX3_findPairs_16 : decode cX3_findPairs 16 = .ok (.iload_n 3, 1) := by decide +kernel
theorem dX3_findPairs_17 : decode cX3_findPairs 17 = .ok (.iload_n 2, 1) := by decide +kernel
theorem dX3_findPairs_18 : decode cX3_findPairs 18 = .ok (.if_icmp .ge 21, 3) := by decide +kernel
theorem dX3_findPairs_21 : decode cX3_findPairs 21 = .ok (.aload_n 0, 1) := by decide +kernel
theorem dX3_findPairs_22 : decode cX3_findPairs 22 = .ok (.getfield 11, 3) := by decide +kernel
theorem dX3_findPairs_25 : decode cX3_findPairs 25 = .ok (.iload_n 3, 1) := by decide +kernel
theorem dX3_findPairs_26 : decode cX3_findPairs 26 = .ok (.aload_n 0, 1) := by decide +kernel
theorem dX3_findPairs_27 : decode cX3_findPairs 27 = .ok (.aload_n 1, 1) := by decide +kernel
theorem dX3_findPairs_28 : decode cX3_findPairs 28 = .ok (.iload_n 3, 1) := by decide +kernel
theorem dX3_findPairs_29 : decode cX3_findPairs 29 = .ok (.invokevirtual 64, 3) := by decide +kernel
theorem dX3_findPairs_32 : decode cX3_findPairs 32 = .ok (.lastore, 1) := by decide +kernel
theorem dX3_findPairs_33 : decode cX3_findPairs 33 = .ok (.iinc 3 1, 3) := by decide +kernel
theorem dX3_findPairs_36 : decode cX3_findPairs 36 = .ok (.goto (-20), 3) := by decide +kernel
theorem dX3_findPairs_39 : decode cX3_findPairs 39 = .ok (.aload_n 0, 1) := by decide +kernel
theorem dX3_findPairs_40 : decode cX3_findPairs 40 = .ok (.aload_n 0, 1) := by decide +kernel
theorem dX3_findPairs_41 : decode cX3_findPairs 41 = .ok (.getfield 11, 3) := by decide +kernel
theorem dX3_findPairs_44 : decode cX3_findPairs 44 = .ok (.iload_n 2, 1) := by decide +kernel
theorem dX3_findPairs_45 : decode cX3_findPairs 45 = .ok (.iconst 1, 1) := by decide +kernel
theorem dX3_findPairs_46 : decode cX3_findPairs 46 = .ok (.isub, 1) := by decide +kernel
theorem dX3_findPairs_47 : decode cX3_findPairs 47 = .ok (.laload, 1) := by decide +kernel
theorem dX3_findPairs_48 : decode cX3_findPairs 48 = .ok (.putfield 68, 3) := by decide +kernel
theorem dX3_findPairs_51 : decode cX3_findPairs 51 = .ok (.return_, 1) := by decide +kernel
theorem dX3_firstPaired_0 : decode cX3_firstPaired 0 = .ok (.iload_n 2, 1) := by decide +kernel
theorem dX3_firstPaired_1 : decode cX3_firstPaired 1 = .ok (.invokestatic 71, 3) := by decide +kernel
theorem dX3_firstPaired_4 : decode cX3_firstPaired 4 = .ok (.istore_n 3, 1) := by decide +kernel
theorem dX3_firstPaired_5 : decode cX3_firstPaired 5 = .ok (.iload_n 2, 1) := by decide +kernel
theorem dX3_firstPaired_6 : decode cX3_firstPaired 6 = .ok (.iload_n 2, 1) := by decide +kernel
theorem dX3_firstPaired_7 : decode cX3_firstPaired 7 = .ok (.iconst 1, 1) := by decide +kernel
theorem dX3_firstPaired_8 : decode cX3_firstPaired 8 = .ok (.isub, 1) := by decide +kernel
theorem dX3_firstPaired_9 : decode cX3_firstPaired 9 = .ok (.iand, 1) := by decide +kernel
theorem dX3_firstPaired_10 : decode cX3_firstPaired 10 = .ok (.istore 4, 2) := by decide +kernel
theorem dX3_firstPaired_12 : decode cX3_firstPaired 12 = .ok (.aload_n 0, 1) := by decide +kernel
theorem dX3_firstPaired_13 : decode cX3_firstPaired 13 = .ok (.getfield 11, 3) := by decide +kernel
theorem dX3_firstPaired_16 : decode cX3_firstPaired 16 = .ok (.iload 4, 2) := by decide +kernel
theorem dX3_firstPaired_18 : decode cX3_firstPaired 18 = .ok (.laload, 1) := by decide +kernel
theorem dX3_firstPaired_19 : decode cX3_firstPaired 19 = .ok (.lstore 5, 2) := by decide +kernel
theorem dX3_firstPaired_21 : decode cX3_firstPaired 21 = .ok (.iload_n 3, 1) := by decide +kernel
theorem dX3_firstPaired_22 : decode cX3_firstPaired 22 = .ok (.iconst 1, 1) := by decide +kernel
theorem dX3_firstPaired_23 : decode cX3_firstPaired 23 = .ok (.iadd, 1) := by decide +kernel
theorem dX3_firstPaired_24 : decode cX3_firstPaired 24 = .ok (.istore 7, 2) := by decide +kernel
theorem dX3_firstPaired_26 : decode cX3_firstPaired 26 = .ok (.iload 7, 2) := by decide +kernel
theorem dX3_firstPaired_28 : decode cX3_firstPaired 28 = .ok (.aload_n 1, 1) := by decide +kernel
theorem dX3_firstPaired_29 : decode cX3_firstPaired 29 = .ok (.getfield 27, 3) := by decide +kernel
theorem dX3_firstPaired_32 : decode cX3_firstPaired 32 = .ok (.if_icmp .ge 88, 3) := by decide +kernel
theorem dX3_firstPaired_35 : decode cX3_firstPaired 35 = .ok (.aload_n 1, 1) := by decide +kernel
theorem dX3_firstPaired_36 : decode cX3_firstPaired 36 = .ok (.getfield 76, 3) := by decide +kernel
theorem dX3_firstPaired_39 : decode cX3_firstPaired 39 = .ok (.iload_n 3, 1) := by decide +kernel
theorem dX3_firstPaired_40 : decode cX3_firstPaired 40 = .ok (.iaload, 1) := by decide +kernel
theorem dX3_firstPaired_41 : decode cX3_firstPaired 41 = .ok (.aload_n 1, 1) := by decide +kernel
theorem dX3_firstPaired_42 : decode cX3_firstPaired 42 = .ok (.getfield 76, 3) := by decide +kernel
theorem dX3_firstPaired_45 : decode cX3_firstPaired 45 = .ok (.iload 7, 2) := by decide +kernel
theorem dX3_firstPaired_47 : decode cX3_firstPaired 47 = .ok (.iaload, 1) := by decide +kernel
theorem dX3_firstPaired_48 : decode cX3_firstPaired 48 = .ok (.ixor, 1) := by decide +kernel
theorem dX3_firstPaired_49 : decode cX3_firstPaired 49 = .ok (.istore 8, 2) := by decide +kernel
theorem dX3_firstPaired_51 : decode cX3_firstPaired 51 = .ok (.iload 4, 2) := by decide +kernel
theorem dX3_firstPaired_53 : decode cX3_firstPaired 53 = .ok (.iload 7, 2) := by decide +kernel
theorem dX3_firstPaired_55 : decode cX3_firstPaired 55 = .ok (.ishr, 1) := by decide +kernel
theorem dX3_firstPaired_56 : decode cX3_firstPaired 56 = .ok (.iconst 1, 1) := by decide +kernel
theorem dX3_firstPaired_57 : decode cX3_firstPaired 57 = .ok (.iand, 1) := by decide +kernel
theorem dX3_firstPaired_58 : decode cX3_firstPaired 58 = .ok (.iconst 1, 1) := by decide +kernel
theorem dX3_firstPaired_59 : decode cX3_firstPaired 59 = .ok (.if_icmp .ne 55, 3) := by decide +kernel
theorem dX3_firstPaired_62 : decode cX3_firstPaired 62 = .ok (.iload 8, 2) := by decide +kernel
theorem dX3_firstPaired_64 : decode cX3_firstPaired 64 = .ok (.invokestatic 79, 3) := by decide +kernel
theorem dX3_firstPaired_67 : decode cX3_firstPaired 67 = .ok (.iconst 1, 1) := by decide +kernel
theorem dX3_firstPaired_68 : decode cX3_firstPaired 68 = .ok (.if_icmp .ne 46, 3) := by decide +kernel
theorem dX3_firstPaired_71 : decode cX3_firstPaired 71 = .ok (.aload_n 0, 1) := by decide +kernel
theorem dX3_firstPaired_72 : decode cX3_firstPaired 72 = .ok (.getfield 11, 3) := by decide +kernel
theorem dX3_firstPaired_75 : decode cX3_firstPaired 75 = .ok (.iload 4, 2) := by decide +kernel
theorem dX3_firstPaired_77 : decode cX3_firstPaired 77 = .ok (.iconst 1, 1) := by decide +kernel
theorem dX3_firstPaired_78 : decode cX3_firstPaired 78 = .ok (.iload 7, 2) := by decide +kernel
theorem dX3_firstPaired_80 : decode cX3_firstPaired 80 = .ok (.ishl, 1) := by decide +kernel
theorem dX3_firstPaired_81 : decode cX3_firstPaired 81 = .ok (.iconst (-1), 1) := by decide +kernel
theorem dX3_firstPaired_82 : decode cX3_firstPaired 82 = .ok (.ixor, 1) := by decide +kernel
theorem dX3_firstPaired_83 : decode cX3_firstPaired 83 = .ok (.iand, 1) := by decide +kernel
theorem dX3_firstPaired_84 : decode cX3_firstPaired 84 = .ok (.laload, 1) := by decide +kernel
theorem dX3_firstPaired_85 : decode cX3_firstPaired 85 = .ok (.ldc2_w 52, 3) := by decide +kernel
theorem dX3_firstPaired_88 : decode cX3_firstPaired 88 = .ok (.ladd, 1) := by decide +kernel
theorem dX3_firstPaired_89 : decode cX3_firstPaired 89 = .ok (.iload_n 3, 1) := by decide +kernel
theorem dX3_firstPaired_90 : decode cX3_firstPaired 90 = .ok (.iload 7, 2) := by decide +kernel
theorem dX3_firstPaired_92 : decode cX3_firstPaired 92 = .ok (.invokestatic 54, 3) := by decide +kernel
theorem dX3_firstPaired_95 : decode cX3_firstPaired 95 = .ok (.ladd, 1) := by decide +kernel
theorem dX3_firstPaired_96 : decode cX3_firstPaired 96 = .ok (.iload 7, 2) := by decide +kernel
theorem dX3_firstPaired_98 : decode cX3_firstPaired 98 = .ok (.iload_n 3, 1) := by decide +kernel
theorem dX3_firstPaired_99 : decode cX3_firstPaired 99 = .ok (.invokestatic 54, 3) := by decide +kernel
theorem dX3_firstPaired_102 : decode cX3_firstPaired 102 = .ok (.ladd, 1) := by decide +kernel
theorem dX3_firstPaired_103 : decode cX3_firstPaired 103 = .ok (.lstore 9, 2) := by decide +kernel
theorem dX3_firstPaired_105 : decode cX3_firstPaired 105 = .ok (.lload 5, 2) := by decide +kernel
theorem dX3_firstPaired_107 : decode cX3_firstPaired 107 = .ok (.lload 9, 2) := by decide +kernel
theorem dX3_firstPaired_109 : decode cX3_firstPaired 109 = .ok (.invokestatic 58, 3) := by decide +kernel
theorem dX3_firstPaired_112 : decode cX3_firstPaired 112 = .ok (.lstore 5, 2) := by decide +kernel
theorem dX3_firstPaired_114 : decode cX3_firstPaired 114 = .ok (.iinc 7 1, 3) := by decide +kernel
theorem dX3_firstPaired_117 : decode cX3_firstPaired 117 = .ok (.goto (-91), 3) := by decide +kernel
theorem dX3_firstPaired_120 : decode cX3_firstPaired 120 = .ok (.lload 5, 2) := by decide +kernel
theorem dX3_firstPaired_122 : decode cX3_firstPaired 122 = .ok (.lreturn, 1) := by decide +kernel
theorem dX4_init_0 : decode cX4_init 0 = .ok (.aload_n 0, 1) := by decide +kernel
theorem dX4_init_1 : decode cX4_init 1 = .ok (.invokespecial 5, 3) := by decide +kernel
theorem dX4_init_4 : decode cX4_init 4 = .ok (.aload_n 0, 1) := by decide +kernel
theorem dX4_init_5 : decode cX4_init 5 = .ok (.bipush 40, 2) := by decide +kernel
theorem dX4_init_7 : decode cX4_init 7 = .ok (.newarray .int, 2) := by decide +kernel
theorem dX4_init_9 : decode cX4_init 9 = .ok (.putfield 11, 3) := by decide +kernel
theorem dX4_init_12 : decode cX4_init 12 = .ok (.aload_n 0, 1) := by decide +kernel
theorem dX4_init_13 : decode cX4_init 13 = .ok (.bipush 52, 2) := by decide +kernel
theorem dX4_init_15 : decode cX4_init 15 = .ok (.newarray .int, 2) := by decide +kernel
theorem dX4_init_17 : decode cX4_init 17 = .ok (.putfield 15, 3) := by decide +kernel
theorem dX4_init_20 : decode cX4_init 20 = .ok (.aload_n 0, 1) := by decide +kernel
theorem dX4_init_21 : decode cX4_init 21 = .ok (.bipush 8, 2) := by decide +kernel
theorem dX4_init_23 : decode cX4_init 23 = .ok (.newarray .int, 2) := by decide +kernel
theorem dX4_init_25 : decode cX4_init 25 = .ok (.putfield 18, 3) := by decide +kernel
theorem dX4_init_28 : decode cX4_init 28 = .ok (.aload_n 0, 1) := by decide +kernel
theorem dX4_init_29 : decode cX4_init 29 = .ok (.bipush 8, 2) := by decide +kernel
theorem dX4_init_31 : decode cX4_init 31 = .ok (.newarray .int, 2) := by decide +kernel
theorem dX4_init_33 : decode cX4_init 33 = .ok (.putfield 21, 3) := by decide +kernel
theorem dX4_init_36 : decode cX4_init 36 = .ok (.aload_n 0, 1) := by decide +kernel
theorem dX4_init_37 : decode cX4_init 37 = .ok (.bipush 40, 2) := by decide +kernel
theorem dX4_init_39 : decode cX4_init 39 = .ok (.newarray .int, 2) := by decide +kernel
theorem dX4_init_41 : decode cX4_init 41 = .ok (.putfield 24, 3) := by decide +kernel
theorem dX4_init_44 : decode cX4_init 44 = .ok (.aload_n 0, 1) := by decide +kernel
theorem dX4_init_45 : decode cX4_init 45 = .ok (.bipush 40, 2) := by decide +kernel
theorem dX4_init_47 : decode cX4_init 47 = .ok (.newarray .int, 2) := by decide +kernel
theorem dX4_init_49 : decode cX4_init 49 = .ok (.putfield 27, 3) := by decide +kernel
theorem dX4_init_52 : decode cX4_init 52 = .ok (.aload_n 0, 1) := by decide +kernel
theorem dX4_init_53 : decode cX4_init 53 = .ok (.bipush 40, 2) := by decide +kernel
theorem dX4_init_55 : decode cX4_init 55 = .ok (.newarray .int, 2) := by decide +kernel
theorem dX4_init_57 : decode cX4_init 57 = .ok (.putfield 30, 3) := by decide +kernel
theorem dX4_init_60 : decode cX4_init 60 = .ok (.aload_n 0, 1) := by decide +kernel
theorem dX4_init_61 : decode cX4_init 61 = .ok (.bipush 40, 2) := by decide +kernel
theorem dX4_init_63 : decode cX4_init 63 = .ok (.newarray .int, 2) := by decide +kernel
theorem dX4_init_65 : decode cX4_init 65 = .ok (.putfield 33, 3) := by decide +kernel
theorem dX4_init_68 : decode cX4_init 68 = .ok (.aload_n 0, 1) := by decide +kernel
theorem dX4_init_69 : decode cX4_init 69 = .ok (.bipush 8, 2) := by decide +kernel
theorem dX4_init_71 : decode cX4_init 71 = .ok (.newarray .int, 2) := by decide +kernel
theorem dX4_init_73 : decode cX4_init 73 = .ok (.putfield 36, 3) := by decide +kernel
theorem dX4_init_76 : decode cX4_init 76 = .ok (.aload_n 0, 1) := by decide +kernel
theorem dX4_init_77 : decode cX4_init 77 = .ok (.bipush 8, 2) := by decide +kernel
theorem dX4_init_79 : decode cX4_init 79 = .ok (.newarray .int, 2) := by decide +kernel
theorem dX4_init_81 : decode cX4_init 81 = .ok (.putfield 39, 3) := by decide +kernel
theorem dX4_init_84 : decode cX4_init 84 = .ok (.aload_n 0, 1) := by decide +kernel
theorem dX4_init_85 : decode cX4_init 85 = .ok (.aload_n 1, 1) := by decide +kernel
theorem dX4_init_86 : decode cX4_init 86 = .ok (.putfield 42, 3) := by decide +kernel
theorem dX4_init_89 : decode cX4_init 89 = .ok (.return_, 1) := by decide +kernel
theorem dX4_load_0 : decode cX4_load 0 = .ok (.aload_n 0, 1) := by decide +kernel
theorem dX4_load_1 : decode cX4_load 1 = .ok (.getfield 11, 3) := by decide +kernel
theorem dX4_load_4 : decode cX4_load 4 = .ok (.iconst 0, 1) := by decide +kernel
theorem dX4_load_5 : decode cX4_load 5 = .ok (.invokestatic 46, 3) := by decide +kernel
theorem dX4_load_8 : decode cX4_load 8 = .ok (.aload_n 0, 1) := by decide +kernel
theorem dX4_load_9 : decode cX4_load 9 = .ok (.iconst 0, 1) := by decide +kernel
theorem dX4_load_10 : decode cX4_load 10 = .ok (.putfield 52, 3) := by decide +kernel
theorem dX4_load_13 : decode cX4_load 13 = .ok (.iconst 0, 1) := by decide +kernel
theorem dX4_load_14 : decode cX4_load 14 = .ok (.istore_n 3, 1) := by decide +kernel
theorem dX4_load_15 : decode cX4_load 15 = .ok (.iload_n 3, 1) := by decide +kernel
theorem dX4_load_16 : decode cX4_load 16 = .ok (.aload_n 0, 1) := by decide +kernel
theorem dX4_load_17 : decode cX4_load 17 = .ok (.getfield 42, 3) := by decide +kernel
theorem dX4_load_20 : decode cX4_load 20 = .ok (.getfield 56, 3) := by decide +kernel
theorem dX4_load_23 : decode cX4_load 23 = .ok (.getfield 62, 3) := by decide +kernel
theorem dX4_load_26 : decode cX4_load 26 = .ok (.if_icmp .ge 50, 3) := by decide +kernel
theorem dX4_load_29 : decode cX4_load 29 = .ok (.aload_n 0, 1) := by decide +kernel
theorem dX4_load_30 : decode cX4_load 30 = .ok (.getfield 18, 3) := by decide +kernel
theorem dX4_load_33 : decode cX4_load 33 = .ok (.iload_n 3, 1) := by decide +kernel
theorem dX4_load_34 : decode cX4_load 34 = .ok (.aload_n 0, 1) := by decide +kernel
theorem dX4_load_35 : decode cX4_load 35 = .ok (.getfield 42, 3) := by decide +kernel
theorem dX4_load_38 : decode cX4_load 38 = .ok (.iload_n 3, 1) := by decide +kernel
theorem dX4_load_39 : decode cX4_load 39 = .ok (.invokevirtual 67, 3) := by decide +kernel
theorem dX4_load_42 : decode cX4_load 42 = .ok (.iastore, 1) := by decide +kernel
theorem dX4_load_43 : decode cX4_load 43 = .ok (.aload_n 0, 1) := by decide +kernel
theorem dX4_load_44 : decode cX4_load 44 = .ok (.getfield 21, 3) := by decide +kernel
theorem dX4_load_47 : decode cX4_load 47 = .ok (.iload_n 3, 1) := by decide +kernel
theorem dX4_load_48 : decode cX4_load 48 = .ok (.aload_n 0, 1) := by decide +kernel
theorem dX4_load_49 : decode cX4_load 49 = .ok (.getfield 42, 3) := by decide +kernel
theorem dX4_load_52 : decode cX4_load 52 = .ok (.iload_n 3, 1) := by decide +kernel
theorem dX4_load_53 : decode cX4_load 53 = .ok (.invokevirtual 71, 3) := by decide +kernel
theorem dX4_load_56 : decode cX4_load 56 = .ok (.ifCond .eq 12, 3) := by decide +kernel
theorem dX4_load_59 : decode cX4_load 59 = .ok (.aload_n 0, 1) := by decide +kernel
theorem dX4_load_60 : decode cX4_load 60 = .ok (.getfield 18, 3) := by decide +kernel
theorem dX4_load_63 : decode cX4_load 63 = .ok (.iload_n 3, 1) := by decide +kernel
theorem dX4_load_64 : decode cX4_load 64 = .ok (.iaload, 1) := by decide +kernel
theorem dX4_load_65 : decode cX4_load 65 = .ok (.goto 4, 3) := by decide +kernel
theorem dX4_load_68 : decode cX4_load 68 = .ok (.iconst 0, 1) := by decide +kernel
theorem dX4_load_69 : decode cX4_load 69 = .ok (.iastore, 1) := by decide +kernel
theorem dX4_load_70 : decode cX4_load 70 = .ok (.iinc 3 1, 3) := by decide +kernel
theorem dX4_load_73 : decode cX4_load 73 = .ok (.goto (-58), 3) := by decide +kernel
theorem dX4_load_76 : decode cX4_load 76 = .ok (.iconst 0, 1) := by decide +kernel
theorem dX4_load_77 : decode cX4_load 77 = .ok (.istore_n 3, 1) := by decide +kernel
theorem dX4_load_78 : decode cX4_load 78 = .ok (.iload_n 3, 1) := by decide +kernel
theorem dX4_load_79 : decode cX4_load 79 = .ok (.aload_n 1, 1) := by decide +kernel
theorem dX4_load_80 : decode cX4_load 80 = .ok (.getfield 75, 3) := by decide +kernel
theorem dX4_load_83 : decode cX4_load 83 = .ok (.if_icmp .ge 25, 3) := by decide +kernel
theorem dX4_load_86 : decode cX4_load 86 = .ok (.aload_n 0, 1) := by decide +kernel
theorem dX4_load_87 : decode cX4_load 87 = .ok (.aload_n 1, 1) := by decide +kernel
theorem dX4_load_88 : decode cX4_load 88 = .ok (.getfield 80, 3) := by decide +kernel
theorem dX4_load_91 : decode cX4_load 91 = .ok (.iload_n 3, 1) := by decide +kernel
theorem dX4_load_92 : decode cX4_load 92 = .ok (.iaload, 1) := by decide +kernel
theorem dX4_load_93 : decode cX4_load 93 = .ok (.aload_n 1, 1) := by decide +kernel
theorem dX4_load_94 : decode cX4_load 94 = .ok (.getfield 83, 3) := by decide +kernel
theorem dX4_load_97 : decode cX4_load 97 = .ok (.iload_n 3, 1) := by decide +kernel
theorem dX4_load_98 : decode cX4_load 98 = .ok (.iaload, 1) := by decide +kernel
theorem dX4_load_99 : decode cX4_load 99 = .ok (.invokevirtual 86, 3) := by decide +kernel
theorem dX4_load_102 : decode cX4_load 102 = .ok (.iinc 3 1, 3) := by decide +kernel
theorem dX4_load_105 : decode cX4_load 105 = .ok (.goto (-27), 3) := by decide +kernel
theorem dX4_load_108 : decode cX4_load 108 = .ok (.iconst 0, 1) := by decide +kernel
theorem dX4_load_109 : decode cX4_load 109 = .ok (.istore_n 3, 1) := by decide +kernel
theorem dX4_load_110 : decode cX4_load 110 = .ok (.iload_n 3, 1) := by decide +kernel
theorem dX4_load_111 : decode cX4_load 111 = .ok (.aload_n 2, 1) := by decide +kernel
theorem dX4_load_112 : decode cX4_load 112 = .ok (.getfield 75, 3) := by decide +kernel
theorem dX4_load_115 : decode cX4_load 115 = .ok (.if_icmp .ge 26, 3) := by decide +kernel
theorem dX4_load_118 : decode cX4_load 118 = .ok (.aload_n 0, 1) := by decide +kernel
theorem dX4_load_119 : decode cX4_load 119 = .ok (.aload_n 2, 1) := by decide +kernel
theorem dX4_load_120 : decode cX4_load 120 = .ok (.getfield 80, 3) := by decide +kernel
theorem dX4_load_123 : decode cX4_load 123 = .ok (.iload_n 3, 1) := by decide +kernel
theorem dX4_load_124 : decode cX4_load 124 = .ok (.iaload, 1) := by decide +kernel
theorem dX4_load_125 : decode cX4_load 125 = .ok (.aload_n 2, 1) := by decide +kernel
theorem dX4_load_126 : decode cX4_load 126 = .ok (.getfield 83, 3) := by decide +kernel
theorem dX4_load_129 : decode cX4_load 129 = .ok (.iload_n 3, 1) := by decide +kernel
theorem dX4_load_130 : decode cX4_load 130 = .ok (.iaload, 1) := by decide +kernel
theorem dX4_load_131 : decode cX4_load 131 = .ok (.iload_n 3, 1) := by decide +kernel
theorem dX4_load_132 : decode cX4_load 132 = .ok (.invokevirtual 90, 3) := by decide +kernel
theorem dX4_load_135 : decode cX4_load 135 = .ok (.iinc 3 1, 3) := by decide +kernel
theorem dX4_load_138 : decode cX4_load 138 = .ok (.goto (-28), 3) := by decide +kernel
theorem dX4_load_141 : decode cX4_load 141 = .ok (.return_, 1) := by decide +kernel
theorem dX4_hand_0 : decode cX4_hand 0 = .ok (.iload_n 2, 1) := by decide +kernel
theorem dX4_hand_1 : decode cX4_hand 1 = .ok (.aload_n 0, 1) := by decide +kernel
theorem dX4_hand_2 : decode cX4_hand 2 = .ok (.getfield 42, 3) := by decide +kernel
theorem dX4_hand_5 : decode cX4_hand 5 = .ok (.getfield 94, 3) := by decide +kernel
theorem dX4_hand_8 : decode cX4_hand 8 = .ok (.getfield 62, 3) := by decide +kernel
theorem dX4_hand_11 : decode cX4_hand 11 = .ok (.if_icmp .ge 15, 3) := by decide +kernel
theorem dX4_hand_14 : decode cX4_hand 14 = .ok (.aload_n 0, 1) := by decide +kernel
theorem dX4_hand_15 : decode cX4_hand 15 = .ok (.getfield 11, 3) := by decide +kernel
theorem dX4_hand_18 : decode cX4_hand 18 = .ok (.iload_n 1, 1) := by decide +kernel
theorem dX4_hand_19 : decode cX4_hand 19 = .ok (.dup2, 1) := by decide +kernel
theorem dX4_hand_20 : decode cX4_hand 20 = .ok (.iaload, 1) := by decide +kernel
theorem dX4_hand_21 : decode cX4_hand 21 = .ok (.iconst 1, 1) := by decide +kernel
theorem dX4_hand_22 : decode cX4_hand 22 = .ok (.iload_n 2, 1) := by decide +kernel
theorem dX4_hand_23 : decode cX4_hand 23 = .ok (.ishl, 1) := by decide +kernel
theorem dX4_hand_24 : decode cX4_hand 24 = .ok (.ior, 1) := by decide +kernel
theorem dX4_hand_25 : decode cX4_hand 25 = .ok (.iastore, 1) := by decide +kernel
theorem dX4_hand_26 : decode cX4_hand 26 = .ok (.return_, 1) := by decide +kernel
theorem dX4_come_0 : decode cX4_come 0 = .ok (.iload_n 2, 1) := by decide +kernel
theorem dX4_come_1 : decode cX4_come 1 = .ok (.aload_n 0, 1) := by decide +kernel
theorem dX4_come_2 : decode cX4_come 2 = .ok (.getfield 42, 3) := by decide +kernel
theorem dX4_come_5 : decode cX4_come 5 = .ok (.getfield 56, 3) := by decide +kernel
theorem dX4_come_8 : decode cX4_come 8 = .ok (.getfield 62, 3) := by decide +kernel
theorem dX4_come_11 : decode cX4_come 11 = .ok (.if_icmp .ge 15, 3) := by decide +kernel
theorem dX4_come_14 : decode cX4_come 14 = .ok (.aload_n 0, 1) := by decide +kernel
theorem dX4_come_15 : decode cX4_come 15 = .ok (.getfield 52, 3) := by decide +kernel
theorem dX4_come_18 : decode cX4_come 18 = .ok (.aload_n 0, 1) := by decide +kernel
theorem dX4_come_19 : decode cX4_come 19 = .ok (.getfield 15, 3) := by decide +kernel
theorem dX4_come_22 : decode cX4_come 22 = .ok (.arraylength, 1) := by decide +kernel
theorem dX4_come_23 : decode cX4_come 23 = .ok (.if_icmp .lt 4, 3) := by decide +kernel
theorem dX4_come_26 : decode cX4_come 26 = .ok (.return_, 1) := by decide +kernel
theorem dX4_come_27 : decode cX4_come 27 = .ok (.aload_n 0, 1) := by decide +kernel
theorem dX4_come_28 : decode cX4_come 28 = .ok (.getfield 42, 3) := by decide +kernel
theorem dX4_come_31 : decode cX4_come 31 = .ok (.getfield 56, 3) := by decide +kernel
theorem dX4_come_34 : decode cX4_come 34 = .ok (.getfield 97, 3) := by decide +kernel
theorem dX4_come_37 : decode cX4_come 37 = .ok (.iload_n 2, 1) := by decide +kernel
theorem dX4_come_38 : decode cX4_come 38 = .ok (.iaload, 1) := by decide +kernel
theorem dX4_come_39 : decode cX4_come 39 = .ok (.istore 4, 2) := by decide +kernel
theorem dX4_come_41 : decode cX4_come 41 = .ok (.iload_n 1, 1) := by decide +kernel
theorem dX4_come_42 : decode cX4_come 42 = .ok (.sipush 5120, 3) := by decide +kernel
theorem dX4_come_45 : decode cX4_come 45 = .ok (.imul, 1) := by decide +kernel
theorem dX4_come_46 : decode cX4_come 46 = .ok (.iload 4, 2) := by decide +kernel
theorem dX4_come_48 : decode cX4_come 48 = .ok (.sipush 512, 3) := by decide +kernel
theorem dX4_come_51 : decode cX4_come 51 = .ok (.imul, 1) := by decide +kernel
theorem dX4_come_52 : decode cX4_come 52 = .ok (.iadd, 1) := by decide +kernel
theorem dX4_come_53 : decode cX4_come 53 = .ok (.iload_n 3, 1) := by decide +kernel
theorem dX4_come_54 : decode cX4_come 54 = .ok (.bipush 8, 2) := by decide +kernel
theorem dX4_come_56 : decode cX4_come 56 = .ok (.imul, 1) := by decide +kernel
theorem dX4_come_57 : decode cX4_come 57 = .ok (.iadd, 1) := by decide +kernel
theorem dX4_come_58 : decode cX4_come 58 = .ok (.iload_n 2, 1) := by decide +kernel
theorem dX4_come_59 : decode cX4_come 59 = .ok (.iadd, 1) := by decide +kernel
theorem dX4_come_60 : decode cX4_come 60 = .ok (.istore 5, 2) := by decide +kernel
theorem dX4_come_62 : decode cX4_come 62 = .ok (.aload_n 0, 1) := by decide +kernel
theorem dX4_come_63 : decode cX4_come 63 = .ok (.getfield 52, 3) := by decide +kernel
theorem dX4_come_66 : decode cX4_come 66 = .ok (.istore 6, 2) := by decide +kernel
theorem dX4_come_68 : decode cX4_come 68 = .ok (.iload 6, 2) := by decide +kernel
theorem dX4_come_70 : decode cX4_come 70 = .ok (.ifCond .le 39, 3) := by decide +kernel
theorem dX4_come_73 : decode cX4_come 73 = .ok (.aload_n 0, 1) := by decide +kernel
theorem dX4_come_74 : decode cX4_come 74 = .ok (.getfield 15, 3) := by decide +kernel
theorem dX4_come_77 : decode cX4_come 77 = .ok (.iload 6, 2) := by decide +kernel
theorem dX4_come_79 : decode cX4_come 79 = .ok (.iconst 1, 1) := by decide +kernel
theorem dX4_come_80 : decode cX4_come 80 = .ok (.isub, 1) := by decide +kernel
theorem dX4_come_81 : decode cX4_come 81 = .ok (.iaload, 1) := by decide +kernel
theorem dX4_come_82 : decode cX4_come 82 = .ok (.iload 5, 2) := by decide +kernel
theorem dX4_come_84 : decode cX4_come 84 = .ok (.if_icmp .le 25, 3) := by decide +kernel
theorem dX4_come_87 : decode cX4_come 87 = .ok (.aload_n 0, 1) := by decide +kernel
theorem dX4_come_88 : decode cX4_come 88 = .ok (.getfield 15, 3) := by decide +kernel
theorem dX4_come_91 : decode cX4_come 91 = .ok (.iload 6, 2) := by decide +kernel
theorem dX4_come_93 : decode cX4_come 93 = .ok (.aload_n 0, 1) := by decide +kernel
theorem dX4_come_94 : decode cX4_come 94 = .ok (.getfield 15, 3) := by decide +kernel
theorem dX4_come_97 : decode cX4_come 97 = .ok (.iload 6, 2) := by decide +kernel
theorem dX4_come_99 : decode cX4_come 99 = .ok (.iconst 1, 1) := by decide +kernel
theorem dX4_come_100 : decode cX4_come 100 = .ok (.isub, 1) := by decide +kernel
theorem dX4_come_101 : decode cX4_come 101 = .ok (.iaload, 1) := by decide +kernel
theorem dX4_come_102 : decode cX4_come 102 = .ok (.iastore, 1) := by decide +kernel
theorem dX4_come_103 : decode cX4_come 103 = .ok (.iinc 6 (-1), 3) := by decide +kernel
theorem dX4_come_106 : decode cX4_come 106 = .ok (.goto (-38), 3) := by decide +kernel
theorem dX4_come_109 : decode cX4_come 109 = .ok (.aload_n 0, 1) := by decide +kernel
theorem dX4_come_110 : decode cX4_come 110 = .ok (.getfield 15, 3) := by decide +kernel
theorem dX4_come_113 : decode cX4_come 113 = .ok (.iload 6, 2) := by decide +kernel
theorem dX4_come_115 : decode cX4_come 115 = .ok (.iload 5, 2) := by decide +kernel
theorem dX4_come_117 : decode cX4_come 117 = .ok (.iastore, 1) := by decide +kernel
theorem dX4_come_118 : decode cX4_come 118 = .ok (.aload_n 0, 1) := by decide +kernel
theorem dX4_come_119 : decode cX4_come 119 = .ok (.dup, 1) := by decide +kernel
theorem dX4_come_120 : decode cX4_come 120 = .ok (.getfield 52, 3) := by decide +kernel
theorem dX4_come_123 : decode cX4_come 123 = .ok (.iconst 1, 1) := by decide +kernel
theorem dX4_come_124 : decode cX4_come 124 = .ok (.iadd, 1) := by decide +kernel
theorem dX4_come_125 : decode cX4_come 125 = .ok (.putfield 52, 3) := by decide +kernel
theorem dX4_come_128 : decode cX4_come 128 = .ok (.return_, 1) := by decide +kernel
theorem dX4_play_0 : decode cX4_play 0 = .ok (.aload_n 0, 1) := by decide +kernel
theorem dX4_play_1 : decode cX4_play 1 = .ok (.invokevirtual 100, 3) := by decide +kernel
theorem dX4_play_4 : decode cX4_play 4 = .ok (.iconst 0, 1) := by decide +kernel
theorem dX4_play_5 : decode cX4_play 5 = .ok (.istore_n 2, 1) := by decide +kernel
theorem dX4_play_6 : decode cX4_play 6 = .ok (.iconst 0, 1) := by decide +kernel
theorem dX4_play_7 : decode cX4_play 7 = .ok (.istore_n 3, 1) := by decide +kernel
theorem dX4_play_8 : decode cX4_play 8 = .ok (.iload_n 3, 1) := by decide +kernel
theorem dX4_play_9 : decode cX4_play 9 = .ok (.iload_n 1, 1) := by decide +kernel
theorem dX4_play_10 : decode cX4_play 10 = .ok (.if_icmp .gt 94, 3) := by decide +kernel
theorem dX4_play_13 : decode cX4_play 13 = .ok (.iload_n 3, 1) := by decide +kernel
theorem dX4_play_14 : decode cX4_play 14 = .ok (.bipush 40, 2) := by decide +kernel
theorem dX4_play_16 : decode cX4_play 16 = .ok (.if_icmp .ge 88, 3) := by decide +kernel
theorem dX4_play_19 : decode cX4_play 19 = .ok (.aload_n 0, 1) := by decide +kernel
theorem dX4_play_20 : decode cX4_play 20 = .ok (.iload_n 3, 1) := by decide +kernel
theorem dX4_play_21 : decode cX4_play 21 = .ok (.invokevirtual 103, 3) := by decide +kernel
theorem dX4_play_24 : decode cX4_play 24 = .ok (.iload_n 2, 1) := by decide +kernel
theorem dX4_play_25 : decode cX4_play 25 = .ok (.aload_n 0, 1) := by decide +kernel
theorem dX4_play_26 : decode cX4_play 26 = .ok (.getfield 52, 3) := by decide +kernel
theorem dX4_play_29 : decode cX4_play 29 = .ok (.if_icmp .ge 34, 3) := by decide +kernel
theorem dX4_play_32 : decode cX4_play 32 = .ok (.aload_n 0, 1) := by decide +kernel
theorem dX4_play_33 : decode cX4_play 33 = .ok (.getfield 15, 3) := by decide +kernel
theorem dX4_play_36 : decode cX4_play 36 = .ok (.iload_n 2, 1) := by decide +kernel
theorem dX4_play_37 : decode cX4_play 37 = .ok (.iaload, 1) := by decide +kernel
theorem dX4_play_38 : decode cX4_play 38 = .ok (.sipush 5120, 3) := by decide +kernel
theorem dX4_play_41 : decode cX4_play 41 = .ok (.idiv, 1) := by decide +kernel
theorem dX4_play_42 : decode cX4_play 42 = .ok (.iload_n 3, 1) := by decide +kernel
theorem dX4_play_43 : decode cX4_play 43 = .ok (.if_icmp .ne 20, 3) := by decide +kernel
theorem dX4_play_46 : decode cX4_play 46 = .ok (.aload_n 0, 1) := by decide +kernel
theorem dX4_play_47 : decode cX4_play 47 = .ok (.iload_n 3, 1) := by decide +kernel
theorem dX4_play_48 : decode cX4_play 48 = .ok (.aload_n 0, 1) := by decide +kernel
theorem dX4_play_49 : decode cX4_play 49 = .ok (.getfield 15, 3) := by decide +kernel
theorem dX4_play_52 : decode cX4_play 52 = .ok (.iload_n 2, 1) := by decide +kernel
theorem dX4_play_53 : decode cX4_play 53 = .ok (.iaload, 1) := by decide +kernel
theorem dX4_play_54 : decode cX4_play 54 = .ok (.invokevirtual 107, 3) := by decide +kernel
theorem dX4_play_57 : decode cX4_play 57 = .ok (.iinc 2 1, 3) := by decide +kernel
theorem dX4_play_60 : decode cX4_play 60 = .ok (.goto (-36), 3) := by decide +kernel
theorem dX4_play_63 : decode cX4_play 63 = .ok (.aload_n 0, 1) := by decide +kernel
theorem dX4_play_64 : decode cX4_play 64 = .ok (.iload_n 3, 1) := by decide +kernel
theorem dX4_play_65 : decode cX4_play 65 = .ok (.invokevirtual 110, 3) := by decide +kernel
theorem dX4_play_68 : decode cX4_play 68 = .ok (.aload_n 0, 1) := by decide +kernel
theorem dX4_play_69 : decode cX4_play 69 = .ok (.getfield 27, 3) := by decide +kernel
theorem dX4_play_72 : decode cX4_play 72 = .ok (.iload_n 3, 1) := by decide +kernel
theorem dX4_play_73 : decode cX4_play 73 = .ok (.aload_n 0, 1) := by decide +kernel
theorem dX4_play_74 : decode cX4_play 74 = .ok (.getfield 113, 3) := by decide +kernel
theorem dX4_play_77 : decode cX4_play 77 = .ok (.iastore, 1) := by decide +kernel
theorem dX4_play_78 : decode cX4_play 78 = .ok (.aload_n 0, 1) := by decide +kernel
theorem dX4_play_79 : decode cX4_play 79 = .ok (.getfield 30, 3) := by decide +kernel
theorem dX4_play_82 : decode cX4_play 82 = .ok (.iload_n 3, 1) := by decide +kernel
theorem dX4_play_83 : decode cX4_play 83 = .ok (.aload_n 0, 1) := by decide +kernel
theorem dX4_play_84 : decode cX4_play 84 = .ok (.getfield 116, 3) := by decide +kernel
theorem dX4_play_87 : decode cX4_play 87 = .ok (.iastore, 1) := by decide +kernel
theorem dX4_play_88 : decode cX4_play 88 = .ok (.aload_n 0, 1) := by decide +kernel
theorem dX4_play_89 : decode cX4_play 89 = .ok (.getfield 33, 3) := by decide +kernel
theorem dX4_play_92 : decode cX4_play 92 = .ok (.iload_n 3, 1) := by decide +kernel
theorem dX4_play_93 : decode cX4_play 93 = .ok (.aload_n 0, 1) := by decide +kernel
theorem dX4_play_94 : decode cX4_play 94 = .ok (.getfield 119, 3) := by decide +kernel
theorem dX4_play_97 : decode cX4_play 97 = .ok (.iastore, 1) := by decide +kernel
theorem dX4_play_98 : decode cX4_play 98 = .ok (.iinc 3 1, 3) := by decide +kernel
theorem dX4_play_101 : decode cX4_play 101 = .ok (.goto (-93), 3) := by decide +kernel
theorem dX4_play_104 : decode cX4_play 104 = .ok (.return_, 1) := by decide +kernel
theorem dX4_begin_0 : decode cX4_begin 0 = .ok (.aload_n 0, 1) := by decide +kernel
theorem dX4_begin_1 : decode cX4_begin 1 = .ok (.getfield 36, 3) := by decide +kernel
theorem dX4_begin_4 : decode cX4_begin 4 = .ok (.iconst (-1), 1) := by decide +kernel
theorem dX4_begin_5 : decode cX4_begin 5 = .ok (.invokestatic 46, 3) := by decide +kernel
theorem dX4_begin_8 : decode cX4_begin 8 = .ok (.aload_n 0, 1) := by decide +kernel
theorem dX4_begin_9 : decode cX4_begin 9 = .ok (.getfield 39, 3) := by decide +kernel
theorem dX4_begin_12 : decode cX4_begin 12 = .ok (.iconst (-1), 1) := by decide +kernel
theorem dX4_begin_13 : decode cX4_begin 13 = .ok (.invokestatic 46, 3) := by decide +kernel
theorem dX4_begin_16 : decode cX4_begin 16 = .ok (.aload_n 0, 1) := by decide +kernel
theorem dX4_begin_17 : decode cX4_begin 17 = .ok (.iconst 0, 1) := by decide +kernel
theorem dX4_begin_18 : decode cX4_begin 18 = .ok (.putfield 113, 3) := by decide +kernel
theorem dX4_begin_21 : decode cX4_begin 21 = .ok (.aload_n 0, 1) := by decide +kernel
theorem dX4_begin_22 : decode cX4_begin 22 = .ok (.iconst 0, 1) := by decide +kernel
theorem dX4_begin_23 : decode cX4_begin 23 = .ok (.putfield 116, 3) := by decide +kernel
theorem dX4_begin_26 : decode cX4_begin 26 = .ok (.aload_n 0, 1) := by decide +kernel
theorem dX4_begin_27 : decode cX4_begin 27 = .ok (.iconst 0, 1) := by decide +kernel
theorem dX4_begin_28 : decode cX4_begin 28 = .ok (.putfield 119, 3) := by decide +kernel
theorem dX4_begin_31 : decode cX4_begin 31 = .ok (.aload_n 0, 1) := by decide +kernel
theorem dX4_begin_32 : decode cX4_begin 32 = .ok (.lconst 0, 1) := by decide +kernel
theorem dX4_begin_33 : decode cX4_begin 33 = .ok (.putfield 122, 3) := by decide +kernel
theorem dX4_begin_36 : decode cX4_begin 36 = .ok (.aload_n 0, 1) := by decide +kernel
theorem dX4_begin_37 : decode cX4_begin 37 = .ok (.iconst (-1), 1) := by decide +kernel
theorem dX4_begin_38 : decode cX4_begin 38 = .ok (.putfield 126, 3) := by decide +kernel
theorem dX4_begin_41 : decode cX4_begin 41 = .ok (.return_, 1) := by decide +kernel
theorem dX4_bringIn_0 : decode cX4_bringIn 0 = .ok (.aload_n 0, 1) := by decide +kernel
theorem dX4_bringIn_1 : decode cX4_bringIn 1 = .ok (.getfield 113, 3) := by decide +kernel
theorem dX4_bringIn_4 : decode cX4_bringIn 4 = .ok (.aload_n 0, 1) := by decide +kernel
theorem dX4_bringIn_5 : decode cX4_bringIn 5 = .ok (.getfield 116, 3) := by decide +kernel
theorem dX4_bringIn_8 : decode cX4_bringIn 8 = .ok (.ior, 1) := by decide +kernel
theorem dX4_bringIn_9 : decode cX4_bringIn 9 = .ok (.aload_n 0, 1) := by decide +kernel
theorem dX4_bringIn_10 : decode cX4_bringIn 10 = .ok (.getfield 119, 3) := by decide +kernel
theorem dX4_bringIn_13 : decode cX4_bringIn 13 = .ok (.ior, 1) := by decide +kernel
theorem dX4_bringIn_14 : decode cX4_bringIn 14 = .ok (.istore_n 2, 1) := by decide +kernel
theorem dX4_bringIn_15 : decode cX4_bringIn 15 = .ok (.aload_n 0, 1) := by decide +kernel
theorem dX4_bringIn_16 : decode cX4_bringIn 16 = .ok (.getfield 24, 3) := by decide +kernel
theorem dX4_bringIn_19 : decode cX4_bringIn 19 = .ok (.iload_n 1, 1) := by decide +kernel
theorem dX4_bringIn_20 : decode cX4_bringIn 20 = .ok (.aload_n 0, 1) := by decide +kernel
theorem dX4_bringIn_21 : decode cX4_bringIn 21 = .ok (.getfield 11, 3) := by decide +kernel
theorem dX4_bringIn_24 : decode cX4_bringIn 24 = .ok (.iload_n 1, 1) := by decide +kernel
theorem dX4_bringIn_25 : decode cX4_bringIn 25 = .ok (.iaload, 1) := by decide +kernel
theorem dX4_bringIn_26 : decode cX4_bringIn 26 = .ok (.iload_n 2, 1) := by decide +kernel
theorem dX4_bringIn_27 : decode cX4_bringIn 27 = .ok (.iconst (-1), 1) := by decide +kernel
theorem dX4_bringIn_28 : decode cX4_bringIn 28 = .ok (.ixor, 1) := by decide +kernel
theorem dX4_bringIn_29 : decode cX4_bringIn 29 = .ok (.iand, 1) := by decide +kernel
theorem dX4_bringIn_30 : decode cX4_bringIn 30 = .ok (.iastore, 1) := by decide +kernel
theorem dX4_bringIn_31 : decode cX4_bringIn 31 = .ok (.aload_n 0, 1) := by decide +kernel
theorem dX4_bringIn_32 : decode cX4_bringIn 32 = .ok (.dup, 1) := by decide +kernel
theorem dX4_bringIn_33 : decode cX4_bringIn 33 = .ok (.getfield 113, 3) := by decide +kernel
theorem dX4_bringIn_36 : decode cX4_bringIn 36 = .ok (.aload_n 0, 1) := by decide +kernel
theorem dX4_bringIn_37 : decode cX4_bringIn 37 = .ok (.getfield 24, 3) := by decide +kernel
theorem dX4_bringIn_40 : decode cX4_bringIn 40 = .ok (.iload_n 1, 1) := by decide +kernel
theorem dX4_bringIn_41 : decode cX4_bringIn 41 = .ok (.iaload, 1) := by decide +kernel
theorem dX4_bringIn_42 : decode cX4_bringIn 42 = .ok (.ior, 1) := by decide +kernel
theorem dX4_bringIn_43 : decode cX4_bringIn 43 = .ok (.putfield 113, 3) := by decide +kernel
theorem dX4_bringIn_46 : decode cX4_bringIn 46 = .ok (.return_, 1) := by decide +kernel
theorem dX4_serve_0 : decode cX4_serve 0 = .ok (.iload_n 2, 1) := by decide +kernel
theorem dX4_serve_1 : decode cX4_serve 1 = .ok (.bipush 8, 2) := by decide +kernel
theorem dX4_serve_3 : decode cX4_serve 3 = .ok (.irem, 1) := by decide +kernel
theorem dX4_serve_4 : decode cX4_serve 4 = .ok (.istore_n 3, 1) := by decide +kernel
theorem dX4_serve_5 : decode cX4_serve 5 = .ok (.iload_n 2, 1) := by decide +kernel
theorem dX4_serve_6 : decode cX4_serve 6 = .ok (.sipush 512, 3) := by decide +kernel
theorem dX4_serve_9 : decode cX4_serve 9 = .ok (.irem, 1) := by decide +kernel
theorem dX4_serve_10 : decode cX4_serve 10 = .ok (.bipush 8, 2) := by decide +kernel
theorem dX4_serve_12 : decode cX4_serve 12 = .ok (.idiv, 1) := by decide +kernel
theorem dX4_serve_13 : decode cX4_serve 13 = .ok (.istore 4, 2) := by decide +kernel
theorem dX4_serve_15 : decode cX4_serve 15 = .ok (.aload_n 0, 1) := by decide +kernel
theorem dX4_serve_16 : decode cX4_serve 16 = .ok (.getfield 42, 3) := by decide +kernel
theorem dX4_serve_19 : decode cX4_serve 19 = .ok (.aload_n 0, 1) := by decide +kernel
theorem dX4_serve_20 : decode cX4_serve 20 = .ok (.getfield 113, 3) := by decide +kernel
theorem dX4_serve_23 : decode cX4_serve 23 = .ok (.aload_n 0, 1) := by decide +kernel
theorem dX4_serve_24 : decode cX4_serve 24 = .ok (.getfield 21, 3) := by decide +kernel
theorem dX4_serve_27 : decode cX4_serve 27 = .ok (.iload_n 3, 1) := by decide +kernel
theorem dX4_serve_28 : decode cX4_serve 28 = .ok (.iaload, 1) := by decide +kernel
theorem dX4_serve_29 : decode cX4_serve 29 = .ok (.iand, 1) := by decide +kernel
theorem dX4_serve_30 : decode cX4_serve 30 = .ok (.invokevirtual 129, 3) := by decide +kernel
theorem dX4_serve_33 : decode cX4_serve 33 = .ok (.istore 5, 2) := by decide +kernel
theorem dX4_serve_35 : decode cX4_serve 35 = .ok (.iload 5, 2) := by decide +kernel
theorem dX4_serve_37 : decode cX4_serve 37 = .ok (.iconst (-1), 1) := by decide +kernel
theorem dX4_serve_38 : decode cX4_serve 38 = .ok (.if_icmp .eq 27, 3) := by decide +kernel
theorem dX4_serve_41 : decode cX4_serve 41 = .ok (.aload_n 0, 1) := by decide +kernel
theorem dX4_serve_42 : decode cX4_serve 42 = .ok (.iload_n 1, 1) := by decide +kernel
theorem dX4_serve_43 : decode cX4_serve 43 = .ok (.iload_n 3, 1) := by decide +kernel
theorem dX4_serve_44 : decode cX4_serve 44 = .ok (.iload 5, 2) := by decide +kernel
theorem dX4_serve_46 : decode cX4_serve 46 = .ok (.invokevirtual 132, 3) := by decide +kernel
theorem dX4_serve_49 : decode cX4_serve 49 = .ok (.aload_n 0, 1) := by decide +kernel
theorem dX4_serve_50 : decode cX4_serve 50 = .ok (.dup, 1) := by decide +kernel
theorem dX4_serve_51 : decode cX4_serve 51 = .ok (.getfield 122, 3) := by decide +kernel
theorem dX4_serve_54 : decode cX4_serve 54 = .ok (.lconst 1, 1) := by decide +kernel
theorem dX4_serve_55 : decode cX4_serve 55 = .ok (.iload 4, 2) := by decide +kernel
theorem dX4_serve_57 : decode cX4_serve 57 = .ok (.lshl, 1) := by decide +kernel
theorem dX4_serve_58 : decode cX4_serve 58 = .ok (.lor, 1) := by decide +kernel
theorem dX4_serve_59 : decode cX4_serve 59 = .ok (.putfield 122, 3) := by decide +kernel
theorem dX4_serve_62 : decode cX4_serve 62 = .ok (.goto 36, 3) := by decide +kernel
theorem dX4_serve_65 : decode cX4_serve 65 = .ok (.aload_n 0, 1) := by decide +kernel
theorem dX4_serve_66 : decode cX4_serve 66 = .ok (.getfield 126, 3) := by decide +kernel
theorem dX4_serve_69 : decode cX4_serve 69 = .ok (.iconst (-1), 1) := by decide +kernel
theorem dX4_serve_70 : decode cX4_serve 70 = .ok (.if_icmp .ne 28, 3) := by decide +kernel
theorem dX4_serve_73 : decode cX4_serve 73 = .ok (.aload_n 0, 1) := by decide +kernel
theorem dX4_serve_74 : decode cX4_serve 74 = .ok (.getfield 116, 3) := by decide +kernel
theorem dX4_serve_77 : decode cX4_serve 77 = .ok (.aload_n 0, 1) := by decide +kernel
theorem dX4_serve_78 : decode cX4_serve 78 = .ok (.getfield 119, 3) := by decide +kernel
theorem dX4_serve_81 : decode cX4_serve 81 = .ok (.ior, 1) := by decide +kernel
theorem dX4_serve_82 : decode cX4_serve 82 = .ok (.aload_n 0, 1) := by decide +kernel
theorem dX4_serve_83 : decode cX4_serve 83 = .ok (.getfield 18, 3) := by decide +kernel
theorem dX4_serve_86 : decode cX4_serve 86 = .ok (.iload_n 3, 1) := by decide +kernel
theorem dX4_serve_87 : decode cX4_serve 87 = .ok (.iaload, 1) := by decide +kernel
theorem dX4_serve_88 : decode cX4_serve 88 = .ok (.iand, 1) := by decide +kernel
theorem dX4_serve_89 : decode cX4_serve 89 = .ok (.ifCond .eq 9, 3) := by decide +kernel
theorem dX4_serve_92 : decode cX4_serve 92 = .ok (.aload_n 0, 1) := by decide +kernel
theorem dX4_serve_93 : decode cX4_serve 93 = .ok (.iload 4, 2) := by decide +kernel
theorem dX4_serve_95 : decode cX4_serve 95 = .ok (.putfield 126, 3) := by decide +kernel
theorem dX4_serve_98 : decode cX4_serve 98 = .ok (.return_, 1) := by decide +kernel
theorem dX4_give_0 : decode cX4_give 0 = .ok (.aload_n 0, 1) := by decide +kernel
theorem dX4_give_1 : decode cX4_give 1 = .ok (.dup, 1) := by decide +kernel
theorem dX4_give_2 : decode cX4_give 2 = .ok (.getfield 113, 3) := by decide +kernel
theorem dX4_give_5 : decode cX4_give 5 = .ok (.iconst 1, 1) := by decide +kernel
theorem dX4_give_6 : decode cX4_give 6 = .ok (.iload_n 3, 1) := by decide +kernel
theorem dX4_give_7 : decode cX4_give 7 = .ok (.ishl, 1) := by decide +kernel
theorem dX4_give_8 : decode cX4_give 8 = .ok (.iconst (-1), 1) := by decide +kernel
theorem dX4_give_9 : decode cX4_give 9 = .ok (.ixor, 1) := by decide +kernel
theorem dX4_give_10 : decode cX4_give 10 = .ok (.iand, 1) := by decide +kernel
theorem dX4_give_11 : decode cX4_give 11 = .ok (.putfield 113, 3) := by decide +kernel
theorem dX4_give_14 : decode cX4_give 14 = .ok (.aload_n 0, 1) := by decide +kernel
theorem dX4_give_15 : decode cX4_give 15 = .ok (.dup, 1) := by decide +kernel
theorem dX4_give_16 : decode cX4_give 16 = .ok (.getfield 116, 3) := by decide +kernel
theorem dX4_give_19 : decode cX4_give 19 = .ok (.iconst 1, 1) := by decide +kernel
theorem dX4_give_20 : decode cX4_give 20 = .ok (.iload_n 3, 1) := by decide +kernel
theorem dX4_give_21 : decode cX4_give 21 = .ok (.ishl, 1) := by decide +kernel
theorem dX4_give_22 : decode cX4_give 22 = .ok (.ior, 1) := by decide +kernel
theorem dX4_give_23 : decode cX4_give 23 = .ok (.putfield 116, 3) := by decide +kernel
theorem dX4_give_26 : decode cX4_give 26 = .ok (.aload_n 0, 1) := by decide +kernel
theorem dX4_give_27 : decode cX4_give 27 = .ok (.getfield 36, 3) := by decide +kernel
theorem dX4_give_30 : decode cX4_give 30 = .ok (.iload_n 3, 1) := by decide +kernel
theorem dX4_give_31 : decode cX4_give 31 = .ok (.iload_n 2, 1) := by decide +kernel
theorem dX4_give_32 : decode cX4_give 32 = .ok (.iastore, 1) := by decide +kernel
theorem dX4_give_33 : decode cX4_give 33 = .ok (.aload_n 0, 1) := by decide +kernel
theorem dX4_give_34 : decode cX4_give 34 = .ok (.getfield 39, 3) := by decide +kernel
theorem dX4_give_37 : decode cX4_give 37 = .ok (.iload_n 3, 1) := by decide +kernel
theorem dX4_give_38 : decode cX4_give 38 = .ok (.iload_n 1, 1) := by decide +kernel
theorem dX4_give_39 : decode cX4_give 39 = .ok (.iastore, 1) := by decide +kernel
theorem dX4_give_40 : decode cX4_give 40 = .ok (.return_, 1) := by decide +kernel
theorem dX4_sell_0 : decode cX4_sell 0 = .ok (.iload_n 1, 1) := by decide +kernel
theorem dX4_sell_1 : decode cX4_sell 1 = .ok (.aload_n 0, 1) := by decide +kernel
theorem dX4_sell_2 : decode cX4_sell 2 = .ok (.getfield 42, 3) := by decide +kernel
theorem dX4_sell_5 : decode cX4_sell 5 = .ok (.getfield 135, 3) := by decide +kernel
theorem dX4_sell_8 : decode cX4_sell 8 = .ok (.isub, 1) := by decide +kernel
theorem dX4_sell_9 : decode cX4_sell 9 = .ok (.iconst 1, 1) := by decide +kernel
theorem dX4_sell_10 : decode cX4_sell 10 = .ok (.iadd, 1) := by decide +kernel
theorem dX4_sell_11 : decode cX4_sell 11 = .ok (.istore_n 2, 1) := by decide +kernel
theorem dX4_sell_12 : decode cX4_sell 12 = .ok (.iload_n 2, 1) := by decide +kernel
theorem dX4_sell_13 : decode cX4_sell 13 = .ok (.ifCond .ge 7, 3) := by decide +kernel
theorem dX4_sell_16 : decode cX4_sell 16 = .ok (.iconst 0, 1) := by decide +kernel
theorem dX4_sell_17 : decode cX4_sell 17 = .ok (.goto 14, 3) := by decide +kernel
theorem dX4_sell_20 : decode cX4_sell 20 = .ok (.aload_n 0, 1) := by decide +kernel
theorem dX4_sell_21 : decode cX4_sell 21 = .ok (.getfield 113, 3) := by decide +kernel
theorem dX4_sell_24 : decode cX4_sell 24 = .ok (.aload_n 0, 1) := by decide +kernel
theorem dX4_sell_25 : decode cX4_sell 25 = .ok (.getfield 24, 3) := by decide +kernel
theorem dX4_sell_28 : decode cX4_sell 28 = .ok (.iload_n 2, 1) := by decide +kernel
theorem dX4_sell_29 : decode cX4_sell 29 = .ok (.iaload, 1) := by decide +kernel
theorem dX4_sell_30 : decode cX4_sell 30 = .ok (.iand, 1) := by decide +kernel
theorem dX4_sell_31 : decode cX4_sell 31 = .ok (.istore_n 3, 1) := by decide +kernel
theorem dX4_sell_32 : decode cX4_sell 32 = .ok (.iload_n 3, 1) := by decide +kernel
theorem dX4_sell_33 : decode cX4_sell 33 = .ok (.ifCond .ne 4, 3) := by decide +kernel
theorem dX4_sell_36 : decode cX4_sell 36 = .ok (.return_, 1) := by decide +kernel
theorem dX4_sell_37 : decode cX4_sell 37 = .ok (.aload_n 0, 1) := by decide +kernel
theorem dX4_sell_38 : decode cX4_sell 38 = .ok (.dup, 1) := by decide +kernel
theorem dX4_sell_39 : decode cX4_sell 39 = .ok (.getfield 113, 3) := by decide +kernel
theorem dX4_sell_42 : decode cX4_sell 42 = .ok (.iload_n 3, 1) := by decide +kernel
theorem dX4_sell_43 : decode cX4_sell 43 = .ok (.iconst (-1), 1) := by decide +kernel
theorem dX4_sell_44 : decode cX4_sell 44 = .ok (.ixor, 1) := by decide +kernel
theorem dX4_sell_45 : decode cX4_sell 45 = .ok (.iand, 1) := by decide +kernel
theorem dX4_sell_46 : decode cX4_sell 46 = .ok (.putfield 113, 3) := by decide +kernel
theorem dX4_sell_49 : decode cX4_sell 49 = .ok (.aload_n 0, 1) := by decide +kernel
theorem dX4_sell_50 : decode cX4_sell 50 = .ok (.dup, 1) := by decide +kernel
theorem dX4_sell_51 : decode cX4_sell 51 = .ok (.getfield 119, 3) := by decide +kernel
theorem dX4_sell_54 : decode cX4_sell 54 = .ok (.iload_n 3, 1) := by decide +kernel
theorem dX4_sell_55 : decode cX4_sell 55 = .ok (.ior, 1) := by decide +kernel
theorem dX4_sell_56 : decode cX4_sell 56 = .ok (.putfield 119, 3) := by decide +kernel
theorem dX4_sell_59 : decode cX4_sell 59 = .ok (.iconst 0, 1) := by decide +kernel
theorem dX4_sell_60 : decode cX4_sell 60 = .ok (.istore 4, 2) := by decide +kernel
theorem dX4_sell_62 : decode cX4_sell 62 = .ok (.iload 4, 2) := by decide +kernel
theorem dX4_sell_64 : decode cX4_sell 64 = .ok (.bipush 8, 2) := by decide +kernel
theorem dX4_sell_66 : decode cX4_sell 66 = .ok (.if_icmp .ge 27, 3) := by decide +kernel
theorem dX4_sell_69 : decode cX4_sell 69 = .ok (.iload_n 3, 1) := by decide +kernel
theorem dX4_sell_70 : decode cX4_sell 70 = .ok (.iload 4, 2) := by decide +kernel
theorem dX4_sell_72 : decode cX4_sell 72 = .ok (.ishr, 1) := by decide +kernel
theorem dX4_sell_73 : decode cX4_sell 73 = .ok (.iconst 1, 1) := by decide +kernel
theorem dX4_sell_74 : decode cX4_sell 74 = .ok (.iand, 1) := by decide +kernel
theorem dX4_sell_75 : decode cX4_sell 75 = .ok (.iconst 1, 1) := by decide +kernel
theorem dX4_sell_76 : decode cX4_sell 76 = .ok (.if_icmp .ne 11, 3) := by decide +kernel
theorem dX4_sell_79 : decode cX4_sell 79 = .ok (.aload_n 0, 1) := by decide +kernel
theorem dX4_sell_80 : decode cX4_sell 80 = .ok (.getfield 39, 3) := by decide +kernel
theorem dX4_sell_83 : decode cX4_sell 83 = .ok (.iload 4, 2) := by decide +kernel
theorem dX4_sell_85 : decode cX4_sell 85 = .ok (.iload_n 1, 1) := by decide +kernel
theorem dX4_sell_86 : decode cX4_sell 86 = .ok (.iastore, 1) := by decide +kernel
theorem dX4_sell_87 : decode cX4_sell 87 = .ok (.iinc 4 1, 3) := by decide +kernel
theorem dX4_sell_90 : decode cX4_sell 90 = .ok (.goto (-28), 3) := by decide +kernel
theorem dX4_sell_93 : decode cX4_sell 93 = .ok (.return_, 1) := by decide +kernel
theorem dX5_init_0 : decode cX5_init 0 = .ok (.aload_n 0, 1) := by decide +kernel
theorem dX5_init_1 : decode cX5_init 1 = .ok (.invokespecial 3, 3) := by decide +kernel
theorem dX5_init_4 : decode cX5_init 4 = .ok (.aload_n 0, 1) := by decide +kernel
theorem dX5_init_5 : decode cX5_init 5 = .ok (.bipush 48, 2) := by decide +kernel
theorem dX5_init_7 : decode cX5_init 7 = .ok (.newarray .int, 2) := by decide +kernel
theorem dX5_init_9 : decode cX5_init 9 = .ok (.putfield 11, 3) := by decide +kernel
theorem dX5_init_12 : decode cX5_init 12 = .ok (.aload_n 0, 1) := by decide +kernel
theorem dX5_init_13 : decode cX5_init 13 = .ok (.iconst (-1), 1) := by decide +kernel
theorem dX5_init_14 : decode cX5_init 14 = .ok (.putfield 15, 3) := by decide +kernel
theorem dX5_init_17 : decode cX5_init 17 = .ok (.return_, 1) := by decide +kernel
theorem dX5_isLost_0 : decode cX5_isLost 0 = .ok (.aload_n 0, 1) := by decide +kernel
theorem dX5_isLost_1 : decode cX5_isLost 1 = .ok (.getfield 15, 3) := by decide +kernel
theorem dX5_isLost_4 : decode cX5_isLost 4 = .ok (.iconst (-1), 1) := by decide +kernel
theorem dX5_isLost_5 : decode cX5_isLost 5 = .ok (.if_icmp .ne 7, 3) := by decide +kernel
theorem dX5_isLost_8 : decode cX5_isLost 8 = .ok (.iconst 1, 1) := by decide +kernel
theorem dX5_isLost_9 : decode cX5_isLost 9 = .ok (.goto 4, 3) := by decide +kernel
theorem dX5_isLost_12 : decode cX5_isLost 12 = .ok (.iconst 0, 1) := by decide +kernel
theorem dX5_isLost_13 : decode cX5_isLost 13 = .ok (.ireturn, 1) := by decide +kernel
theorem dX5_renew_0 : decode cX5_renew 0 = .ok (.aload_n 0, 1) := by decide +kernel
theorem dX5_renew_1 : decode cX5_renew 1 = .ok (.iload_n 1, 1) := by decide +kernel
theorem dX5_renew_2 : decode cX5_renew 2 = .ok (.putfield 19, 3) := by decide +kernel
theorem dX5_renew_5 : decode cX5_renew 5 = .ok (.aload_n 0, 1) := by decide +kernel
theorem dX5_renew_6 : decode cX5_renew 6 = .ok (.iload_n 2, 1) := by decide +kernel
theorem dX5_renew_7 : decode cX5_renew 7 = .ok (.putfield 15, 3) := by decide +kernel
theorem dX5_renew_10 : decode cX5_renew 10 = .ok (.aload_n 0, 1) := by decide +kernel
theorem dX5_renew_11 : decode cX5_renew 11 = .ok (.getfield 11, 3) := by decide +kernel
theorem dX5_renew_14 : decode cX5_renew 14 = .ok (.iconst 0, 1) := by decide +kernel
theorem dX5_renew_15 : decode cX5_renew 15 = .ok (.invokestatic 22, 3) := by decide +kernel
theorem dX5_renew_18 : decode cX5_renew 18 = .ok (.return_, 1) := by decide +kernel
theorem dX5_findingAt_0 : decode cX5_findingAt 0 = .ok (.aload_n 0, 1) := by decide +kernel
theorem dX5_findingAt_1 : decode cX5_findingAt 1 = .ok (.invokevirtual 28, 3) := by decide +kernel
theorem dX5_findingAt_4 : decode cX5_findingAt 4 = .ok (.ifCond .eq 5, 3) := by decide +kernel
theorem dX5_findingAt_7 : decode cX5_findingAt 7 = .ok (.iconst 1, 1) := by decide +kernel
theorem dX5_findingAt_8 : decode cX5_findingAt 8 = .ok (.ireturn, 1) := by decide +kernel
theorem dX5_findingAt_9 : decode cX5_findingAt 9 = .ok (.aload_n 0, 1) := by decide +kernel
theorem dX5_findingAt_10 : decode cX5_findingAt 10 = .ok (.getfield 19, 3) := by decide +kernel
theorem dX5_findingAt_13 : decode cX5_findingAt 13 = .ok (.iload_n 1, 1) := by decide +kernel
theorem dX5_findingAt_14 : decode cX5_findingAt 14 = .ok (.if_icmp .eq 5, 3) := by decide +kernel
theorem dX5_findingAt_17 : decode cX5_findingAt 17 = .ok (.iconst 3, 1) := by decide +kernel
theorem dX5_findingAt_18 : decode cX5_findingAt 18 = .ok (.ireturn, 1) := by decide +kernel
theorem dX5_findingAt_19 : decode cX5_findingAt 19 = .ok (.iload_n 2, 1) := by decide +kernel
theorem dX5_findingAt_20 : decode cX5_findingAt 20 = .ok (.aload_n 0, 1) := by decide +kernel
theorem dX5_findingAt_21 : decode cX5_findingAt 21 = .ok (.getfield 15, 3) := by decide +kernel
theorem dX5_findingAt_24 : decode cX5_findingAt 24 = .ok (.invokestatic 32, 3) := by decide +kernel
theorem dX5_findingAt_27 : decode cX5_findingAt 27 = .ok (.ifCond .eq 7, 3) := by decide +kernel
theorem dX5_findingAt_30 : decode cX5_findingAt 30 = .ok (.iconst 2, 1) := by decide +kernel
theorem dX5_findingAt_31 : decode cX5_findingAt 31 = .ok (.goto 4, 3) := by decide +kernel
theorem dX5_findingAt_34 : decode cX5_findingAt 34 = .ok (.iconst 0, 1) := by decide +kernel
theorem dX5_findingAt_35 : decode cX5_findingAt 35 = .ok (.ireturn, 1) := by decide +kernel
theorem dX5_hasRange_0 : decode cX5_hasRange 0 = .ok (.iload_n 1, 1) := by decide +kernel
theorem dX5_hasRange_1 : decode cX5_hasRange 1 = .ok (.ifCond .lt 21, 3) := by decide +kernel
theorem dX5_hasRange_4 : decode cX5_hasRange 4 = .ok (.iload_n 2, 1) := by decide +kernel
theorem dX5_hasRange_5 : decode cX5_hasRange 5 = .ok (.ifCond .lt 17, 3) := by decide +kernel
theorem dX5_hasRange_8 : decode cX5_hasRange 8 = .ok (.iload_n 1, 1) := by decide +kernel
theorem dX5_hasRange_9 : decode cX5_hasRange 9 = .ok (.aload_n 0, 1) := by decide +kernel
theorem dX5_hasRange_10 : decode cX5_hasRange 10 = .ok (.getfield 15, 3) := by decide +kernel
theorem dX5_hasRange_13 : decode cX5_hasRange 13 = .ok (.iload_n 2, 1) := by decide +kernel
theorem dX5_hasRange_14 : decode cX5_hasRange 14 = .ok (.isub, 1) := by decide +kernel
theorem dX5_hasRange_15 : decode cX5_hasRange 15 = .ok (.if_icmp .gt 7, 3) := by decide +kernel
theorem dX5_hasRange_18 : decode cX5_hasRange 18 = .ok (.iconst 1, 1) := by decide +kernel
theorem dX5_hasRange_19 : decode cX5_hasRange 19 = .ok (.goto 4, 3) := by decide +kernel
theorem dX5_hasRange_22 : decode cX5_hasRange 22 = .ok (.iconst 0, 1) := by decide +kernel
theorem dX5_hasRange_23 : decode cX5_hasRange 23 = .ok (.ireturn, 1) := by decide +kernel
theorem dX5_store_0 : decode cX5_store 0 = .ok (.aload_n 0, 1) := by decide +kernel
theorem dX5_store_1 : decode cX5_store 1 = .ok (.getfield 19, 3) := by decide +kernel
theorem dX5_store_4 : decode cX5_store 4 = .ok (.ifCond .ne 14, 3) := by decide +kernel
theorem dX5_store_7 : decode cX5_store 7 = .ok (.aload_n 0, 1) := by decide +kernel
theorem dX5_store_8 : decode cX5_store 8 = .ok (.getfield 11, 3) := by decide +kernel
theorem dX5_store_11 : decode cX5_store 11 = .ok (.iload_n 1, 1) := by decide +kernel
theorem dX5_store_12 : decode cX5_store 12 = .ok (.iload_n 2, 1) := by decide +kernel
theorem dX5_store_13 : decode cX5_store 13 = .ok (.i2b, 1) := by decide +kernel
theorem dX5_store_14 : decode cX5_store 14 = .ok (.iastore, 1) := by decide +kernel
theorem dX5_store_15 : decode cX5_store 15 = .ok (.goto 23, 3) := by decide +kernel
theorem dX5_store_18 : decode cX5_store 18 = .ok (.aload_n 0, 1) := by decide +kernel
theorem dX5_store_19 : decode cX5_store 19 = .ok (.getfield 11, 3) := by decide +kernel
theorem dX5_store_22 : decode cX5_store 22 = .ok (.iload_n 1, 1) := by decide +kernel
theorem dX5_store_23 : decode cX5_store 23 = .ok (.aload_n 0, 1) := by decide +kernel
theorem dX5_store_24 : decode cX5_store 24 = .ok (.getfield 19, 3) := by decide +kernel
theorem dX5_store_27 : decode cX5_store 27 = .ok (.iconst 1, 1) := by decide +kernel
theorem dX5_store_28 : decode cX5_store 28 = .ok (.if_icmp .ne 8, 3) := by decide +kernel
theorem dX5_store_31 : decode cX5_store 31 = .ok (.iload_n 2, 1) := by decide +kernel
theorem dX5_store_32 : decode cX5_store 32 = .ok (.i2s, 1) := by decide +kernel
theorem dX5_store_33 : decode cX5_store 33 = .ok (.goto 4, 3) := by decide +kernel
theorem dX5_store_36 : decode cX5_store 36 = .ok (.iload_n 2, 1) := by decide +kernel
theorem dX5_store_37 : decode cX5_store 37 = .ok (.iastore, 1) := by decide +kernel
theorem dX5_store_38 : decode cX5_store 38 = .ok (.return_, 1) := by decide +kernel
theorem dX6_init_0 : decode cX6_init 0 = .ok (.aload_n 0, 1) := by decide +kernel
theorem dX6_init_1 : decode cX6_init 1 = .ok (.invokespecial 3, 3) := by decide +kernel
theorem dX6_init_4 : decode cX6_init 4 = .ok (.aload_n 0, 1) := by decide +kernel
theorem dX6_init_5 : decode cX6_init 5 = .ok (.bipush 8, 2) := by decide +kernel
theorem dX6_init_7 : decode cX6_init 7 = .ok (.newarray .int, 2) := by decide +kernel
theorem dX6_init_9 : decode cX6_init 9 = .ok (.putfield 11, 3) := by decide +kernel
theorem dX6_init_12 : decode cX6_init 12 = .ok (.aload_n 0, 1) := by decide +kernel
theorem dX6_init_13 : decode cX6_init 13 = .ok (.bipush 8, 2) := by decide +kernel
theorem dX6_init_15 : decode cX6_init 15 = .ok (.newarray .int, 2) := by decide +kernel
theorem dX6_init_17 : decode cX6_init 17 = .ok (.putfield 15, 3) := by decide +kernel
theorem dX6_init_20 : decode cX6_init 20 = .ok (.aload_n 0, 1) := by decide +kernel
theorem dX6_init_21 : decode cX6_init 21 = .ok (.bipush 8, 2) := by decide +kernel
theorem dX6_init_23 : decode cX6_init 23 = .ok (.newarray .int, 2) := by decide +kernel
theorem dX6_init_25 : decode cX6_init 25 = .ok (.putfield 18, 3) := by decide +kernel
theorem dX6_init_28 : decode cX6_init 28 = .ok (.return_, 1) := by decide +kernel
theorem dX6_add_0 : decode cX6_add 0 = .ok (.iload_n 1, 1) := by decide +kernel
theorem dX6_add_1 : decode cX6_add 1 = .ok (.bipush 40, 2) := by decide +kernel
theorem dX6_add_3 : decode cX6_add 3 = .ok (.invokestatic 21, 3) := by decide +kernel
theorem dX6_add_6 : decode cX6_add 6 = .ok (.ifCond .ne 20, 3) := by decide +kernel
theorem dX6_add_9 : decode cX6_add 9 = .ok (.iload_n 2, 1) := by decide +kernel
theorem dX6_add_10 : decode cX6_add 10 = .ok (.bipush 8, 2) := by decide +kernel
theorem dX6_add_12 : decode cX6_add 12 = .ok (.invokestatic 21, 3) := by decide +kernel
theorem dX6_add_15 : decode cX6_add 15 = .ok (.ifCond .ne 11, 3) := by decide +kernel
theorem dX6_add_18 : decode cX6_add 18 = .ok (.iload_n 3, 1) := by decide +kernel
theorem dX6_add_19 : decode cX6_add 19 = .ok (.iconst 2, 1) := by decide +kernel
theorem dX6_add_20 : decode cX6_add 20 = .ok (.invokestatic 21, 3) := by decide +kernel
theorem dX6_add_23 : decode cX6_add 23 = .ok (.ifCond .eq 6, 3) := by decide +kernel
theorem dX6_add_26 : decode cX6_add 26 = .ok (.bipush (-2), 2) := by decide +kernel
theorem dX6_add_28 : decode cX6_add 28 = .ok (.ireturn, 1) := by decide +kernel
theorem dX6_add_29 : decode cX6_add 29 = .ok (.aload_n 0, 1) := by decide +kernel
theorem dX6_add_30 : decode cX6_add 30 = .ok (.getfield 25, 3) := by decide +kernel
theorem dX6_add_33 : decode cX6_add 33 = .ok (.bipush 8, 2) := by decide +kernel
theorem dX6_add_35 : decode cX6_add 35 = .ok (.if_icmp .lt 6, 3) := by decide +kernel
theorem dX6_add_38 : decode cX6_add 38 = .ok (.bipush (-4), 2) := by decide +kernel
theorem dX6_add_40 : decode cX6_add 40 = .ok (.ireturn, 1) := by decide +kernel
theorem dX6_add_41 : decode cX6_add 41 = .ok (.aload_n 0, 1) := by decide +kernel
theorem dX6_add_42 : decode cX6_add 42 = .ok (.getfield 11, 3) := by decide +kernel
theorem dX6_add_45 : decode cX6_add 45 = .ok (.aload_n 0, 1) := by decide +kernel
theorem dX6_add_46 : decode cX6_add 46 = .ok (.getfield 25, 3) := by decide +kernel
theorem dX6_add_49 : decode cX6_add 49 = .ok (.iload_n 1, 1) := by decide +kernel
theorem dX6_add_50 : decode cX6_add 50 = .ok (.iastore, 1) := by decide +kernel
theorem dX6_add_51 : decode cX6_add 51 = .ok (.aload_n 0, 1) := by decide +kernel
theorem dX6_add_52 : decode cX6_add 52 = .ok (.getfield 15, 3) := by decide +kernel
theorem dX6_add_55 : decode cX6_add 55 = .ok (.aload_n 0, 1) := by decide +kernel
theorem dX6_add_56 : decode cX6_add 56 = .ok (.getfield 25, 3) := by decide +kernel
theorem dX6_add_59 : decode cX6_add 59 = .ok (.iload_n 2, 1) := by decide +kernel
theorem dX6_add_60 : decode cX6_add 60 = .ok (.iastore, 1) := by decide +kernel
theorem dX6_add_61 : decode cX6_add 61 = .ok (.aload_n 0, 1) := by decide +kernel
theorem dX6_add_62 : decode cX6_add 62 = .ok (.getfield 18, 3) := by decide +kernel
theorem dX6_add_65 : decode cX6_add 65 = .ok (.aload_n 0, 1) := by decide +kernel
theorem dX6_add_66 : decode cX6_add 66 = .ok (.getfield 25, 3) := by decide +kernel
theorem dX6_add_69 : decode cX6_add 69 = .ok (.iload_n 3, 1) := by decide +kernel
theorem dX6_add_70 : decode cX6_add 70 = .ok (.iastore, 1) := by decide +kernel
theorem dX6_add_71 : decode cX6_add 71 = .ok (.aload_n 0, 1) := by decide +kernel
theorem dX6_add_72 : decode cX6_add 72 = .ok (.dup, 1) := by decide +kernel
theorem dX6_add_73 : decode cX6_add 73 = .ok (.getfield 25, 3) := by decide +kernel
theorem dX6_add_76 : decode cX6_add 76 = .ok (.iconst 1, 1) := by decide +kernel
theorem dX6_add_77 : decode cX6_add 77 = .ok (.iadd, 1) := by decide +kernel
theorem dX6_add_78 : decode cX6_add 78 = .ok (.putfield 25, 3) := by decide +kernel
theorem dX6_add_81 : decode cX6_add 81 = .ok (.aload_n 0, 1) := by decide +kernel
theorem dX6_add_82 : decode cX6_add 82 = .ok (.getfield 25, 3) := by decide +kernel
theorem dX6_add_85 : decode cX6_add 85 = .ok (.ireturn, 1) := by decide +kernel
theorem dX6_lastWeek_0 : decode cX6_lastWeek 0 = .ok (.iconst (-1), 1) := by decide +kernel
theorem dX6_lastWeek_1 : decode cX6_lastWeek 1 = .ok (.istore_n 1, 1) := by decide +kernel
theorem dX6_lastWeek_2 : decode cX6_lastWeek 2 = .ok (.iconst 0, 1) := by decide +kernel
theorem dX6_lastWeek_3 : decode cX6_lastWeek 3 = .ok (.istore_n 2, 1) := by decide +kernel
theorem dX6_lastWeek_4 : decode cX6_lastWeek 4 = .ok (.iload_n 2, 1) := by decide +kernel
theorem dX6_lastWeek_5 : decode cX6_lastWeek 5 = .ok (.aload_n 0, 1) := by decide +kernel
theorem dX6_lastWeek_6 : decode cX6_lastWeek 6 = .ok (.getfield 25, 3) := by decide +kernel
theorem dX6_lastWeek_9 : decode cX6_lastWeek 9 = .ok (.if_icmp .ge 20, 3) := by decide +kernel
theorem dX6_lastWeek_12 : decode cX6_lastWeek 12 = .ok (.iload_n 1, 1) := by decide +kernel
theorem dX6_lastWeek_13 : decode cX6_lastWeek 13 = .ok (.aload_n 0, 1) := by decide +kernel
theorem dX6_lastWeek_14 : decode cX6_lastWeek 14 = .ok (.getfield 11, 3) := by decide +kernel
theorem dX6_lastWeek_17 : decode cX6_lastWeek 17 = .ok (.iload_n 2, 1) := by decide +kernel
theorem dX6_lastWeek_18 : decode cX6_lastWeek 18 = .ok (.iaload, 1) := by decide +kernel
theorem dX6_lastWeek_19 : decode cX6_lastWeek 19 = .ok (.invokestatic 29, 3) := by decide +kernel
theorem dX6_lastWeek_22 : decode cX6_lastWeek 22 = .ok (.istore_n 1, 1) := by decide +kernel
theorem dX6_lastWeek_23 : decode cX6_lastWeek 23 = .ok (.iinc 2 1, 3) := by decide +kernel
theorem dX6_lastWeek_26 : decode cX6_lastWeek 26 = .ok (.goto (-22), 3) := by decide +kernel
theorem dX6_lastWeek_29 : decode cX6_lastWeek 29 = .ok (.iload_n 1, 1) := by decide +kernel
theorem dX6_lastWeek_30 : decode cX6_lastWeek 30 = .ok (.ireturn, 1) := by decide +kernel
theorem dX6_agreeWith_0 : decode cX6_agreeWith 0 = .ok (.iconst 0, 1) := by decide +kernel
theorem dX6_agreeWith_1 : decode cX6_agreeWith 1 = .ok (.istore_n 2, 1) := by decide +kernel
theorem dX6_agreeWith_2 : decode cX6_agreeWith 2 = .ok (.iload_n 2, 1) := by decide +kernel
theorem dX6_agreeWith_3 : decode cX6_agreeWith 3 = .ok (.aload_n 0, 1) := by decide +kernel
theorem dX6_agreeWith_4 : decode cX6_agreeWith 4 = .ok (.getfield 25, 3) := by decide +kernel
theorem dX6_agreeWith_7 : decode cX6_agreeWith 7 = .ok (.if_icmp .ge 37, 3) := by decide +kernel
theorem dX6_agreeWith_10 : decode cX6_agreeWith 10 = .ok (.aload_n 1, 1) := by decide +kernel
theorem dX6_agreeWith_11 : decode cX6_agreeWith 11 = .ok (.aload_n 0, 1) := by decide +kernel
theorem dX6_agreeWith_12 : decode cX6_agreeWith 12 = .ok (.getfield 11, 3) := by decide +kernel
theorem dX6_agreeWith_15 : decode cX6_agreeWith 15 = .ok (.iload_n 2, 1) := by decide +kernel
theorem dX6_agreeWith_16 : decode cX6_agreeWith 16 = .ok (.iaload, 1) := by decide +kernel
theorem dX6_agreeWith_17 : decode cX6_agreeWith 17 = .ok (.iaload, 1) := by decide +kernel
theorem dX6_agreeWith_18 : decode cX6_agreeWith 18 = .ok (.aload_n 0, 1) := by decide +kernel
theorem dX6_agreeWith_19 : decode cX6_agreeWith 19 = .ok (.getfield 15, 3) := by decide +kernel
theorem dX6_agreeWith_22 : decode cX6_agreeWith 22 = .ok (.iload_n 2, 1) := by decide +kernel
theorem dX6_agreeWith_23 : decode cX6_agreeWith 23 = .ok (.iaload, 1) := by decide +kernel
theorem dX6_agreeWith_24 : decode cX6_agreeWith 24 = .ok (.ishr, 1) := by decide +kernel
theorem dX6_agreeWith_25 : decode cX6_agreeWith 25 = .ok (.iconst 1, 1) := by decide +kernel
theorem dX6_agreeWith_26 : decode cX6_agreeWith 26 = .ok (.iand, 1) := by decide +kernel
theorem dX6_agreeWith_27 : decode cX6_agreeWith 27 = .ok (.aload_n 0, 1) := by decide +kernel
theorem dX6_agreeWith_28 : decode cX6_agreeWith 28 = .ok (.getfield 18, 3) := by decide +kernel
theorem dX6_agreeWith_31 : decode cX6_agreeWith 31 = .ok (.iload_n 2, 1) := by decide +kernel
theorem dX6_agreeWith_32 : decode cX6_agreeWith 32 = .ok (.iaload, 1) := by decide +kernel
theorem dX6_agreeWith_33 : decode cX6_agreeWith 33 = .ok (.if_icmp .eq 5, 3) := by decide +kernel
theorem dX6_agreeWith_36 : decode cX6_agreeWith 36 = .ok (.iconst 0, 1) := by decide +kernel
theorem dX6_agreeWith_37 : decode cX6_agreeWith 37 = .ok (.ireturn, 1) := by decide +kernel
theorem dX6_agreeWith_38 : decode cX6_agreeWith 38 = .ok (.iinc 2 1, 3) := by decide +kernel
theorem dX6_agreeWith_41 : decode cX6_agreeWith 41 = .ok (.goto (-39), 3) := by decide +kernel
theorem dX6_agreeWith_44 : decode cX6_agreeWith 44 = .ok (.iconst 1, 1) := by decide +kernel
theorem dX6_agreeWith_45 : decode cX6_agreeWith 45 = .ok (.ireturn, 1) := by decide +kernel
theorem dX7_init_0 : decode cX7_init 0 = .ok (.aload_n 0, 1) := by decide +kernel
theorem dX7_init_1 : decode cX7_init 1 = .ok (.invokespecial 1, 3) := by decide +kernel
theorem dX7_init_4 : decode cX7_init 4 = .ok (.aload_n 0, 1) := by decide +kernel
theorem dX7_init_5 : decode cX7_init 5 = .ok (.new 7, 3) := by decide +kernel
theorem dX7_init_8 : decode cX7_init 8 = .ok (.dup, 1) := by decide +kernel
theorem dX7_init_9 : decode cX7_init 9 = .ok (.iconst 0, 1) := by decide +kernel
theorem dX7_init_10 : decode cX7_init 10 = .ok (.invokespecial 9, 3) := by decide +kernel
theorem dX7_init_13 : decode cX7_init 13 = .ok (.putfield 12, 3) := by decide +kernel
theorem dX7_init_16 : decode cX7_init 16 = .ok (.aload_n 0, 1) := by decide +kernel
theorem dX7_init_17 : decode cX7_init 17 = .ok (.new 7, 3) := by decide +kernel
theorem dX7_init_20 : decode cX7_init 20 = .ok (.dup, 1) := by decide +kernel
theorem dX7_init_21 : decode cX7_init 21 = .ok (.iconst 1, 1) := by decide +kernel
theorem dX7_init_22 : decode cX7_init 22 = .ok (.invokespecial 9, 3) := by decide +kernel
theorem dX7_init_25 : decode cX7_init 25 = .ok (.putfield 18, 3) := by decide +kernel
theorem dX7_init_28 : decode cX7_init 28 = .ok (.aload_n 0, 1) := by decide +kernel
theorem dX7_init_29 : decode cX7_init 29 = .ok (.new 21, 3) := by decide +kernel
theorem dX7_init_32 : decode cX7_init 32 = .ok (.dup, 1) := by decide +kernel
theorem dX7_init_33 : decode cX7_init 33 = .ok (.aload_n 0, 1) := by decide +kernel
theorem dX7_init_34 : decode cX7_init 34 = .ok (.getfield 12, 3) := by decide +kernel
theorem dX7_init_37 : decode cX7_init 37 = .ok (.aload_n 0, 1) := by decide +kernel
theorem dX7_init_38 : decode cX7_init 38 = .ok (.getfield 18, 3) := by decide +kernel
theorem dX7_init_41 : decode cX7_init 41 = .ok (.invokespecial 23, 3) := by decide +kernel
theorem dX7_init_44 : decode cX7_init 44 = .ok (.putfield 26, 3) := by decide +kernel
theorem dX7_init_47 : decode cX7_init 47 = .ok (.aload_n 0, 1) := by decide +kernel
theorem dX7_init_48 : decode cX7_init 48 = .ok (.new 30, 3) := by decide +kernel
theorem dX7_init_51 : decode cX7_init 51 = .ok (.dup, 1) := by decide +kernel
theorem dX7_init_52 : decode cX7_init 52 = .ok (.invokespecial 32, 3) := by decide +kernel
theorem dX7_init_55 : decode cX7_init 55 = .ok (.putfield 33, 3) := by decide +kernel
theorem dX7_init_58 : decode cX7_init 58 = .ok (.aload_n 0, 1) := by decide +kernel
theorem dX7_init_59 : decode cX7_init 59 = .ok (.new 30, 3) := by decide +kernel
theorem dX7_init_62 : decode cX7_init 62 = .ok (.dup, 1) := by decide +kernel
theorem dX7_init_63 : decode cX7_init 63 = .ok (.invokespecial 32, 3) := by decide +kernel
theorem dX7_init_66 : decode cX7_init 66 = .ok (.putfield 37, 3) := by decide +kernel
theorem dX7_init_69 : decode cX7_init 69 = .ok (.aload_n 0, 1) := by decide +kernel
theorem dX7_init_70 : decode cX7_init 70 = .ok (.new 40, 3) := by decide +kernel
theorem dX7_init_73 : decode cX7_init 73 = .ok (.dup, 1) := by decide +kernel
theorem dX7_init_74 : decode cX7_init 74 = .ok (.invokespecial 42, 3) := by decide +kernel
theorem dX7_init_77 : decode cX7_init 77 = .ok (.putfield 43, 3) := by decide +kernel
theorem dX7_init_80 : decode cX7_init 80 = .ok (.aload_n 0, 1) := by decide +kernel
theorem dX7_init_81 : decode cX7_init 81 = .ok (.new 47, 3) := by decide +kernel
theorem dX7_init_84 : decode cX7_init 84 = .ok (.dup, 1) := by decide +kernel
theorem dX7_init_85 : decode cX7_init 85 = .ok (.aload_n 0, 1) := by decide +kernel
theorem dX7_init_86 : decode cX7_init 86 = .ok (.getfield 26, 3) := by decide +kernel
theorem dX7_init_89 : decode cX7_init 89 = .ok (.invokespecial 49, 3) := by decide +kernel
theorem dX7_init_92 : decode cX7_init 92 = .ok (.putfield 52, 3) := by decide +kernel
theorem dX7_init_95 : decode cX7_init 95 = .ok (.aload_n 0, 1) := by decide +kernel
theorem dX7_init_96 : decode cX7_init 96 = .ok (.new 47, 3) := by decide +kernel
theorem dX7_init_99 : decode cX7_init 99 = .ok (.dup, 1) := by decide +kernel
theorem dX7_init_100 : decode cX7_init 100 = .ok (.aload_n 0, 1) := by decide +kernel
theorem dX7_init_101 : decode cX7_init 101 = .ok (.getfield 26, 3) := by decide +kernel
theorem dX7_init_104 : decode cX7_init 104 = .ok (.invokespecial 49, 3) := by decide +kernel
theorem dX7_init_107 : decode cX7_init 107 = .ok (.putfield 56, 3) := by decide +kernel
theorem dX7_init_110 : decode cX7_init 110 = .ok (.aload_n 0, 1) := by decide +kernel
theorem dX7_init_111 : decode cX7_init 111 = .ok (.new 59, 3) := by decide +kernel
theorem dX7_init_114 : decode cX7_init 114 = .ok (.dup, 1) := by decide +kernel
theorem dX7_init_115 : decode cX7_init 115 = .ok (.invokespecial 61, 3) := by decide +kernel
theorem dX7_init_118 : decode cX7_init 118 = .ok (.putfield 62, 3) := by decide +kernel
theorem dX7_init_121 : decode cX7_init 121 = .ok (.aload_n 0, 1) := by decide +kernel
theorem dX7_init_122 : decode cX7_init 122 = .ok (.iconst 4, 1) := by decide +kernel
theorem dX7_init_123 : decode cX7_init 123 = .ok (.anewarray 66, 3) := by decide +kernel
theorem dX7_init_126 : decode cX7_init 126 = .ok (.putfield 68, 3) := by decide +kernel
theorem dX7_init_129 : decode cX7_init 129 = .ok (.iconst 0, 1) := by decide +kernel
theorem dX7_init_130 : decode cX7_init 130 = .ok (.istore_n 1, 1) := by decide +kernel
theorem dX7_init_131 : decode cX7_init 131 = .ok (.iload_n 1, 1) := by decide +kernel
theorem dX7_init_132 : decode cX7_init 132 = .ok (.iconst 4, 1) := by decide +kernel
theorem dX7_init_133 : decode cX7_init 133 = .ok (.if_icmp .ge 22, 3) := by decide +kernel
theorem dX7_init_136 : decode cX7_init 136 = .ok (.aload_n 0, 1) := by decide +kernel
theorem dX7_init_137 : decode cX7_init 137 = .ok (.getfield 68, 3) := by decide +kernel
theorem dX7_init_140 : decode cX7_init 140 = .ok (.iload_n 1, 1) := by decide +kernel
theorem dX7_init_141 : decode cX7_init 141 = .ok (.new 66, 3) := by decide +kernel
theorem dX7_init_144 : decode cX7_init 144 = .ok (.dup, 1) := by decide +kernel
theorem dX7_init_145 : decode cX7_init 145 = .ok (.invokespecial 72, 3) := by decide +kernel
theorem dX7_init_148 : decode cX7_init 148 = .ok (.aastore, 1) := by decide +kernel
theorem dX7_init_149 : decode cX7_init 149 = .ok (.iinc 1 1, 3) := by decide +kernel
theorem dX7_init_152 : decode cX7_init 152 = .ok (.goto (-21), 3) := by decide +kernel
theorem dX7_init_155 : decode cX7_init 155 = .ok (.return_, 1) := by decide +kernel
theorem dX7_type_0 : decode cX7_type 0 = .ok (.iload_n 1, 1) := by decide +kernel
theorem dX7_type_1 : decode cX7_type 1 = .ok (.iconst 2, 1) := by decide +kernel
theorem dX7_type_2 : decode cX7_type 2 = .ok (.invokestatic 73, 3) := by decide +kernel
theorem dX7_type_5 : decode cX7_type 5 = .ok (.ifCond .ne 13, 3) := by decide +kernel
theorem dX7_type_8 : decode cX7_type 8 = .ok (.iload_n 2, 1) := by decide +kernel
theorem dX7_type_9 : decode cX7_type 9 = .ok (.sipush 256, 3) := by decide +kernel
theorem dX7_type_12 : decode cX7_type 12 = .ok (.invokestatic 73, 3) := by decide +kernel
theorem dX7_type_15 : decode cX7_type 15 = .ok (.ifCond .eq 6, 3) := by decide +kernel
theorem dX7_type_18 : decode cX7_type 18 = .ok (.bipush (-2), 2) := by decide +kernel
theorem dX7_type_20 : decode cX7_type 20 = .ok (.ireturn, 1) := by decide +kernel
theorem dX7_type_21 : decode cX7_type 21 = .ok (.aload_n 0, 1) := by decide +kernel
theorem dX7_type_22 : decode cX7_type 22 = .ok (.iload_n 1, 1) := by decide +kernel
theorem dX7_type_23 : decode cX7_type 23 = .ok (.invokevirtual 77, 3) := by decide +kernel
theorem dX7_type_26 : decode cX7_type 26 = .ok (.astore_n 3, 1) := by decide +kernel
theorem dX7_type_27 : decode cX7_type 27 = .ok (.aload_n 3, 1) := by decide +kernel
theorem dX7_type_28 : decode cX7_type 28 = .ok (.getfield 81, 3) := by decide +kernel
theorem dX7_type_31 : decode cX7_type 31 = .ok (.bipush 47, 2) := by decide +kernel
theorem dX7_type_33 : decode cX7_type 33 = .ok (.if_icmp .lt 6, 3) := by decide +kernel
theorem dX7_type_36 : decode cX7_type 36 = .ok (.bipush (-4), 2) := by decide +kernel
theorem dX7_type_38 : decode cX7_type 38 = .ok (.ireturn, 1) := by decide +kernel
theorem dX7_type_39 : decode cX7_type 39 = .ok (.aload_n 3, 1) := by decide +kernel
theorem dX7_type_40 : decode cX7_type 40 = .ok (.iload_n 2, 1) := by decide +kernel
theorem dX7_type_41 : decode cX7_type 41 = .ok (.invokevirtual 85, 3) := by decide +kernel
theorem dX7_type_44 : decode cX7_type 44 = .ok (.aload_n 0, 1) := by decide +kernel
theorem dX7_type_45 : decode cX7_type 45 = .ok (.invokevirtual 89, 3) := by decide +kernel
theorem dX7_type_48 : decode cX7_type 48 = .ok (.aload_n 3, 1) := by decide +kernel
theorem dX7_type_49 : decode cX7_type 49 = .ok (.getfield 81, 3) := by decide +kernel
theorem dX7_type_52 : decode cX7_type 52 = .ok (.ireturn, 1) := by decide +kernel
theorem dX7_wipe_0 : decode cX7_wipe 0 = .ok (.iload_n 1, 1) := by decide +kernel
theorem dX7_wipe_1 : decode cX7_wipe 1 = .ok (.iconst 2, 1) := by decide +kernel
theorem dX7_wipe_2 : decode cX7_wipe 2 = .ok (.invokestatic 73, 3) := by decide +kernel
theorem dX7_wipe_5 : decode cX7_wipe 5 = .ok (.ifCond .eq 6, 3) := by decide +kernel
theorem dX7_wipe_8 : decode cX7_wipe 8 = .ok (.bipush (-2), 2) := by decide +kernel
theorem dX7_wipe_10 : decode cX7_wipe 10 = .ok (.ireturn, 1) := by decide +kernel
theorem dX7_wipe_11 : decode cX7_wipe 11 = .ok (.aload_n 0, 1) := by decide +kernel
theorem dX7_wipe_12 : decode cX7_wipe 12 = .ok (.iload_n 1, 1) := by decide +kernel
theorem dX7_wipe_13 : decode cX7_wipe 13 = .ok (.invokevirtual 77, 3) := by decide +kernel
theorem dX7_wipe_16 : decode cX7_wipe 16 = .ok (.astore_n 2, 1) := by decide +kernel
theorem dX7_wipe_17 : decode cX7_wipe 17 = .ok (.aload_n 2, 1) := by decide +kernel
theorem dX7_wipe_18 : decode cX7_wipe 18 = .ok (.getfield 81, 3) := by decide +kernel
theorem dX7_wipe_21 : decode cX7_wipe 21 = .ok (.istore_n 3, 1) := by decide +kernel
theorem dX7_wipe_22 : decode cX7_wipe 22 = .ok (.aload_n 2, 1) := by decide +kernel
theorem dX7_wipe_23 : decode cX7_wipe 23 = .ok (.invokevirtual 92, 3) := by decide +kernel
theorem dX7_wipe_26 : decode cX7_wipe 26 = .ok (.aload_n 0, 1) := by decide +kernel
theorem dX7_wipe_27 : decode cX7_wipe 27 = .ok (.invokevirtual 89, 3) := by decide +kernel
theorem dX7_wipe_30 : decode cX7_wipe 30 = .ok (.iload_n 3, 1) := by decide +kernel
theorem dX7_wipe_31 : decode cX7_wipe 31 = .ok (.ireturn, 1) := by decide +kernel
theorem dX7_undo_0 : decode cX7_undo 0 = .ok (.iload_n 1, 1) := by decide +kernel
theorem dX7_undo_1 : decode cX7_undo 1 = .ok (.iconst 2, 1) := by decide +kernel
theorem dX7_undo_2 : decode cX7_undo 2 = .ok (.invokestatic 73, 3) := by decide +kernel
theorem dX7_undo_5 : decode cX7_undo 5 = .ok (.ifCond .eq 6, 3) := by decide +kernel
theorem dX7_undo_8 : decode cX7_undo 8 = .ok (.bipush (-2), 2) := by decide +kernel
theorem dX7_undo_10 : decode cX7_undo 10 = .ok (.ireturn, 1) := by decide +kernel
theorem dX7_undo_11 : decode cX7_undo 11 = .ok (.aload_n 0, 1) := by decide +kernel
theorem dX7_undo_12 : decode cX7_undo 12 = .ok (.iload_n 1, 1) := by decide +kernel
theorem dX7_undo_13 : decode cX7_undo 13 = .ok (.invokevirtual 77, 3) := by decide +kernel
theorem dX7_undo_16 : decode cX7_undo 16 = .ok (.astore_n 2, 1) := by decide +kernel
theorem dX7_undo_17 : decode cX7_undo 17 = .ok (.aload_n 2, 1) := by decide +kernel
theorem dX7_undo_18 : decode cX7_undo 18 = .ok (.getfield 81, 3) := by decide +kernel
theorem dX7_undo_21 : decode cX7_undo 21 = .ok (.ifCond .ne 6, 3) := by decide +kernel
theorem dX7_undo_24 : decode cX7_undo 24 = .ok (.bipush (-3), 2) := by decide +kernel
theorem dX7_undo_26 : decode cX7_undo 26 = .ok (.ireturn, 1) := by decide +kernel
theorem dX7_undo_27 : decode cX7_undo 27 = .ok (.aload_n 2, 1) := by decide +kernel
theorem dX7_undo_28 : decode cX7_undo 28 = .ok (.invokevirtual 95, 3) := by decide +kernel
theorem dX7_undo_31 : decode cX7_undo 31 = .ok (.aload_n 0, 1) := by decide +kernel
theorem dX7_undo_32 : decode cX7_undo 32 = .ok (.invokevirtual 89, 3) := by decide +kernel
theorem dX7_undo_35 : decode cX7_undo 35 = .ok (.aload_n 2, 1) := by decide +kernel
theorem dX7_undo_36 : decode cX7_undo 36 = .ok (.getfield 81, 3) := by decide +kernel
theorem dX7_undo_39 : decode cX7_undo 39 = .ok (.ireturn, 1) := by decide +kernel
theorem dX7_fault_0 : decode cX7_fault 0 = .ok (.iload_n 1, 1) := by decide +kernel
theorem dX7_fault_1 : decode cX7_fault 1 = .ok (.iconst 2, 1) := by decide +kernel
theorem dX7_fault_2 : decode cX7_fault 2 = .ok (.invokestatic 73, 3) := by decide +kernel
theorem dX7_fault_5 : decode cX7_fault 5 = .ok (.ifCond .eq 8, 3) := by decide +kernel
theorem dX7_fault_8 : decode cX7_fault 8 = .ok (.bipush (-2), 2) := by decide +kernel
theorem dX7_fault_10 : decode cX7_fault 10 = .ok (.goto 11, 3) := by decide +kernel
theorem dX7_fault_13 : decode cX7_fault 13 = .ok (.aload_n 0, 1) := by decide +kernel
theorem dX7_fault_14 : decode cX7_fault 14 = .ok (.iload_n 1, 1) := by decide +kernel
theorem dX7_fault_15 : decode cX7_fault 15 = .ok (.invokevirtual 77, 3) := by decide +kernel
theorem dX7_fault_18 : decode cX7_fault 18 = .ok (.invokevirtual 98, 3) := by decide +kernel
theorem dX7_fault_21 : decode cX7_fault 21 = .ok (.ireturn, 1) := by decide +kernel
theorem dX7_virtue_0 : decode cX7_virtue 0 = .ok (.aload_n 0, 1) := by decide +kernel
theorem dX7_virtue_1 : decode cX7_virtue 1 = .ok (.iload_n 1, 1) := by decide +kernel
theorem dX7_virtue_2 : decode cX7_virtue 2 = .ok (.invokevirtual 102, 3) := by decide +kernel
theorem dX7_virtue_5 : decode cX7_virtue 5 = .ok (.ifCond .ne 11, 3) := by decide +kernel
theorem dX7_virtue_8 : decode cX7_virtue 8 = .ok (.iload_n 2, 1) := by decide +kernel
theorem dX7_virtue_9 : decode cX7_virtue 9 = .ok (.iconst 2, 1) := by decide +kernel
theorem dX7_virtue_10 : decode cX7_virtue 10 = .ok (.invokestatic 73, 3) := by decide +kernel
theorem dX7_virtue_13 : decode cX7_virtue 13 = .ok (.ifCond .eq 6, 3) := by decide +kernel
theorem dX7_virtue_16 : decode cX7_virtue 16 = .ok (.bipush (-2), 2) := by decide +kernel
theorem dX7_virtue_18 : decode cX7_virtue 18 = .ok (.ireturn, 1) := by decide +kernel
theorem dX7_virtue_19 : decode cX7_virtue 19 = .ok (.iload_n 2, 1) := by decide +kernel
theorem dX7_virtue_20 : decode cX7_virtue 20 = .ok (.ifCond .ne 15, 3) := by decide +kernel
theorem dX7_virtue_23 : decode cX7_virtue 23 = .ok (.aload_n 0, 1) := by decide +kernel
theorem dX7_virtue_24 : decode cX7_virtue 24 = .ok (.getfield 12, 3) := by decide +kernel
theorem dX7_virtue_27 : decode cX7_virtue 27 = .ok (.getfield 106, 3) := by decide +kernel
theorem dX7_virtue_30 : decode cX7_virtue 30 = .ok (.iload_n 1, 1) := by decide +kernel
theorem dX7_virtue_31 : decode cX7_virtue 31 = .ok (.iaload, 1) := by decide +kernel
theorem dX7_virtue_32 : decode cX7_virtue 32 = .ok (.goto 12, 3) := by decide +kernel
theorem dX7_virtue_35 : decode cX7_virtue 35 = .ok (.aload_n 0, 1) := by decide +kernel
theorem dX7_virtue_36 : decode cX7_virtue 36 = .ok (.getfield 12, 3) := by decide +kernel
theorem dX7_virtue_39 : decode cX7_virtue 39 = .ok (.getfield 110, 3) := by decide +kernel
theorem dX7_virtue_42 : decode cX7_virtue 42 = .ok (.iload_n 1, 1) := by decide +kernel
theorem dX7_virtue_43 : decode cX7_virtue 43 = .ok (.iaload, 1) := by decide +kernel
theorem dX7_virtue_44 : decode cX7_virtue 44 = .ok (.ireturn, 1) := by decide +kernel
theorem dX7_claimant_0 : decode cX7_claimant 0 = .ok (.aload_n 0, 1) := by decide +kernel
theorem dX7_claimant_1 : decode cX7_claimant 1 = .ok (.iload_n 1, 1) := by decide +kernel
theorem dX7_claimant_2 : decode cX7_claimant 2 = .ok (.invokevirtual 113, 3) := by decide +kernel
theorem dX7_claimant_5 : decode cX7_claimant 5 = .ok (.ifCond .ne 11, 3) := by decide +kernel
theorem dX7_claimant_8 : decode cX7_claimant 8 = .ok (.iload_n 2, 1) := by decide +kernel
theorem dX7_claimant_9 : decode cX7_claimant 9 = .ok (.iconst 3, 1) := by decide +kernel
theorem dX7_claimant_10 : decode cX7_claimant 10 = .ok (.invokestatic 73, 3) := by decide +kernel
theorem dX7_claimant_13 : decode cX7_claimant 13 = .ok (.ifCond .eq 6, 3) := by decide +kernel
theorem dX7_claimant_16 : decode cX7_claimant 16 = .ok (.bipush (-2), 2) := by decide +kernel
theorem dX7_claimant_18 : decode cX7_claimant 18 = .ok (.ireturn, 1) := by decide +kernel
theorem dX7_claimant_19 : decode cX7_claimant 19 = .ok (.iload_n 2, 1) := by decide +kernel
theorem dX7_claimant_20 : decode cX7_claimant 20 = .ok (.ifCond .ne 13, 3) := by decide +kernel
theorem dX7_claimant_23 : decode cX7_claimant 23 = .ok (.aload_n 0, 1) := by decide +kernel
theorem dX7_claimant_24 : decode cX7_claimant 24 = .ok (.getfield 18, 3) := by decide +kernel
theorem dX7_claimant_27 : decode cX7_claimant 27 = .ok (.getfield 116, 3) := by decide +kernel
theorem dX7_claimant_30 : decode cX7_claimant 30 = .ok (.iload_n 1, 1) := by decide +kernel
theorem dX7_claimant_31 : decode cX7_claimant 31 = .ok (.iaload, 1) := by decide +kernel
theorem dX7_claimant_32 : decode cX7_claimant 32 = .ok (.ireturn, 1) := by decide +kernel
theorem dX7_claimant_33 : decode cX7_claimant 33 = .ok (.iload_n 2, 1) := by decide +kernel
theorem dX7_claimant_34 : decode cX7_claimant 34 = .ok (.iconst 1, 1) := by decide +kernel
theorem dX7_claimant_35 : decode cX7_claimant 35 = .ok (.if_icmp .ne 15, 3) := by decide +kernel
theorem dX7_claimant_38 : decode cX7_claimant 38 = .ok (.aload_n 0, 1) := by decide +kernel
theorem dX7_claimant_39 : decode cX7_claimant 39 = .ok (.getfield 18, 3) := by decide +kernel
theorem dX7_claimant_42 : decode cX7_claimant 42 = .ok (.getfield 106, 3) := by decide +kernel
theorem dX7_claimant_45 : decode cX7_claimant 45 = .ok (.iload_n 1, 1) := by decide +kernel
theorem dX7_claimant_46 : decode cX7_claimant 46 = .ok (.iaload, 1) := by decide +kernel
theorem dX7_claimant_47 : decode cX7_claimant 47 = .ok (.goto 12, 3) := by decide +kernel
theorem dX7_claimant_50 : decode cX7_claimant 50 = .ok (.aload_n 0, 1) := by decide +kernel
theorem dX7_claimant_51 : decode cX7_claimant 51 = .ok (.getfield 18, 3) := by decide +kernel
theorem dX7_claimant_54 : decode cX7_claimant 54 = .ok (.getfield 110, 3) := by decide +kernel
theorem dX7_claimant_57 : decode cX7_claimant 57 = .ok (.iload_n 1, 1) := by decide +kernel
theorem dX7_claimant_58 : decode cX7_claimant 58 = .ok (.iaload, 1) := by decide +kernel
theorem dX7_claimant_59 : decode cX7_claimant 59 = .ok (.ireturn, 1) := by decide +kernel
theorem dX7_set_0 : decode cX7_set 0 = .ok (.iload_n 1, 1) := by decide +kernel
theorem dX7_set_1 : decode cX7_set 1 = .ok (.ifCond .ne 31, 3) := by decide +kernel
theorem dX7_set_4 : decode cX7_set 4 = .ok (.iload_n 2, 1) := by decide +kernel
theorem dX7_set_5 : decode cX7_set 5 = .ok (.ifCond .lt 27, 3) := by decide +kernel
theorem dX7_set_8 : decode cX7_set 8 = .ok (.iload_n 2, 1) := by decide +kernel
theorem dX7_set_9 : decode cX7_set 9 = .ok (.iconst 4, 1) := by decide +kernel
theorem dX7_set_10 : decode cX7_set 10 = .ok (.if_icmp .gt 22, 3) := by decide +kernel
theorem dX7_set_13 : decode cX7_set 13 = .ok (.aload_n 0, 1) := by decide +kernel
theorem dX7_set_14 : decode cX7_set 14 = .ok (.getfield 26, 3) := by decide +kernel
theorem dX7_set_17 : decode cX7_set 17 = .ok (.getfield 119, 3) := by decide +kernel
theorem dX7_set_20 : decode cX7_set 20 = .ok (.istore_n 3, 1) := by decide +kernel
theorem dX7_set_21 : decode cX7_set 21 = .ok (.aload_n 0, 1) := by decide +kernel
theorem dX7_set_22 : decode cX7_set 22 = .ok (.getfield 26, 3) := by decide +kernel
theorem dX7_set_25 : decode cX7_set 25 = .ok (.iload_n 2, 1) := by decide +kernel
theorem dX7_set_26 : decode cX7_set 26 = .ok (.putfield 119, 3) := by decide +kernel
theorem dX7_set_29 : decode cX7_set 29 = .ok (.goto 75, 3) := by decide +kernel
theorem dX7_set_32 : decode cX7_set 32 = .ok (.iload_n 1, 1) := by decide +kernel
theorem dX7_set_33 : decode cX7_set 33 = .ok (.iconst 1, 1) := by decide +kernel
theorem dX7_set_34 : decode cX7_set 34 = .ok (.if_icmp .ne 32, 3) := by decide +kernel
theorem dX7_set_37 : decode cX7_set 37 = .ok (.iload_n 2, 1) := by decide +kernel
theorem dX7_set_38 : decode cX7_set 38 = .ok (.ifCond .lt 28, 3) := by decide +kernel
theorem dX7_set_41 : decode cX7_set 41 = .ok (.iload_n 2, 1) := by decide +kernel
theorem dX7_set_42 : decode cX7_set 42 = .ok (.bipush 16, 2) := by decide +kernel
theorem dX7_set_44 : decode cX7_set 44 = .ok (.if_icmp .ge 22, 3) := by decide +kernel
theorem dX7_set_47 : decode cX7_set 47 = .ok (.aload_n 0, 1) := by decide +kernel
theorem dX7_set_48 : decode cX7_set 48 = .ok (.getfield 26, 3) := by decide +kernel
theorem dX7_set_51 : decode cX7_set 51 = .ok (.getfield 122, 3) := by decide +kernel
theorem dX7_set_54 : decode cX7_set 54 = .ok (.istore_n 3, 1) := by decide +kernel
theorem dX7_set_55 : decode cX7_set 55 = .ok (.aload_n 0, 1) := by decide +kernel
theorem dX7_set_56 : decode cX7_set 56 = .ok (.getfield 26, 3) := by decide +kernel
theorem dX7_set_59 : decode cX7_set 59 = .ok (.iload_n 2, 1) := by decide +kernel
theorem dX7_set_60 : decode cX7_set 60 = .ok (.putfield 122, 3) := by decide +kernel
theorem dX7_set_63 : decode cX7_set 63 = .ok (.goto 41, 3) := by decide +kernel
theorem dX7_set_66 : decode cX7_set 66 = .ok (.iload_n 1, 1) := by decide +kernel
theorem dX7_set_67 : decode cX7_set 67 = .ok (.iconst 2, 1) := by decide +kernel
theorem dX7_set_68 : decode cX7_set 68 = .ok (.if_icmp .ne 33, 3) := by decide +kernel
theorem dX7_set_71 : decode cX7_set 71 = .ok (.iload_n 2, 1) := by decide +kernel
theorem dX7_set_72 : decode cX7_set 72 = .ok (.iconst 1, 1) := by decide +kernel
theorem dX7_set_73 : decode cX7_set 73 = .ok (.if_icmp .lt 28, 3) := by decide +kernel
theorem dX7_set_76 : decode cX7_set 76 = .ok (.iload_n 2, 1) := by decide +kernel
theorem dX7_set_77 : decode cX7_set 77 = .ok (.bipush 9, 2) := by decide +kernel
theorem dX7_set_79 : decode cX7_set 79 = .ok (.if_icmp .gt 22, 3) := by decide +kernel
theorem dX7_set_82 : decode cX7_set 82 = .ok (.aload_n 0, 1) := by decide +kernel
theorem dX7_set_83 : decode cX7_set 83 = .ok (.getfield 26, 3) := by decide +kernel
theorem dX7_set_86 : decode cX7_set 86 = .ok (.getfield 125, 3) := by decide +kernel
theorem dX7_set_89 : decode cX7_set 89 = .ok (.istore_n 3, 1) := by decide +kernel
theorem dX7_set_90 : decode cX7_set 90 = .ok (.aload_n 0, 1) := by decide +kernel
theorem dX7_set_91 : decode cX7_set 91 = .ok (.getfield 26, 3) := by decide +kernel
theorem dX7_set_94 : decode cX7_set 94 = .ok (.iload_n 2, 1) := by decide +kernel
theorem dX7_set_95 : decode cX7_set 95 = .ok (.putfield 125, 3) := by decide +kernel
theorem dX7_set_98 : decode cX7_set 98 = .ok (.goto 6, 3) := by decide +kernel
theorem dX7_set_101 : decode cX7_set 101 = .ok (.bipush (-2), 2) := by decide +kernel
theorem dX7_set_103 : decode cX7_set 103 = .ok (.ireturn, 1) := by decide +kernel
theorem dX7_set_104 : decode cX7_set 104 = .ok (.aload_n 0, 1) := by decide +kernel
theorem dX7_set_105 : decode cX7_set 105 = .ok (.iconst 0, 1) := by decide +kernel
theorem dX7_set_106 : decode cX7_set 106 = .ok (.putfield 128, 3) := by decide +kernel
theorem dX7_set_109 : decode cX7_set 109 = .ok (.iload_n 3, 1) := by decide +kernel
theorem dX7_set_110 : decode cX7_set 110 = .ok (.ireturn, 1) := by decide +kernel
theorem dX7_handing_0 : decode cX7_handing 0 = .ok (.aload_n 0, 1) := by decide +kernel
theorem dX7_handing_1 : decode cX7_handing 1 = .ok (.iconst 0, 1) := by decide +kernel
theorem dX7_handing_2 : decode cX7_handing 2 = .ok (.putfield 128, 3) := by decide +kernel
theorem dX7_handing_5 : decode cX7_handing 5 = .ok (.aload_n 0, 1) := by decide +kernel
theorem dX7_handing_6 : decode cX7_handing 6 = .ok (.getfield 33, 3) := by decide +kernel
theorem dX7_handing_9 : decode cX7_handing 9 = .ok (.iload_n 1, 1) := by decide +kernel
theorem dX7_handing_10 : decode cX7_handing 10 = .ok (.iload_n 2, 1) := by decide +kernel
theorem dX7_handing_11 : decode cX7_handing 11 = .ok (.invokevirtual 132, 3) := by decide +kernel
theorem dX7_handing_14 : decode cX7_handing 14 = .ok (.ireturn, 1) := by decide +kernel
theorem dX7_claim_0 : decode cX7_claim 0 = .ok (.aload_n 0, 1) := by decide +kernel
theorem dX7_claim_1 : decode cX7_claim 1 = .ok (.iconst 0, 1) := by decide +kernel
theorem dX7_claim_2 : decode cX7_claim 2 = .ok (.putfield 128, 3) := by decide +kernel
theorem dX7_claim_5 : decode cX7_claim 5 = .ok (.aload_n 0, 1) := by decide +kernel
theorem dX7_claim_6 : decode cX7_claim 6 = .ok (.getfield 37, 3) := by decide +kernel
theorem dX7_claim_9 : decode cX7_claim 9 = .ok (.iload_n 1, 1) := by decide +kernel
theorem dX7_claim_10 : decode cX7_claim 10 = .ok (.iload_n 2, 1) := by decide +kernel
theorem dX7_claim_11 : decode cX7_claim 11 = .ok (.invokevirtual 132, 3) := by decide +kernel
theorem dX7_claim_14 : decode cX7_claim 14 = .ok (.ireturn, 1) := by decide +kernel
theorem dX7_back_0 : decode cX7_back 0 = .ok (.iload_n 1, 1) := by decide +kernel
theorem dX7_back_1 : decode cX7_back 1 = .ok (.iconst 2, 1) := by decide +kernel
theorem dX7_back_2 : decode cX7_back 2 = .ok (.invokestatic 73, 3) := by decide +kernel
theorem dX7_back_5 : decode cX7_back 5 = .ok (.ifCond .eq 6, 3) := by decide +kernel
theorem dX7_back_8 : decode cX7_back 8 = .ok (.bipush (-2), 2) := by decide +kernel
theorem dX7_back_10 : decode cX7_back 10 = .ok (.ireturn, 1) := by decide +kernel
theorem dX7_back_11 : decode cX7_back 11 = .ok (.iload_n 1, 1) := by decide +kernel
theorem dX7_back_12 : decode cX7_back 12 = .ok (.ifCond .ne 10, 3) := by decide +kernel
theorem dX7_back_15 : decode cX7_back 15 = .ok (.aload_n 0, 1) := by decide +kernel
theorem dX7_back_16 : decode cX7_back 16 = .ok (.getfield 33, 3) := by decide +kernel
theorem dX7_back_19 : decode cX7_back 19 = .ok (.goto 7, 3) := by decide +kernel
theorem dX7_back_22 : decode cX7_back 22 = .ok (.aload_n 0, 1) := by decide +kernel
theorem dX7_back_23 : decode cX7_back 23 = .ok (.getfield 37, 3) := by decide +kernel
theorem dX7_back_26 : decode cX7_back 26 = .ok (.astore_n 2, 1) := by decide +kernel
theorem dX7_back_27 : decode cX7_back 27 = .ok (.aload_n 2, 1) := by decide +kernel
theorem dX7_back_28 : decode cX7_back 28 = .ok (.getfield 135, 3) := by decide +kernel
theorem dX7_back_31 : decode cX7_back 31 = .ok (.ifCond .ne 6, 3) := by decide +kernel
theorem dX7_back_34 : decode cX7_back 34 = .ok (.bipush (-3), 2) := by decide +kernel
theorem dX7_back_36 : decode cX7_back 36 = .ok (.ireturn, 1) := by decide +kernel
theorem dX7_back_37 : decode cX7_back 37 = .ok (.aload_n 0, 1) := by decide +kernel
theorem dX7_back_38 : decode cX7_back 38 = .ok (.iconst 0, 1) := by decide +kernel
theorem dX7_back_39 : decode cX7_back 39 = .ok (.putfield 128, 3) := by decide +kernel
theorem dX7_back_42 : decode cX7_back 42 = .ok (.aload_n 2, 1) := by decide +kernel
theorem dX7_back_43 : decode cX7_back 43 = .ok (.dup, 1) := by decide +kernel
theorem dX7_back_44 : decode cX7_back 44 = .ok (.getfield 135, 3) := by decide +kernel
theorem dX7_back_47 : decode cX7_back 47 = .ok (.iconst 1, 1) := by decide +kernel
theorem dX7_back_48 : decode cX7_back 48 = .ok (.isub, 1) := by decide +kernel
theorem dX7_back_49 : decode cX7_back 49 = .ok (.putfield 135, 3) := by decide +kernel
theorem dX7_back_52 : decode cX7_back 52 = .ok (.aload_n 2, 1) := by decide +kernel
theorem dX7_back_53 : decode cX7_back 53 = .ok (.getfield 135, 3) := by decide +kernel
theorem dX7_back_56 : decode cX7_back 56 = .ok (.ireturn, 1) := by decide +kernel
theorem dX7_read_0 : decode cX7_read 0 = .ok (.iload_n 1, 1) := by decide +kernel
theorem dX7_read_1 : decode cX7_read 1 = .ok (.iconst 4, 1) := by decide +kernel
theorem dX7_read_2 : decode cX7_read 2 = .ok (.invokestatic 73, 3) := by decide +kernel
theorem dX7_read_5 : decode cX7_read 5 = .ok (.ifCond .eq 6, 3) := by decide +kernel
theorem dX7_read_8 : decode cX7_read 8 = .ok (.bipush (-2), 2) := by decide +kernel
theorem dX7_read_10 : decode cX7_read 10 = .ok (.ireturn, 1) := by decide +kernel
theorem dX7_read_11 : decode cX7_read 11 = .ok (.aload_n 0, 1) := by decide +kernel
theorem dX7_read_12 : decode cX7_read 12 = .ok (.getfield 68, 3) := by decide +kernel
theorem dX7_read_15 : decode cX7_read 15 = .ok (.iload_n 1, 1) := by decide +kernel
theorem dX7_read_16 : decode cX7_read 16 = .ok (.aaload, 1) := by decide +kernel
theorem dX7_read_17 : decode cX7_read 17 = .ok (.astore_n 2, 1) := by decide +kernel
theorem dX7_read_18 : decode cX7_read 18 = .ok (.aload_n 2, 1) := by decide +kernel
theorem dX7_read_19 : decode cX7_read 19 = .ok (.invokevirtual 136, 3) := by decide +kernel
theorem dX7_read_22 : decode cX7_read 22 = .ok (.ifCond .eq 9, 3) := by decide +kernel
theorem dX7_read_25 : decode cX7_read 25 = .ok (.aload_n 0, 1) := by decide +kernel
theorem dX7_read_26 : decode cX7_read 26 = .ok (.iconst 1, 1) := by decide +kernel
theorem dX7_read_27 : decode cX7_read 27 = .ok (.invokevirtual 140, 3) := by decide +kernel
theorem dX7_read_30 : decode cX7_read 30 = .ok (.ireturn, 1) := by decide +kernel
theorem dX7_read_31 : decode cX7_read 31 = .ok (.iconst 0, 1) := by decide +kernel
theorem dX7_read_32 : decode cX7_read 32 = .ok (.istore_n 3, 1) := by decide +kernel
theorem dX7_read_33 : decode cX7_read 33 = .ok (.iconst 0, 1) := by decide +kernel
theorem dX7_read_34 : decode cX7_read 34 = .ok (.istore 4, 2) := by decide +kernel
theorem dX7_read_36 : decode cX7_read 36 = .ok (.iload 4, 2) := by decide +kernel
theorem dX7_read_38 : decode cX7_read 38 = .ok (.iconst 1, 1) := by decide +kernel
theorem dX7_read_39 : decode cX7_read 39 = .ok (.iadd, 1) := by decide +kernel
theorem dX7_read_40 : decode cX7_read 40 = .ok (.aload_n 2, 1) := by decide +kernel
theorem dX7_read_41 : decode cX7_read 41 = .ok (.getfield 144, 3) := by decide +kernel
theorem dX7_read_44 : decode cX7_read 44 = .ok (.if_icmp .ge 38, 3) := by decide +kernel
theorem dX7_read_47 : decode cX7_read 47 = .ok (.aload_n 0, 1) := by decide +kernel
theorem dX7_read_48 : decode cX7_read 48 = .ok (.aload_n 2, 1) := by decide +kernel
theorem dX7_read_49 : decode cX7_read 49 = .ok (.getfield 145, 3) := by decide +kernel
theorem dX7_read_52 : decode cX7_read 52 = .ok (.iload 4, 2) := by decide +kernel
theorem dX7_read_54 : decode cX7_read 54 = .ok (.iaload, 1) := by decide +kernel
theorem dX7_read_55 : decode cX7_read 55 = .ok (.aload_n 2, 1) := by decide +kernel
theorem dX7_read_56 : decode cX7_read 56 = .ok (.getfield 145, 3) := by decide +kernel
theorem dX7_read_59 : decode cX7_read 59 = .ok (.iload 4, 2) := by decide +kernel
theorem dX7_read_61 : decode cX7_read 61 = .ok (.iconst 1, 1) := by decide +kernel
theorem dX7_read_62 : decode cX7_read 62 = .ok (.iadd, 1) := by decide +kernel
theorem dX7_read_63 : decode cX7_read 63 = .ok (.iaload, 1) := by decide +kernel
theorem dX7_read_64 : decode cX7_read 64 = .ok (.invokevirtual 148, 3) := by decide +kernel
theorem dX7_read_67 : decode cX7_read 67 = .ok (.ifCond .ge 6, 3) := by decide +kernel
theorem dX7_read_70 : decode cX7_read 70 = .ok (.goto 12, 3) := by decide +kernel
theorem dX7_read_73 : decode cX7_read 73 = .ok (.iinc 3 1, 3) := by decide +kernel
theorem dX7_read_76 : decode cX7_read 76 = .ok (.iinc 4 2, 3) := by decide +kernel
theorem dX7_read_79 : decode cX7_read 79 = .ok (.goto (-43), 3) := by decide +kernel
theorem dX7_read_82 : decode cX7_read 82 = .ok (.iload_n 3, 1) := by decide +kernel
theorem dX7_read_83 : decode cX7_read 83 = .ok (.ireturn, 1) := by decide +kernel
theorem dX7_behind_0 : decode cX7_behind 0 = .ok (.iload_n 1, 1) := by decide +kernel
theorem dX7_behind_1 : decode cX7_behind 1 = .ok (.bipush 40, 2) := by decide +kernel
theorem dX7_behind_3 : decode cX7_behind 3 = .ok (.invokestatic 73, 3) := by decide +kernel
theorem dX7_behind_6 : decode cX7_behind 6 = .ok (.ifCond .ne 11, 3) := by decide +kernel
theorem dX7_behind_9 : decode cX7_behind 9 = .ok (.iload_n 2, 1) := by decide +kernel
theorem dX7_behind_10 : decode cX7_behind 10 = .ok (.iconst 3, 1) := by decide +kernel
theorem dX7_behind_11 : decode cX7_behind 11 = .ok (.invokestatic 73, 3) := by decide +kernel
theorem dX7_behind_14 : decode cX7_behind 14 = .ok (.ifCond .eq 6, 3) := by decide +kernel
theorem dX7_behind_17 : decode cX7_behind 17 = .ok (.bipush (-2), 2) := by decide +kernel
theorem dX7_behind_19 : decode cX7_behind 19 = .ok (.ireturn, 1) := by decide +kernel
theorem dX7_behind_20 : decode cX7_behind 20 = .ok (.aload_n 0, 1) := by decide +kernel
theorem dX7_behind_21 : decode cX7_behind 21 = .ok (.invokevirtual 151, 3) := by decide +kernel
theorem dX7_behind_24 : decode cX7_behind 24 = .ok (.astore_n 3, 1) := by decide +kernel
theorem dX7_behind_25 : decode cX7_behind 25 = .ok (.iload_n 2, 1) := by decide +kernel
theorem dX7_behind_26 : decode cX7_behind 26 = .ok (.ifCond .ne 10, 3) := by decide +kernel
theorem dX7_behind_29 : decode cX7_behind 29 = .ok (.aload_n 3, 1) := by decide +kernel
theorem dX7_behind_30 : decode cX7_behind 30 = .ok (.getfield 155, 3) := by decide +kernel
theorem dX7_behind_33 : decode cX7_behind 33 = .ok (.iload_n 1, 1) := by decide +kernel
theorem dX7_behind_34 : decode cX7_behind 34 = .ok (.iaload, 1) := by decide +kernel
theorem dX7_behind_35 : decode cX7_behind 35 = .ok (.ireturn, 1) := by decide +kernel
theorem dX7_behind_36 : decode cX7_behind 36 = .ok (.iload_n 2, 1) := by decide +kernel
theorem dX7_behind_37 : decode cX7_behind 37 = .ok (.iconst 1, 1) := by decide +kernel
theorem dX7_behind_38 : decode cX7_behind 38 = .ok (.if_icmp .ne 12, 3) := by decide +kernel
theorem dX7_behind_41 : decode cX7_behind 41 = .ok (.aload_n 3, 1) := by decide +kernel
theorem dX7_behind_42 : decode cX7_behind 42 = .ok (.getfield 158, 3) := by decide +kernel
theorem dX7_behind_45 : decode cX7_behind 45 = .ok (.iload_n 1, 1) := by decide +kernel
theorem dX7_behind_46 : decode cX7_behind 46 = .ok (.iaload, 1) := by decide +kernel
theorem dX7_behind_47 : decode cX7_behind 47 = .ok (.goto 9, 3) := by decide +kernel
theorem dX7_behind_50 : decode cX7_behind 50 = .ok (.aload_n 3, 1) := by decide +kernel
theorem dX7_behind_51 : decode cX7_behind 51 = .ok (.getfield 161, 3) := by decide +kernel
theorem dX7_behind_54 : decode cX7_behind 54 = .ok (.iload_n 1, 1) := by decide +kernel
theorem dX7_behind_55 : decode cX7_behind 55 = .ok (.iaload, 1) := by decide +kernel
theorem dX7_behind_56 : decode cX7_behind 56 = .ok (.ireturn, 1) := by decide +kernel
theorem dX7_gone_0 : decode cX7_gone 0 = .ok (.aload_n 0, 1) := by decide +kernel
theorem dX7_gone_1 : decode cX7_gone 1 = .ok (.iload_n 1, 1) := by decide +kernel
theorem dX7_gone_2 : decode cX7_gone 2 = .ok (.invokevirtual 102, 3) := by decide +kernel
theorem dX7_gone_5 : decode cX7_gone 5 = .ok (.ifCond .ne 11, 3) := by decide +kernel
theorem dX7_gone_8 : decode cX7_gone 8 = .ok (.iload_n 2, 1) := by decide +kernel
theorem dX7_gone_9 : decode cX7_gone 9 = .ok (.iconst 2, 1) := by decide +kernel
theorem dX7_gone_10 : decode cX7_gone 10 = .ok (.invokestatic 73, 3) := by decide +kernel
theorem dX7_gone_13 : decode cX7_gone 13 = .ok (.ifCond .eq 6, 3) := by decide +kernel
theorem dX7_gone_16 : decode cX7_gone 16 = .ok (.bipush (-2), 2) := by decide +kernel
theorem dX7_gone_18 : decode cX7_gone 18 = .ok (.ireturn, 1) := by decide +kernel
theorem dX7_gone_19 : decode cX7_gone 19 = .ok (.aload_n 0, 1) := by decide +kernel
theorem dX7_gone_20 : decode cX7_gone 20 = .ok (.invokevirtual 151, 3) := by decide +kernel
theorem dX7_gone_23 : decode cX7_gone 23 = .ok (.astore_n 3, 1) := by decide +kernel
theorem dX7_gone_24 : decode cX7_gone 24 = .ok (.iload_n 2, 1) := by decide +kernel
theorem dX7_gone_25 : decode cX7_gone 25 = .ok (.ifCond .ne 12, 3) := by decide +kernel
theorem dX7_gone_28 : decode cX7_gone 28 = .ok (.aload_n 3, 1) := by decide +kernel
theorem dX7_gone_29 : decode cX7_gone 29 = .ok (.getfield 164, 3) := by decide +kernel
theorem dX7_gone_32 : decode cX7_gone 32 = .ok (.iload_n 1, 1) := by decide +kernel
theorem dX7_gone_33 : decode cX7_gone 33 = .ok (.iaload, 1) := by decide +kernel
theorem dX7_gone_34 : decode cX7_gone 34 = .ok (.goto 9, 3) := by decide +kernel
theorem dX7_gone_37 : decode cX7_gone 37 = .ok (.aload_n 3, 1) := by decide +kernel
theorem dX7_gone_38 : decode cX7_gone 38 = .ok (.getfield 167, 3) := by decide +kernel
theorem dX7_gone_41 : decode cX7_gone 41 = .ok (.iload_n 1, 1) := by decide +kernel
theorem dX7_gone_42 : decode cX7_gone 42 = .ok (.iaload, 1) := by decide +kernel
theorem dX7_gone_43 : decode cX7_gone 43 = .ok (.ireturn, 1) := by decide +kernel
theorem dX7_empty_0 : decode cX7_empty 0 = .ok (.aload_n 0, 1) := by decide +kernel
theorem dX7_empty_1 : decode cX7_empty 1 = .ok (.invokevirtual 151, 3) := by decide +kernel
theorem dX7_empty_4 : decode cX7_empty 4 = .ok (.getfield 170, 3) := by decide +kernel
theorem dX7_empty_7 : decode cX7_empty 7 = .ok (.lstore_n 1, 1) := by decide +kernel
theorem dX7_empty_8 : decode cX7_empty 8 = .ok (.iconst 1, 1) := by decide +kernel
theorem dX7_empty_9 : decode cX7_empty 9 = .ok (.aload_n 0, 1) := by decide +kernel
theorem dX7_empty_10 : decode cX7_empty 10 = .ok (.getfield 37, 3) := by decide +kernel
theorem dX7_empty_13 : decode cX7_empty 13 = .ok (.getfield 135, 3) := by decide +kernel
theorem dX7_empty_16 : decode cX7_empty 16 = .ok (.ishl, 1) := by decide +kernel
theorem dX7_empty_17 : decode cX7_empty 17 = .ok (.iconst 1, 1) := by decide +kernel
theorem dX7_empty_18 : decode cX7_empty 18 = .ok (.isub, 1) := by decide +kernel
theorem dX7_empty_19 : decode cX7_empty 19 = .ok (.istore_n 3, 1) := by decide +kernel
theorem dX7_empty_20 : decode cX7_empty 20 = .ok (.iload_n 3, 1) := by decide +kernel
theorem dX7_empty_21 : decode cX7_empty 21 = .ok (.lload_n 1, 1) := by decide +kernel
theorem dX7_empty_22 : decode cX7_empty 22 = .ok (.l2i, 1) := by decide +kernel
theorem dX7_empty_23 : decode cX7_empty 23 = .ok (.iconst (-1), 1) := by decide +kernel
theorem dX7_empty_24 : decode cX7_empty 24 = .ok (.ixor, 1) := by decide +kernel
theorem dX7_empty_25 : decode cX7_empty 25 = .ok (.iand, 1) := by decide +kernel
theorem dX7_empty_26 : decode cX7_empty 26 = .ok (.ireturn, 1) := by decide +kernel
theorem dX7_sale_0 : decode cX7_sale 0 = .ok (.aload_n 0, 1) := by decide +kernel
theorem dX7_sale_1 : decode cX7_sale 1 = .ok (.invokevirtual 151, 3) := by decide +kernel
theorem dX7_sale_4 : decode cX7_sale 4 = .ok (.getfield 174, 3) := by decide +kernel
theorem dX7_sale_7 : decode cX7_sale 7 = .ok (.istore_n 1, 1) := by decide +kernel
theorem dX7_sale_8 : decode cX7_sale 8 = .ok (.iconst 0, 1) := by decide +kernel
theorem dX7_sale_9 : decode cX7_sale 9 = .ok (.istore_n 2, 1) := by decide +kernel
theorem dX7_sale_10 : decode cX7_sale 10 = .ok (.iconst 0, 1) := by decide +kernel
theorem dX7_sale_11 : decode cX7_sale 11 = .ok (.istore_n 3, 1) := by decide +kernel
theorem dX7_sale_12 : decode cX7_sale 12 = .ok (.iload_n 3, 1) := by decide +kernel
theorem dX7_sale_13 : decode cX7_sale 13 = .ok (.aload_n 0, 1) := by decide +kernel
theorem dX7_sale_14 : decode cX7_sale 14 = .ok (.getfield 12, 3) := by decide +kernel
theorem dX7_sale_17 : decode cX7_sale 17 = .ok (.getfield 177, 3) := by decide +kernel
theorem dX7_sale_20 : decode cX7_sale 20 = .ok (.if_icmp .ge 30, 3) := by decide +kernel
theorem dX7_sale_23 : decode cX7_sale 23 = .ok (.iload_n 1, 1) := by decide +kernel
theorem dX7_sale_24 : decode cX7_sale 24 = .ok (.iload_n 3, 1) := by decide +kernel
theorem dX7_sale_25 : decode cX7_sale 25 = .ok (.ishr, 1) := by decide +kernel
theorem dX7_sale_26 : decode cX7_sale 26 = .ok (.iconst 1, 1) := by decide +kernel
theorem dX7_sale_27 : decode cX7_sale 27 = .ok (.iand, 1) := by decide +kernel
theorem dX7_sale_28 : decode cX7_sale 28 = .ok (.iconst 1, 1) := by decide +kernel
theorem dX7_sale_29 : decode cX7_sale 29 = .ok (.if_icmp .ne 15, 3) := by decide +kernel
theorem dX7_sale_32 : decode cX7_sale 32 = .ok (.iload_n 2, 1) := by decide +kernel
theorem dX7_sale_33 : decode cX7_sale 33 = .ok (.aload_n 0, 1) := by decide +kernel
theorem dX7_sale_34 : decode cX7_sale 34 = .ok (.getfield 12, 3) := by decide +kernel
theorem dX7_sale_37 : decode cX7_sale 37 = .ok (.getfield 110, 3) := by decide +kernel
theorem dX7_sale_40 : decode cX7_sale 40 = .ok (.iload_n 3, 1) := by decide +kernel
theorem dX7_sale_41 : decode cX7_sale 41 = .ok (.iaload, 1) := by decide +kernel
theorem dX7_sale_42 : decode cX7_sale 42 = .ok (.iadd, 1) := by decide +kernel
theorem dX7_sale_43 : decode cX7_sale 43 = .ok (.istore_n 2, 1) := by decide +kernel
theorem dX7_sale_44 : decode cX7_sale 44 = .ok (.iinc 3 1, 3) := by decide +kernel
theorem dX7_sale_47 : decode cX7_sale 47 = .ok (.goto (-35), 3) := by decide +kernel
theorem dX7_sale_50 : decode cX7_sale 50 = .ok (.iload_n 2, 1) := by decide +kernel
theorem dX7_sale_51 : decode cX7_sale 51 = .ok (.ireturn, 1) := by decide +kernel
theorem dX7_saint_0 : decode cX7_saint 0 = .ok (.aload_n 0, 1) := by decide +kernel
theorem dX7_saint_1 : decode cX7_saint 1 = .ok (.invokevirtual 151, 3) := by decide +kernel
theorem dX7_saint_4 : decode cX7_saint 4 = .ok (.getfield 180, 3) := by decide +kernel
theorem dX7_saint_7 : decode cX7_saint 7 = .ok (.ireturn, 1) := by decide +kernel
theorem dX7_fitting_0 : decode cX7_fitting 0 = .ok (.iload_n 1, 1) := by decide +kernel
theorem dX7_fitting_1 : decode cX7_fitting 1 = .ok (.ifCond .ne 25, 3) := by decide +kernel
theorem dX7_fitting_4 : decode cX7_fitting 4 = .ok (.aload_n 0, 1) := by decide +kernel
theorem dX7_fitting_5 : decode cX7_fitting 5 = .ok (.iload_n 2, 1) := by decide +kernel
theorem dX7_fitting_6 : decode cX7_fitting 6 = .ok (.invokevirtual 113, 3) := by decide +kernel
theorem dX7_fitting_9 : decode cX7_fitting 9 = .ok (.ifCond .eq 8, 3) := by decide +kernel
theorem dX7_fitting_12 : decode cX7_fitting 12 = .ok (.bipush (-2), 2) := by decide +kernel
theorem dX7_fitting_14 : decode cX7_fitting 14 = .ok (.goto 11, 3) := by decide +kernel
theorem dX7_fitting_17 : decode cX7_fitting 17 = .ok (.aload_n 0, 1) := by decide +kernel
theorem dX7_fitting_18 : decode cX7_fitting 18 = .ok (.getfield 26, 3) := by decide +kernel
theorem dX7_fitting_21 : decode cX7_fitting 21 = .ok (.iload_n 2, 1) := by decide +kernel
theorem dX7_fitting_22 : decode cX7_fitting 22 = .ok (.invokevirtual 183, 3) := by decide +kernel
theorem dX7_fitting_25 : decode cX7_fitting 25 = .ok (.ireturn, 1) := by decide +kernel
theorem dX7_fitting_26 : decode cX7_fitting 26 = .ok (.iload_n 1, 1) := by decide +kernel
theorem dX7_fitting_27 : decode cX7_fitting 27 = .ok (.iconst 1, 1) := by decide +kernel
theorem dX7_fitting_28 : decode cX7_fitting 28 = .ok (.if_icmp .ne 25, 3) := by decide +kernel
theorem dX7_fitting_31 : decode cX7_fitting 31 = .ok (.aload_n 0, 1) := by decide +kernel
theorem dX7_fitting_32 : decode cX7_fitting 32 = .ok (.iload_n 2, 1) := by decide +kernel
theorem dX7_fitting_33 : decode cX7_fitting 33 = .ok (.invokevirtual 102, 3) := by decide +kernel
theorem dX7_fitting_36 : decode cX7_fitting 36 = .ok (.ifCond .eq 8, 3) := by decide +kernel
theorem dX7_fitting_39 : decode cX7_fitting 39 = .ok (.bipush (-2), 2) := by decide +kernel
theorem dX7_fitting_41 : decode cX7_fitting 41 = .ok (.goto 11, 3) := by decide +kernel
theorem dX7_fitting_44 : decode cX7_fitting 44 = .ok (.aload_n 0, 1) := by decide +kernel
theorem dX7_fitting_45 : decode cX7_fitting 45 = .ok (.getfield 26, 3) := by decide +kernel
theorem dX7_fitting_48 : decode cX7_fitting 48 = .ok (.iload_n 2, 1) := by decide +kernel
theorem dX7_fitting_49 : decode cX7_fitting 49 = .ok (.invokevirtual 186, 3) := by decide +kernel
theorem dX7_fitting_52 : decode cX7_fitting 52 = .ok (.ireturn, 1) := by decide +kernel
theorem dX7_fitting_53 : decode cX7_fitting 53 = .ok (.bipush (-2), 2) := by decide +kernel
theorem dX7_fitting_55 : decode cX7_fitting 55 = .ok (.ireturn, 1) := by decide +kernel
theorem dX7_match_0 : decode cX7_match 0 = .ok (.iload_n 1, 1) := by decide +kernel
theorem dX7_match_1 : decode cX7_match 1 = .ok (.bipush (-2), 2) := by decide +kernel
theorem dX7_match_3 : decode cX7_match 3 = .ok (.if_icmp .lt 9, 3) := by decide +kernel
theorem dX7_match_6 : decode cX7_match 6 = .ok (.iload_n 1, 1) := by decide +kernel
theorem dX7_match_7 : decode cX7_match 7 = .ok (.bipush 8, 2) := by decide +kernel
theorem dX7_match_9 : decode cX7_match 9 = .ok (.if_icmp .lt 6, 3) := by decide +kernel
theorem dX7_match_12 : decode cX7_match 12 = .ok (.bipush (-2), 2) := by decide +kernel
theorem dX7_match_14 : decode cX7_match 14 = .ok (.ireturn, 1) := by decide +kernel
theorem dX7_match_15 : decode cX7_match 15 = .ok (.aload_n 0, 1) := by decide +kernel
theorem dX7_match_16 : decode cX7_match 16 = .ok (.invokevirtual 189, 3) := by decide +kernel
theorem dX7_match_19 : decode cX7_match 19 = .ok (.getfield 193, 3) := by decide +kernel
theorem dX7_match_22 : decode cX7_match 22 = .ok (.lstore_n 2, 1) := by decide +kernel
theorem dX7_match_23 : decode cX7_match 23 = .ok (.iload_n 1, 1) := by decide +kernel
theorem dX7_match_24 : decode cX7_match 24 = .ok (.bipush (-2), 2) := by decide +kernel
theorem dX7_match_26 : decode cX7_match 26 = .ok (.if_icmp .ne 8, 3) := by decide +kernel
theorem dX7_match_29 : decode cX7_match 29 = .ok (.lload_n 2, 1) := by decide +kernel
theorem dX7_match_30 : decode cX7_match 30 = .ok (.invokestatic 196, 3) := by decide +kernel
theorem dX7_match_33 : decode cX7_match 33 = .ok (.ireturn, 1) := by decide +kernel
theorem dX7_match_34 : decode cX7_match 34 = .ok (.iload_n 1, 1) := by decide +kernel
theorem dX7_match_35 : decode cX7_match 35 = .ok (.iconst (-1), 1) := by decide +kernel
theorem dX7_match_36 : decode cX7_match 36 = .ok (.if_icmp .ne 10, 3) := by decide +kernel
theorem dX7_match_39 : decode cX7_match 39 = .ok (.lload_n 2, 1) := by decide +kernel
theorem dX7_match_40 : decode cX7_match 40 = .ok (.invokestatic 200, 3) := by decide +kernel
theorem dX7_match_43 : decode cX7_match 43 = .ok (.goto 8, 3) := by decide +kernel
theorem dX7_match_46 : decode cX7_match 46 = .ok (.lload_n 2, 1) := by decide +kernel
theorem dX7_match_47 : decode cX7_match 47 = .ok (.iload_n 1, 1) := by decide +kernel
theorem dX7_match_48 : decode cX7_match 48 = .ok (.invokestatic 203, 3) := by decide +kernel
theorem dX7_match_51 : decode cX7_match 51 = .ok (.ireturn, 1) := by decide +kernel
theorem dX7_ask_0 : decode cX7_ask 0 = .ok (.aload_n 0, 1) := by decide +kernel
theorem dX7_ask_1 : decode cX7_ask 1 = .ok (.iload_n 1, 1) := by decide +kernel
theorem dX7_ask_2 : decode cX7_ask 2 = .ok (.invokevirtual 113, 3) := by decide +kernel
theorem dX7_ask_5 : decode cX7_ask 5 = .ok (.ifCond .eq 6, 3) := by decide +kernel
theorem dX7_ask_8 : decode cX7_ask 8 = .ok (.bipush (-2), 2) := by decide +kernel
theorem dX7_ask_10 : decode cX7_ask 10 = .ok (.ireturn, 1) := by decide +kernel
theorem dX7_ask_11 : decode cX7_ask 11 = .ok (.aload_n 0, 1) := by decide +kernel
theorem dX7_ask_12 : decode cX7_ask 12 = .ok (.getfield 26, 3) := by decide +kernel
theorem dX7_ask_15 : decode cX7_ask 15 = .ok (.iload_n 1, 1) := by decide +kernel
theorem dX7_ask_16 : decode cX7_ask 16 = .ok (.invokevirtual 183, 3) := by decide +kernel
theorem dX7_ask_19 : decode cX7_ask 19 = .ok (.istore_n 2, 1) := by decide +kernel
theorem dX7_ask_20 : decode cX7_ask 20 = .ok (.iconst (-1), 1) := by decide +kernel
theorem dX7_ask_21 : decode cX7_ask 21 = .ok (.istore_n 3, 1) := by decide +kernel
theorem dX7_ask_22 : decode cX7_ask 22 = .ok (.bipush 9, 2) := by decide +kernel
theorem dX7_ask_24 : decode cX7_ask 24 = .ok (.istore 4, 2) := by decide +kernel
theorem dX7_ask_26 : decode cX7_ask 26 = .ok (.iconst 0, 1) := by decide +kernel
theorem dX7_ask_27 : decode cX7_ask 27 = .ok (.istore 5, 2) := by decide +kernel
theorem dX7_ask_29 : decode cX7_ask 29 = .ok (.iload 5, 2) := by decide +kernel
theorem dX7_ask_31 : decode cX7_ask 31 = .ok (.iconst 4, 1) := by decide +kernel
theorem dX7_ask_32 : decode cX7_ask 32 = .ok (.if_icmp .ge 70, 3) := by decide +kernel
theorem dX7_ask_35 : decode cX7_ask 35 = .ok (.aload_n 0, 1) := by decide +kernel
theorem dX7_ask_36 : decode cX7_ask 36 = .ok (.getfield 18, 3) := by decide +kernel
theorem dX7_ask_39 : decode cX7_ask 39 = .ok (.getfield 116, 3) := by decide +kernel
theorem dX7_ask_42 : decode cX7_ask 42 = .ok (.iload_n 1, 1) := by decide +kernel
theorem dX7_ask_43 : decode cX7_ask 43 = .ok (.iaload, 1) := by decide +kernel
theorem dX7_ask_44 : decode cX7_ask 44 = .ok (.iload 5, 2) := by decide +kernel
theorem dX7_ask_46 : decode cX7_ask 46 = .ok (.ishr, 1) := by decide +kernel
theorem dX7_ask_47 : decode cX7_ask 47 = .ok (.iconst 1, 1) := by decide +kernel
theorem dX7_ask_48 : decode cX7_ask 48 = .ok (.iand, 1) := by decide +kernel
theorem dX7_ask_49 : decode cX7_ask 49 = .ok (.iconst 1, 1) := by decide +kernel
theorem dX7_ask_50 : decode cX7_ask 50 = .ok (.if_icmp .ne 6, 3) := by decide +kernel
theorem dX7_ask_53 : decode cX7_ask 53 = .ok (.goto 43, 3) := by decide +kernel
theorem dX7_ask_56 : decode cX7_ask 56 = .ok (.aload_n 0, 1) := by decide +kernel
theorem dX7_ask_57 : decode cX7_ask 57 = .ok (.getfield 26, 3) := by decide +kernel
theorem dX7_ask_60 : decode cX7_ask 60 = .ok (.iload_n 2, 1) := by decide +kernel
theorem dX7_ask_61 : decode cX7_ask 61 = .ok (.iload 5, 2) := by decide +kernel
theorem dX7_ask_63 : decode cX7_ask 63 = .ok (.invokevirtual 207, 3) := by decide +kernel
theorem dX7_ask_66 : decode cX7_ask 66 = .ok (.istore 6, 2) := by decide +kernel
theorem dX7_ask_68 : decode cX7_ask 68 = .ok (.iload 6, 2) := by decide +kernel
theorem dX7_ask_70 : decode cX7_ask 70 = .ok (.iload_n 2, 1) := by decide +kernel
theorem dX7_ask_71 : decode cX7_ask 71 = .ok (.invokestatic 210, 3) := by decide +kernel
theorem dX7_ask_74 : decode cX7_ask 74 = .ok (.iload 6, 2) := by decide +kernel
theorem dX7_ask_76 : decode cX7_ask 76 = .ok (.isub, 1) := by decide +kernel
theorem dX7_ask_77 : decode cX7_ask 77 = .ok (.invokestatic 215, 3) := by decide +kernel
theorem dX7_ask_80 : decode cX7_ask 80 = .ok (.istore 7, 2) := by decide +kernel
theorem dX7_ask_82 : decode cX7_ask 82 = .ok (.iload 7, 2) := by decide +kernel
theorem dX7_ask_84 : decode cX7_ask 84 = .ok (.iload 4, 2) := by decide +kernel
theorem dX7_ask_86 : decode cX7_ask 86 = .ok (.if_icmp .ge 10, 3) := by decide +kernel
theorem dX7_ask_89 : decode cX7_ask 89 = .ok (.iload 7, 2) := by decide +kernel
theorem dX7_ask_91 : decode cX7_ask 91 = .ok (.istore 4, 2) := by decide +kernel
theorem dX7_ask_93 : decode cX7_ask 93 = .ok (.iload 5, 2) := by decide +kernel
theorem dX7_ask_95 : decode cX7_ask 95 = .ok (.istore_n 3, 1) := by decide +kernel
theorem dX7_ask_96 : decode cX7_ask 96 = .ok (.iinc 5 1, 3) := by decide +kernel
theorem dX7_ask_99 : decode cX7_ask 99 = .ok (.goto (-70), 3) := by decide +kernel
theorem dX7_ask_102 : decode cX7_ask 102 = .ok (.iload_n 3, 1) := by decide +kernel
theorem dX7_ask_103 : decode cX7_ask 103 = .ok (.ireturn, 1) := by decide +kernel
theorem dX7_lie_0 : decode cX7_lie 0 = .ok (.aload_n 0, 1) := by decide +kernel
theorem dX7_lie_1 : decode cX7_lie 1 = .ok (.iload_n 1, 1) := by decide +kernel
theorem dX7_lie_2 : decode cX7_lie 2 = .ok (.invokevirtual 102, 3) := by decide +kernel
theorem dX7_lie_5 : decode cX7_lie 5 = .ok (.ifCond .eq 6, 3) := by decide +kernel
theorem dX7_lie_8 : decode cX7_lie 8 = .ok (.bipush (-2), 2) := by decide +kernel
theorem dX7_lie_10 : decode cX7_lie 10 = .ok (.ireturn, 1) := by decide +kernel
theorem dX7_lie_11 : decode cX7_lie 11 = .ok (.iconst (-1), 1) := by decide +kernel
theorem dX7_lie_12 : decode cX7_lie 12 = .ok (.istore_n 2, 1) := by decide +kernel
theorem dX7_lie_13 : decode cX7_lie 13 = .ok (.iconst 5, 1) := by decide +kernel
theorem dX7_lie_14 : decode cX7_lie 14 = .ok (.istore_n 3, 1) := by decide +kernel
theorem dX7_lie_15 : decode cX7_lie 15 = .ok (.iconst 0, 1) := by decide +kernel
theorem dX7_lie_16 : decode cX7_lie 16 = .ok (.istore 4, 2) := by decide +kernel
theorem dX7_lie_18 : decode cX7_lie 18 = .ok (.iload 4, 2) := by decide +kernel
theorem dX7_lie_20 : decode cX7_lie 20 = .ok (.bipush 16, 2) := by decide +kernel
theorem dX7_lie_22 : decode cX7_lie 22 = .ok (.if_icmp .ge 53, 3) := by decide +kernel
theorem dX7_lie_25 : decode cX7_lie 25 = .ok (.iload 4, 2) := by decide +kernel
theorem dX7_lie_27 : decode cX7_lie 27 = .ok (.invokestatic 210, 3) := by decide +kernel
theorem dX7_lie_30 : decode cX7_lie 30 = .ok (.istore 5, 2) := by decide +kernel
theorem dX7_lie_32 : decode cX7_lie 32 = .ok (.iload 5, 2) := by decide +kernel
theorem dX7_lie_34 : decode cX7_lie 34 = .ok (.aload_n 0, 1) := by decide +kernel
theorem dX7_lie_35 : decode cX7_lie 35 = .ok (.getfield 26, 3) := by decide +kernel
theorem dX7_lie_38 : decode cX7_lie 38 = .ok (.getfield 119, 3) := by decide +kernel
theorem dX7_lie_41 : decode cX7_lie 41 = .ok (.if_icmp .lt 28, 3) := by decide +kernel
theorem dX7_lie_44 : decode cX7_lie 44 = .ok (.iload 5, 2) := by decide +kernel
theorem dX7_lie_46 : decode cX7_lie 46 = .ok (.iload_n 3, 1) := by decide +kernel
theorem dX7_lie_47 : decode cX7_lie 47 = .ok (.if_icmp .ge 22, 3) := by decide +kernel
theorem dX7_lie_50 : decode cX7_lie 50 = .ok (.aload_n 0, 1) := by decide +kernel
theorem dX7_lie_51 : decode cX7_lie 51 = .ok (.getfield 26, 3) := by decide +kernel
theorem dX7_lie_54 : decode cX7_lie 54 = .ok (.iload_n 1, 1) := by decide +kernel
theorem dX7_lie_55 : decode cX7_lie 55 = .ok (.iload 4, 2) := by decide +kernel
theorem dX7_lie_57 : decode cX7_lie 57 = .ok (.invokevirtual 220, 3) := by decide +kernel
theorem dX7_lie_60 : decode cX7_lie 60 = .ok (.ifCond .eq 9, 3) := by decide +kernel
theorem dX7_lie_63 : decode cX7_lie 63 = .ok (.iload 5, 2) := by decide +kernel
theorem dX7_lie_65 : decode cX7_lie 65 = .ok (.istore_n 3, 1) := by decide +kernel
theorem dX7_lie_66 : decode cX7_lie 66 = .ok (.iload 4, 2) := by decide +kernel
theorem dX7_lie_68 : decode cX7_lie 68 = .ok (.istore_n 2, 1) := by decide +kernel
theorem dX7_lie_69 : decode cX7_lie 69 = .ok (.iinc 4 1, 3) := by decide +kernel
theorem dX7_lie_72 : decode cX7_lie 72 = .ok (.goto (-54), 3) := by decide +kernel
theorem dX7_lie_75 : decode cX7_lie 75 = .ok (.iload_n 2, 1) := by decide +kernel
theorem dX7_lie_76 : decode cX7_lie 76 = .ok (.ireturn, 1) := by decide +kernel
theorem dX7_guess_0 : decode cX7_guess 0 = .ok (.aload_n 0, 1) := by decide +kernel
theorem dX7_guess_1 : decode cX7_guess 1 = .ok (.iload_n 1, 1) := by decide +kernel
theorem dX7_guess_2 : decode cX7_guess 2 = .ok (.invokevirtual 102, 3) := by decide +kernel
theorem dX7_guess_5 : decode cX7_guess 5 = .ok (.ifCond .ne 11, 3) := by decide +kernel
theorem dX7_guess_8 : decode cX7_guess 8 = .ok (.iload_n 2, 1) := by decide +kernel
theorem dX7_guess_9 : decode cX7_guess 9 = .ok (.iconst 2, 1) := by decide +kernel
theorem dX7_guess_10 : decode cX7_guess 10 = .ok (.invokestatic 73, 3) := by decide +kernel
theorem dX7_guess_13 : decode cX7_guess 13 = .ok (.ifCond .eq 7, 3) := by decide +kernel
theorem dX7_guess_16 : decode cX7_guess 16 = .ok (.ldc2_w 223, 3) := by decide +kernel
theorem dX7_guess_19 : decode cX7_guess 19 = .ok (.lreturn, 1) := by decide +kernel
theorem dX7_guess_20 : decode cX7_guess 20 = .ok (.aload_n 0, 1) := by decide +kernel
theorem dX7_guess_21 : decode cX7_guess 21 = .ok (.getfield 26, 3) := by decide +kernel
theorem dX7_guess_24 : decode cX7_guess 24 = .ok (.iload_n 1, 1) := by decide +kernel
theorem dX7_guess_25 : decode cX7_guess 25 = .ok (.aload_n 0, 1) := by decide +kernel
theorem dX7_guess_26 : decode cX7_guess 26 = .ok (.getfield 26, 3) := by decide +kernel
theorem dX7_guess_29 : decode cX7_guess 29 = .ok (.getfield 122, 3) := by decide +kernel
theorem dX7_guess_32 : decode cX7_guess 32 = .ok (.invokevirtual 225, 3) := by decide +kernel
theorem dX7_guess_35 : decode cX7_guess 35 = .ok (.istore_n 3, 1) := by decide +kernel
theorem dX7_guess_36 : decode cX7_guess 36 = .ok (.aload_n 0, 1) := by decide +kernel
theorem dX7_guess_37 : decode cX7_guess 37 = .ok (.getfield 26, 3) := by decide +kernel
theorem dX7_guess_40 : decode cX7_guess 40 = .ok (.iload_n 3, 1) := by decide +kernel
theorem dX7_guess_41 : decode cX7_guess 41 = .ok (.invokevirtual 228, 3) := by decide +kernel
theorem dX7_guess_44 : decode cX7_guess 44 = .ok (.istore 4, 2) := by decide +kernel
theorem dX7_guess_46 : decode cX7_guess 46 = .ok (.iload_n 3, 1) := by decide +kernel
theorem dX7_guess_47 : decode cX7_guess 47 = .ok (.invokestatic 210, 3) := by decide +kernel
theorem dX7_guess_50 : decode cX7_guess 50 = .ok (.istore 5, 2) := by decide +kernel
theorem dX7_guess_52 : decode cX7_guess 52 = .ok (.iload 4, 2) := by decide +kernel
theorem dX7_guess_54 : decode cX7_guess 54 = .ok (.iload 5, 2) := by decide +kernel
theorem dX7_guess_56 : decode cX7_guess 56 = .ok (.invokestatic 231, 3) := by decide +kernel
theorem dX7_guess_59 : decode cX7_guess 59 = .ok (.istore 6, 2) := by decide +kernel
theorem dX7_guess_61 : decode cX7_guess 61 = .ok (.iload_n 2, 1) := by decide +kernel
theorem dX7_guess_62 : decode cX7_guess 62 = .ok (.ifCond .ne 12, 3) := by decide +kernel
theorem dX7_guess_65 : decode cX7_guess 65 = .ok (.iload 4, 2) := by decide +kernel
theorem dX7_guess_67 : decode cX7_guess 67 = .ok (.iload 6, 2) := by decide +kernel
theorem dX7_guess_69 : decode cX7_guess 69 = .ok (.idiv, 1) := by decide +kernel
theorem dX7_guess_70 : decode cX7_guess 70 = .ok (.i2l, 1) := by decide +kernel
theorem dX7_guess_71 : decode cX7_guess 71 = .ok (.goto 9, 3) := by decide +kernel
theorem dX7_guess_74 : decode cX7_guess 74 = .ok (.iload 5, 2) := by decide +kernel
theorem dX7_guess_76 : decode cX7_guess 76 = .ok (.iload 6, 2) := by decide +kernel
theorem dX7_guess_78 : decode cX7_guess 78 = .ok (.idiv, 1) := by decide +kernel
theorem dX7_guess_79 : decode cX7_guess 79 = .ok (.i2l, 1) := by decide +kernel
theorem dX7_guess_80 : decode cX7_guess 80 = .ok (.lreturn, 1) := by decide +kernel
theorem dX7_guard_0 : decode cX7_guard 0 = .ok (.iload_n 1, 1) := by decide +kernel
theorem dX7_guard_1 : decode cX7_guard 1 = .ok (.bipush 17, 2) := by decide +kernel
theorem dX7_guard_3 : decode cX7_guard 3 = .ok (.invokestatic 73, 3) := by decide +kernel
theorem dX7_guard_6 : decode cX7_guard 6 = .ok (.ifCond .eq 6, 3) := by decide +kernel
theorem dX7_guard_9 : decode cX7_guard 9 = .ok (.bipush (-2), 2) := by decide +kernel
theorem dX7_guard_11 : decode cX7_guard 11 = .ok (.ireturn, 1) := by decide +kernel
theorem dX7_guard_12 : decode cX7_guard 12 = .ok (.iconst (-1), 1) := by decide +kernel
theorem dX7_guard_13 : decode cX7_guard 13 = .ok (.istore_n 2, 1) := by decide +kernel
theorem dX7_guard_14 : decode cX7_guard 14 = .ok (.iconst 5, 1) := by decide +kernel
theorem dX7_guard_15 : decode cX7_guard 15 = .ok (.istore_n 3, 1) := by decide +kernel
theorem dX7_guard_16 : decode cX7_guard 16 = .ok (.iconst 0, 1) := by decide +kernel
theorem dX7_guard_17 : decode cX7_guard 17 = .ok (.istore 4, 2) := by decide +kernel
theorem dX7_guard_19 : decode cX7_guard 19 = .ok (.iload 4, 2) := by decide +kernel
theorem dX7_guard_21 : decode cX7_guard 21 = .ok (.bipush 16, 2) := by decide +kernel
theorem dX7_guard_23 : decode cX7_guard 23 = .ok (.if_icmp .ge 38, 3) := by decide +kernel
theorem dX7_guard_26 : decode cX7_guard 26 = .ok (.iload 4, 2) := by decide +kernel
theorem dX7_guard_28 : decode cX7_guard 28 = .ok (.invokestatic 210, 3) := by decide +kernel
theorem dX7_guard_31 : decode cX7_guard 31 = .ok (.istore 5, 2) := by decide +kernel
theorem dX7_guard_33 : decode cX7_guard 33 = .ok (.iload 5, 2) := by decide +kernel
theorem dX7_guard_35 : decode cX7_guard 35 = .ok (.iload_n 3, 1) := by decide +kernel
theorem dX7_guard_36 : decode cX7_guard 36 = .ok (.if_icmp .ge 19, 3) := by decide +kernel
theorem dX7_guard_39 : decode cX7_guard 39 = .ok (.aload_n 0, 1) := by decide +kernel
theorem dX7_guard_40 : decode cX7_guard 40 = .ok (.iload 4, 2) := by decide +kernel
theorem dX7_guard_42 : decode cX7_guard 42 = .ok (.iload_n 1, 1) := by decide +kernel
theorem dX7_guard_43 : decode cX7_guard 43 = .ok (.invokevirtual 234, 3) := by decide +kernel
theorem dX7_guard_46 : decode cX7_guard 46 = .ok (.ifCond .eq 9, 3) := by decide +kernel
theorem dX7_guard_49 : decode cX7_guard 49 = .ok (.iload 5, 2) := by decide +kernel
theorem dX7_guard_51 : decode cX7_guard 51 = .ok (.istore_n 3, 1) := by decide +kernel
theorem dX7_guard_52 : decode cX7_guard 52 = .ok (.iload 4, 2) := by decide +kernel
theorem dX7_guard_54 : decode cX7_guard 54 = .ok (.istore_n 2, 1) := by decide +kernel
theorem dX7_guard_55 : decode cX7_guard 55 = .ok (.iinc 4 1, 3) := by decide +kernel
theorem dX7_guard_58 : decode cX7_guard 58 = .ok (.goto (-39), 3) := by decide +kernel
theorem dX7_guard_61 : decode cX7_guard 61 = .ok (.iload_n 2, 1) := by decide +kernel
theorem dX7_guard_62 : decode cX7_guard 62 = .ok (.ireturn, 1) := by decide +kernel
theorem dX7_shelves_0 : decode cX7_shelves 0 = .ok (.iload_n 1, 1) := by decide +kernel
theorem dX7_shelves_1 : decode cX7_shelves 1 = .ok (.iconst (-1), 1) := by decide +kernel
theorem dX7_shelves_2 : decode cX7_shelves 2 = .ok (.if_icmp .lt 9, 3) := by decide +kernel
theorem dX7_shelves_5 : decode cX7_shelves 5 = .ok (.iload_n 1, 1) := by decide +kernel
theorem dX7_shelves_6 : decode cX7_shelves 6 = .ok (.bipush 6, 2) := by decide +kernel
theorem dX7_shelves_8 : decode cX7_shelves 8 = .ok (.if_icmp .lt 6, 3) := by decide +kernel
theorem dX7_shelves_11 : decode cX7_shelves 11 = .ok (.bipush (-2), 2) := by decide +kernel
theorem dX7_shelves_13 : decode cX7_shelves 13 = .ok (.ireturn, 1) := by decide +kernel
theorem dX7_shelves_14 : decode cX7_shelves 14 = .ok (.aload_n 0, 1) := by decide +kernel
theorem dX7_shelves_15 : decode cX7_shelves 15 = .ok (.getfield 12, 3) := by decide +kernel
theorem dX7_shelves_18 : decode cX7_shelves 18 = .ok (.getfield 177, 3) := by decide +kernel
theorem dX7_shelves_21 : decode cX7_shelves 21 = .ok (.bipush 6, 2) := by decide +kernel
theorem dX7_shelves_23 : decode cX7_shelves 23 = .ok (.invokestatic 237, 3) := by decide +kernel
theorem dX7_shelves_26 : decode cX7_shelves 26 = .ok (.istore_n 2, 1) := by decide +kernel
theorem dX7_shelves_27 : decode cX7_shelves 27 = .ok (.iconst 0, 1) := by decide +kernel
theorem dX7_shelves_28 : decode cX7_shelves 28 = .ok (.istore_n 3, 1) := by decide +kernel
theorem dX7_shelves_29 : decode cX7_shelves 29 = .ok (.iconst 0, 1) := by decide +kernel
theorem dX7_shelves_30 : decode cX7_shelves 30 = .ok (.istore 4, 2) := by decide +kernel
theorem dX7_shelves_32 : decode cX7_shelves 32 = .ok (.iload 4, 2) := by decide +kernel
theorem dX7_shelves_34 : decode cX7_shelves 34 = .ok (.iload_n 2, 1) := by decide +kernel
theorem dX7_shelves_35 : decode cX7_shelves 35 = .ok (.if_icmp .ge 44, 3) := by decide +kernel
theorem dX7_shelves_38 : decode cX7_shelves 38 = .ok (.aload_n 0, 1) := by decide +kernel
theorem dX7_shelves_39 : decode cX7_shelves 39 = .ok (.iload 4, 2) := by decide +kernel
theorem dX7_shelves_41 : decode cX7_shelves 41 = .ok (.iload_n 2, 1) := by decide +kernel
theorem dX7_shelves_42 : decode cX7_shelves 42 = .ok (.invokevirtual 240, 3) := by decide +kernel
theorem dX7_shelves_45 : decode cX7_shelves 45 = .ok (.istore 5, 2) := by decide +kernel
theorem dX7_shelves_47 : decode cX7_shelves 47 = .ok (.iload 5, 2) := by decide +kernel
theorem dX7_shelves_49 : decode cX7_shelves 49 = .ok (.iload_n 1, 1) := by decide +kernel
theorem dX7_shelves_50 : decode cX7_shelves 50 = .ok (.if_icmp .ne 6, 3) := by decide +kernel
theorem dX7_shelves_53 : decode cX7_shelves 53 = .ok (.iload 4, 2) := by decide +kernel
theorem dX7_shelves_55 : decode cX7_shelves 55 = .ok (.ireturn, 1) := by decide +kernel
theorem dX7_shelves_56 : decode cX7_shelves 56 = .ok (.iload_n 3, 1) := by decide +kernel
theorem dX7_shelves_57 : decode cX7_shelves 57 = .ok (.iload 5, 2) := by decide +kernel
theorem dX7_shelves_59 : decode cX7_shelves 59 = .ok (.iconst 1, 1) := by decide +kernel
theorem dX7_shelves_60 : decode cX7_shelves 60 = .ok (.iadd, 1) := by decide +kernel
theorem dX7_shelves_61 : decode cX7_shelves 61 = .ok (.aload_n 0, 1) := by decide +kernel
theorem dX7_shelves_62 : decode cX7_shelves 62 = .ok (.getfield 26, 3) := by decide +kernel
theorem dX7_shelves_65 : decode cX7_shelves 65 = .ok (.iload 4, 2) := by decide +kernel
theorem dX7_shelves_67 : decode cX7_shelves 67 = .ok (.invokevirtual 243, 3) := by decide +kernel
theorem dX7_shelves_70 : decode cX7_shelves 70 = .ok (.imul, 1) := by decide +kernel
theorem dX7_shelves_71 : decode cX7_shelves 71 = .ok (.iadd, 1) := by decide +kernel
theorem dX7_shelves_72 : decode cX7_shelves 72 = .ok (.istore_n 3, 1) := by decide +kernel
theorem dX7_shelves_73 : decode cX7_shelves 73 = .ok (.iinc 4 1, 3) := by decide +kernel
theorem dX7_shelves_76 : decode cX7_shelves 76 = .ok (.goto (-44), 3) := by decide +kernel
theorem dX7_shelves_79 : decode cX7_shelves 79 = .ok (.iload_n 1, 1) := by decide +kernel
theorem dX7_shelves_80 : decode cX7_shelves 80 = .ok (.iconst (-1), 1) := by decide +kernel
theorem dX7_shelves_81 : decode cX7_shelves 81 = .ok (.if_icmp .ne 7, 3) := by decide +kernel
theorem dX7_shelves_84 : decode cX7_shelves 84 = .ok (.iload_n 3, 1) := by decide +kernel
theorem dX7_shelves_85 : decode cX7_shelves 85 = .ok (.goto 4, 3) := by decide +kernel
theorem dX7_shelves_88 : decode cX7_shelves 88 = .ok (.iconst (-1), 1) := by decide +kernel
theorem dX7_shelves_89 : decode cX7_shelves 89 = .ok (.ireturn, 1) := by decide +kernel
theorem dX7_together_0 : decode cX7_together 0 = .ok (.iload_n 1, 1) := by decide +kernel
theorem dX7_together_1 : decode cX7_together 1 = .ok (.iconst (-1), 1) := by decide +kernel
theorem dX7_together_2 : decode cX7_together 2 = .ok (.if_icmp .lt 9, 3) := by decide +kernel
theorem dX7_together_5 : decode cX7_together 5 = .ok (.iload_n 1, 1) := by decide +kernel
theorem dX7_together_6 : decode cX7_together 6 = .ok (.bipush 8, 2) := by decide +kernel
theorem dX7_together_8 : decode cX7_together 8 = .ok (.if_icmp .lt 6, 3) := by decide +kernel
theorem dX7_together_11 : decode cX7_together 11 = .ok (.bipush (-2), 2) := by decide +kernel
theorem dX7_together_13 : decode cX7_together 13 = .ok (.ireturn, 1) := by decide +kernel
theorem dX7_together_14 : decode cX7_together 14 = .ok (.aload_n 0, 1) := by decide +kernel
theorem dX7_together_15 : decode cX7_together 15 = .ok (.invokevirtual 189, 3) := by decide +kernel
theorem dX7_together_18 : decode cX7_together 18 = .ok (.getfield 246, 3) := by decide +kernel
theorem dX7_together_21 : decode cX7_together 21 = .ok (.lstore_n 2, 1) := by decide +kernel
theorem dX7_together_22 : decode cX7_together 22 = .ok (.iload_n 1, 1) := by decide +kernel
theorem dX7_together_23 : decode cX7_together 23 = .ok (.iconst (-1), 1) := by decide +kernel
theorem dX7_together_24 : decode cX7_together 24 = .ok (.if_icmp .ne 10, 3) := by decide +kernel
theorem dX7_together_27 : decode cX7_together 27 = .ok (.lload_n 2, 1) := by decide +kernel
theorem dX7_together_28 : decode cX7_together 28 = .ok (.invokestatic 196, 3) := by decide +kernel
theorem dX7_together_31 : decode cX7_together 31 = .ok (.goto 8, 3) := by decide +kernel
theorem dX7_together_34 : decode cX7_together 34 = .ok (.lload_n 2, 1) := by decide +kernel
theorem dX7_together_35 : decode cX7_together 35 = .ok (.iload_n 1, 1) := by decide +kernel
theorem dX7_together_36 : decode cX7_together 36 = .ok (.invokestatic 203, 3) := by decide +kernel
theorem dX7_together_39 : decode cX7_together 39 = .ok (.ireturn, 1) := by decide +kernel
theorem dX7_seen_0 : decode cX7_seen 0 = .ok (.aload_n 0, 1) := by decide +kernel
theorem dX7_seen_1 : decode cX7_seen 1 = .ok (.getfield 43, 3) := by decide +kernel
theorem dX7_seen_4 : decode cX7_seen 4 = .ok (.iload_n 1, 1) := by decide +kernel
theorem dX7_seen_5 : decode cX7_seen 5 = .ok (.iload_n 2, 1) := by decide +kernel
theorem dX7_seen_6 : decode cX7_seen 6 = .ok (.iload_n 3, 1) := by decide +kernel
theorem dX7_seen_7 : decode cX7_seen 7 = .ok (.invokevirtual 249, 3) := by decide +kernel
theorem dX7_seen_10 : decode cX7_seen 10 = .ok (.ireturn, 1) := by decide +kernel
theorem dX7_forget_0 : decode cX7_forget 0 = .ok (.aload_n 0, 1) := by decide +kernel
theorem dX7_forget_1 : decode cX7_forget 1 = .ok (.getfield 43, 3) := by decide +kernel
theorem dX7_forget_4 : decode cX7_forget 4 = .ok (.getfield 252, 3) := by decide +kernel
theorem dX7_forget_7 : decode cX7_forget 7 = .ok (.istore_n 1, 1) := by decide +kernel
theorem dX7_forget_8 : decode cX7_forget 8 = .ok (.aload_n 0, 1) := by decide +kernel
theorem dX7_forget_9 : decode cX7_forget 9 = .ok (.getfield 43, 3) := by decide +kernel
theorem dX7_forget_12 : decode cX7_forget 12 = .ok (.iconst 0, 1) := by decide +kernel
theorem dX7_forget_13 : decode cX7_forget 13 = .ok (.putfield 252, 3) := by decide +kernel
theorem dX7_forget_16 : decode cX7_forget 16 = .ok (.iload_n 1, 1) := by decide +kernel
theorem dX7_forget_17 : decode cX7_forget 17 = .ok (.ireturn, 1) := by decide +kernel
theorem dX7_when_0 : decode cX7_when 0 = .ok (.aload_n 0, 1) := by decide +kernel
theorem dX7_when_1 : decode cX7_when 1 = .ok (.iload_n 1, 1) := by decide +kernel
theorem dX7_when_2 : decode cX7_when 2 = .ok (.invokevirtual 102, 3) := by decide +kernel
theorem dX7_when_5 : decode cX7_when 5 = .ok (.ifCond .eq 6, 3) := by decide +kernel
theorem dX7_when_8 : decode cX7_when 8 = .ok (.bipush (-2), 2) := by decide +kernel
theorem dX7_when_10 : decode cX7_when 10 = .ok (.ireturn, 1) := by decide +kernel
theorem dX7_when_11 : decode cX7_when 11 = .ok (.aload_n 0, 1) := by decide +kernel
theorem dX7_when_12 : decode cX7_when 12 = .ok (.getfield 56, 3) := by decide +kernel
theorem dX7_when_15 : decode cX7_when 15 = .ok (.aload_n 0, 1) := by decide +kernel
theorem dX7_when_16 : decode cX7_when 16 = .ok (.getfield 33, 3) := by decide +kernel
theorem dX7_when_19 : decode cX7_when 19 = .ok (.aload_n 0, 1) := by decide +kernel
theorem dX7_when_20 : decode cX7_when 20 = .ok (.getfield 37, 3) := by decide +kernel
theorem dX7_when_23 : decode cX7_when 23 = .ok (.invokevirtual 253, 3) := by decide +kernel
theorem dX7_when_26 : decode cX7_when 26 = .ok (.iconst 0, 1) := by decide +kernel
theorem dX7_when_27 : decode cX7_when 27 = .ok (.istore_n 2, 1) := by decide +kernel
theorem dX7_when_28 : decode cX7_when 28 = .ok (.iconst 0, 1) := by decide +kernel
theorem dX7_when_29 : decode cX7_when 29 = .ok (.istore_n 3, 1) := by decide +kernel
theorem dX7_when_30 : decode cX7_when 30 = .ok (.iload_n 3, 1) := by decide +kernel
theorem dX7_when_31 : decode cX7_when 31 = .ok (.bipush 20, 2) := by decide +kernel
theorem dX7_when_33 : decode cX7_when 33 = .ok (.if_icmp .ge 24, 3) := by decide +kernel
theorem dX7_when_36 : decode cX7_when 36 = .ok (.aload_n 0, 1) := by decide +kernel
theorem dX7_when_37 : decode cX7_when 37 = .ok (.iload_n 3, 1) := by decide +kernel
theorem dX7_when_38 : decode cX7_when 38 = .ok (.iload_n 1, 1) := by decide +kernel
theorem dX7_when_39 : decode cX7_when 39 = .ok (.invokevirtual 257, 3) := by decide +kernel
theorem dX7_when_42 : decode cX7_when 42 = .ok (.ifCond .eq 9, 3) := by decide +kernel
theorem dX7_when_45 : decode cX7_when 45 = .ok (.iload_n 2, 1) := by decide +kernel
theorem dX7_when_46 : decode cX7_when 46 = .ok (.iconst 1, 1) := by decide +kernel
theorem dX7_when_47 : decode cX7_when 47 = .ok (.iload_n 3, 1) := by decide +kernel
theorem dX7_when_48 : decode cX7_when 48 = .ok (.ishl, 1) := by decide +kernel
theorem dX7_when_49 : decode cX7_when 49 = .ok (.ior, 1) := by decide +kernel
theorem dX7_when_50 : decode cX7_when 50 = .ok (.istore_n 2, 1) := by decide +kernel
theorem dX7_when_51 : decode cX7_when 51 = .ok (.iinc 3 1, 3) := by decide +kernel
theorem dX7_when_54 : decode cX7_when 54 = .ok (.goto (-24), 3) := by decide +kernel
theorem dX7_when_57 : decode cX7_when 57 = .ok (.iload_n 2, 1) := by decide +kernel
theorem dX7_when_58 : decode cX7_when 58 = .ok (.ireturn, 1) := by decide +kernel
theorem dX7_weeks_0 : decode cX7_weeks 0 = .ok (.iload_n 2, 1) := by decide +kernel
theorem dX7_weeks_1 : decode cX7_weeks 1 = .ok (.iconst 1, 1) := by decide +kernel
theorem dX7_weeks_2 : decode cX7_weeks 2 = .ok (.if_icmp .lt 17, 3) := by decide +kernel
theorem dX7_weeks_5 : decode cX7_weeks 5 = .ok (.iload_n 2, 1) := by decide +kernel
theorem dX7_weeks_6 : decode cX7_weeks 6 = .ok (.bipush 40, 2) := by decide +kernel
theorem dX7_weeks_8 : decode cX7_weeks 8 = .ok (.if_icmp .gt 11, 3) := by decide +kernel
theorem dX7_weeks_11 : decode cX7_weeks 11 = .ok (.iload_n 3, 1) := by decide +kernel
theorem dX7_weeks_12 : decode cX7_weeks 12 = .ok (.iconst 2, 1) := by decide +kernel
theorem dX7_weeks_13 : decode cX7_weeks 13 = .ok (.invokestatic 73, 3) := by decide +kernel
theorem dX7_weeks_16 : decode cX7_weeks 16 = .ok (.ifCond .eq 6, 3) := by decide +kernel
theorem dX7_weeks_19 : decode cX7_weeks 19 = .ok (.bipush (-2), 2) := by decide +kernel
theorem dX7_weeks_21 : decode cX7_weeks 21 = .ok (.ireturn, 1) := by decide +kernel
theorem dX7_weeks_22 : decode cX7_weeks 22 = .ok (.aload_n 0, 1) := by decide +kernel
theorem dX7_weeks_23 : decode cX7_weeks 23 = .ok (.getfield 56, 3) := by decide +kernel
theorem dX7_weeks_26 : decode cX7_weeks 26 = .ok (.aload_n 0, 1) := by decide +kernel
theorem dX7_weeks_27 : decode cX7_weeks 27 = .ok (.getfield 33, 3) := by decide +kernel
theorem dX7_weeks_30 : decode cX7_weeks 30 = .ok (.aload_n 0, 1) := by decide +kernel
theorem dX7_weeks_31 : decode cX7_weeks 31 = .ok (.getfield 37, 3) := by decide +kernel
theorem dX7_weeks_34 : decode cX7_weeks 34 = .ok (.invokevirtual 253, 3) := by decide +kernel
theorem dX7_weeks_37 : decode cX7_weeks 37 = .ok (.aload_n 0, 1) := by decide +kernel
theorem dX7_weeks_38 : decode cX7_weeks 38 = .ok (.iload_n 1, 1) := by decide +kernel
theorem dX7_weeks_39 : decode cX7_weeks 39 = .ok (.iload_n 2, 1) := by decide +kernel
theorem dX7_weeks_40 : decode cX7_weeks 40 = .ok (.invokevirtual 260, 3) := by decide +kernel
theorem dX7_weeks_43 : decode cX7_weeks 43 = .ok (.aload_n 0, 1) := by decide +kernel
theorem dX7_weeks_44 : decode cX7_weeks 44 = .ok (.getfield 56, 3) := by decide +kernel
theorem dX7_weeks_47 : decode cX7_weeks 47 = .ok (.iload_n 2, 1) := by decide +kernel
theorem dX7_weeks_48 : decode cX7_weeks 48 = .ok (.iconst 1, 1) := by decide +kernel
theorem dX7_weeks_49 : decode cX7_weeks 49 = .ok (.isub, 1) := by decide +kernel
theorem dX7_weeks_50 : decode cX7_weeks 50 = .ok (.invokevirtual 264, 3) := by decide +kernel
theorem dX7_weeks_53 : decode cX7_weeks 53 = .ok (.iload_n 3, 1) := by decide +kernel
theorem dX7_weeks_54 : decode cX7_weeks 54 = .ok (.ifCond .ne 13, 3) := by decide +kernel
theorem dX7_weeks_57 : decode cX7_weeks 57 = .ok (.aload_n 0, 1) := by decide +kernel
theorem dX7_weeks_58 : decode cX7_weeks 58 = .ok (.getfield 56, 3) := by decide +kernel
theorem dX7_weeks_61 : decode cX7_weeks 61 = .ok (.getfield 267, 3) := by decide +kernel
theorem dX7_weeks_64 : decode cX7_weeks 64 = .ok (.goto 10, 3) := by decide +kernel
theorem dX7_weeks_67 : decode cX7_weeks 67 = .ok (.aload_n 0, 1) := by decide +kernel
theorem dX7_weeks_68 : decode cX7_weeks 68 = .ok (.getfield 56, 3) := by decide +kernel
theorem dX7_weeks_71 : decode cX7_weeks 71 = .ok (.getfield 174, 3) := by decide +kernel
theorem dX7_weeks_74 : decode cX7_weeks 74 = .ok (.invokestatic 210, 3) := by decide +kernel
theorem dX7_weeks_77 : decode cX7_weeks 77 = .ok (.ireturn, 1) := by decide +kernel
theorem dX7_sheet_0 : decode cX7_sheet 0 = .ok (.iload_n 1, 1) := by decide +kernel
theorem dX7_sheet_1 : decode cX7_sheet 1 = .ok (.iconst 4, 1) := by decide +kernel
theorem dX7_sheet_2 : decode cX7_sheet 2 = .ok (.invokestatic 73, 3) := by decide +kernel
theorem dX7_sheet_5 : decode cX7_sheet 5 = .ok (.ifCond .ne 17, 3) := by decide +kernel
theorem dX7_sheet_8 : decode cX7_sheet 8 = .ok (.iload_n 2, 1) := by decide +kernel
theorem dX7_sheet_9 : decode cX7_sheet 9 = .ok (.iconst 3, 1) := by decide +kernel
theorem dX7_sheet_10 : decode cX7_sheet 10 = .ok (.invokestatic 73, 3) := by decide +kernel
theorem dX7_sheet_13 : decode cX7_sheet 13 = .ok (.ifCond .ne 9, 3) := by decide +kernel
theorem dX7_sheet_16 : decode cX7_sheet 16 = .ok (.iload_n 3, 1) := by decide +kernel
theorem dX7_sheet_17 : decode cX7_sheet 17 = .ok (.bipush 48, 2) := by decide +kernel
theorem dX7_sheet_19 : decode cX7_sheet 19 = .ok (.if_icmp .le 6, 3) := by decide +kernel
theorem dX7_sheet_22 : decode cX7_sheet 22 = .ok (.bipush (-2), 2) := by decide +kernel
theorem dX7_sheet_24 : decode cX7_sheet 24 = .ok (.ireturn, 1) := by decide +kernel
theorem dX7_sheet_25 : decode cX7_sheet 25 = .ok (.iload_n 3, 1) := by decide +kernel
theorem dX7_sheet_26 : decode cX7_sheet 26 = .ok (.ifCond .ge 9, 3) := by decide +kernel
theorem dX7_sheet_29 : decode cX7_sheet 29 = .ok (.aload_n 0, 1) := by decide +kernel
theorem dX7_sheet_30 : decode cX7_sheet 30 = .ok (.iconst 5, 1) := by decide +kernel
theorem dX7_sheet_31 : decode cX7_sheet 31 = .ok (.invokevirtual 140, 3) := by decide +kernel
theorem dX7_sheet_34 : decode cX7_sheet 34 = .ok (.ireturn, 1) := by decide +kernel
theorem dX7_sheet_35 : decode cX7_sheet 35 = .ok (.aload_n 0, 1) := by decide +kernel
theorem dX7_sheet_36 : decode cX7_sheet 36 = .ok (.getfield 68, 3) := by decide +kernel
theorem dX7_sheet_39 : decode cX7_sheet 39 = .ok (.iload_n 1, 1) := by decide +kernel
theorem dX7_sheet_40 : decode cX7_sheet 40 = .ok (.aaload, 1) := by decide +kernel
theorem dX7_sheet_41 : decode cX7_sheet 41 = .ok (.iload_n 2, 1) := by decide +kernel
theorem dX7_sheet_42 : decode cX7_sheet 42 = .ok (.iload_n 3, 1) := by decide +kernel
theorem dX7_sheet_43 : decode cX7_sheet 43 = .ok (.invokevirtual 270, 3) := by decide +kernel
theorem dX7_sheet_46 : decode cX7_sheet 46 = .ok (.iload_n 3, 1) := by decide +kernel
theorem dX7_sheet_47 : decode cX7_sheet 47 = .ok (.ireturn, 1) := by decide +kernel
theorem dX7_lose_0 : decode cX7_lose 0 = .ok (.iload_n 1, 1) := by decide +kernel
theorem dX7_lose_1 : decode cX7_lose 1 = .ok (.iconst 4, 1) := by decide +kernel
theorem dX7_lose_2 : decode cX7_lose 2 = .ok (.invokestatic 73, 3) := by decide +kernel
theorem dX7_lose_5 : decode cX7_lose 5 = .ok (.ifCond .eq 6, 3) := by decide +kernel
theorem dX7_lose_8 : decode cX7_lose 8 = .ok (.bipush (-2), 2) := by decide +kernel
theorem dX7_lose_10 : decode cX7_lose 10 = .ok (.ireturn, 1) := by decide +kernel
theorem dX7_lose_11 : decode cX7_lose 11 = .ok (.aload_n 0, 1) := by decide +kernel
theorem dX7_lose_12 : decode cX7_lose 12 = .ok (.getfield 68, 3) := by decide +kernel
theorem dX7_lose_15 : decode cX7_lose 15 = .ok (.iload_n 1, 1) := by decide +kernel
theorem dX7_lose_16 : decode cX7_lose 16 = .ok (.aaload, 1) := by decide +kernel
theorem dX7_lose_17 : decode cX7_lose 17 = .ok (.astore_n 2, 1) := by decide +kernel
theorem dX7_lose_18 : decode cX7_lose 18 = .ok (.aload_n 2, 1) := by decide +kernel
theorem dX7_lose_19 : decode cX7_lose 19 = .ok (.invokevirtual 136, 3) := by decide +kernel
theorem dX7_lose_22 : decode cX7_lose 22 = .ok (.ifCond .eq 9, 3) := by decide +kernel
theorem dX7_lose_25 : decode cX7_lose 25 = .ok (.aload_n 0, 1) := by decide +kernel
theorem dX7_lose_26 : decode cX7_lose 26 = .ok (.iconst 1, 1) := by decide +kernel
theorem dX7_lose_27 : decode cX7_lose 27 = .ok (.invokevirtual 140, 3) := by decide +kernel
theorem dX7_lose_30 : decode cX7_lose 30 = .ok (.ireturn, 1) := by decide +kernel
theorem dX7_lose_31 : decode cX7_lose 31 = .ok (.aload_n 2, 1) := by decide +kernel
theorem dX7_lose_32 : decode cX7_lose 32 = .ok (.getfield 144, 3) := by decide +kernel
theorem dX7_lose_35 : decode cX7_lose 35 = .ok (.istore_n 3, 1) := by decide +kernel
theorem dX7_lose_36 : decode cX7_lose 36 = .ok (.aload_n 2, 1) := by decide +kernel
theorem dX7_lose_37 : decode cX7_lose 37 = .ok (.iconst (-1), 1) := by decide +kernel
theorem dX7_lose_38 : decode cX7_lose 38 = .ok (.putfield 144, 3) := by decide +kernel
theorem dX7_lose_41 : decode cX7_lose 41 = .ok (.iload_n 3, 1) := by decide +kernel
theorem dX7_lose_42 : decode cX7_lose 42 = .ok (.ireturn, 1) := by decide +kernel
theorem dX7_put_0 : decode cX7_put 0 = .ok (.iload_n 1, 1) := by decide +kernel
theorem dX7_put_1 : decode cX7_put 1 = .ok (.iconst 4, 1) := by decide +kernel
theorem dX7_put_2 : decode cX7_put 2 = .ok (.invokestatic 73, 3) := by decide +kernel
theorem dX7_put_5 : decode cX7_put 5 = .ok (.ifCond .ne 11, 3) := by decide +kernel
theorem dX7_put_8 : decode cX7_put 8 = .ok (.iload_n 2, 1) := by decide +kernel
theorem dX7_put_9 : decode cX7_put 9 = .ok (.iconst 3, 1) := by decide +kernel
theorem dX7_put_10 : decode cX7_put 10 = .ok (.invokestatic 73, 3) := by decide +kernel
theorem dX7_put_13 : decode cX7_put 13 = .ok (.ifCond .eq 6, 3) := by decide +kernel
theorem dX7_put_16 : decode cX7_put 16 = .ok (.bipush (-2), 2) := by decide +kernel
theorem dX7_put_18 : decode cX7_put 18 = .ok (.ireturn, 1) := by decide +kernel
theorem dX7_put_19 : decode cX7_put 19 = .ok (.aload_n 0, 1) := by decide +kernel
theorem dX7_put_20 : decode cX7_put 20 = .ok (.getfield 68, 3) := by decide +kernel
theorem dX7_put_23 : decode cX7_put 23 = .ok (.iload_n 1, 1) := by decide +kernel
theorem dX7_put_24 : decode cX7_put 24 = .ok (.aaload, 1) := by decide +kernel
theorem dX7_put_25 : decode cX7_put 25 = .ok (.iload_n 2, 1) := by decide +kernel
theorem dX7_put_26 : decode cX7_put 26 = .ok (.iload_n 3, 1) := by decide +kernel
theorem dX7_put_27 : decode cX7_put 27 = .ok (.invokevirtual 273, 3) := by decide +kernel
theorem dX7_put_30 : decode cX7_put 30 = .ok (.istore 5, 2) := by decide +kernel
theorem dX7_put_32 : decode cX7_put 32 = .ok (.iload 5, 2) := by decide +kernel
theorem dX7_put_34 : decode cX7_put 34 = .ok (.ifCond .eq 10, 3) := by decide +kernel
theorem dX7_put_37 : decode cX7_put 37 = .ok (.aload_n 0, 1) := by decide +kernel
theorem dX7_put_38 : decode cX7_put 38 = .ok (.iload 5, 2) := by decide +kernel
theorem dX7_put_40 : decode cX7_put 40 = .ok (.invokevirtual 140, 3) := by decide +kernel
theorem dX7_put_43 : decode cX7_put 43 = .ok (.ireturn, 1) := by decide +kernel
theorem dX7_put_44 : decode cX7_put 44 = .ok (.aload_n 0, 1) := by decide +kernel
theorem dX7_put_45 : decode cX7_put 45 = .ok (.getfield 68, 3) := by decide +kernel
theorem dX7_put_48 : decode cX7_put 48 = .ok (.iload_n 1, 1) := by decide +kernel
theorem dX7_put_49 : decode cX7_put 49 = .ok (.aaload, 1) := by decide +kernel
theorem dX7_put_50 : decode cX7_put 50 = .ok (.iload_n 3, 1) := by decide +kernel
theorem dX7_put_51 : decode cX7_put 51 = .ok (.iload 4, 2) := by decide +kernel
theorem dX7_put_53 : decode cX7_put 53 = .ok (.invokevirtual 276, 3) := by decide +kernel
theorem dX7_put_56 : decode cX7_put 56 = .ok (.iconst 1, 1) := by decide +kernel
theorem dX7_put_57 : decode cX7_put 57 = .ok (.ireturn, 1) := by decide +kernel
theorem dX7_get_0 : decode cX7_get 0 = .ok (.iload_n 1, 1) := by decide +kernel
theorem dX7_get_1 : decode cX7_get 1 = .ok (.iconst 4, 1) := by decide +kernel
theorem dX7_get_2 : decode cX7_get 2 = .ok (.invokestatic 73, 3) := by decide +kernel
theorem dX7_get_5 : decode cX7_get 5 = .ok (.ifCond .ne 11, 3) := by decide +kernel
theorem dX7_get_8 : decode cX7_get 8 = .ok (.iload_n 2, 1) := by decide +kernel
theorem dX7_get_9 : decode cX7_get 9 = .ok (.iconst 3, 1) := by decide +kernel
theorem dX7_get_10 : decode cX7_get 10 = .ok (.invokestatic 73, 3) := by decide +kernel
theorem dX7_get_13 : decode cX7_get 13 = .ok (.ifCond .eq 7, 3) := by decide +kernel
theorem dX7_get_16 : decode cX7_get 16 = .ok (.ldc_w 279, 3) := by decide +kernel
theorem dX7_get_19 : decode cX7_get 19 = .ok (.ireturn, 1) := by decide +kernel
theorem dX7_get_20 : decode cX7_get 20 = .ok (.aload_n 0, 1) := by decide +kernel
theorem dX7_get_21 : decode cX7_get 21 = .ok (.getfield 68, 3) := by decide +kernel
theorem dX7_get_24 : decode cX7_get 24 = .ok (.iload_n 1, 1) := by decide +kernel
theorem dX7_get_25 : decode cX7_get 25 = .ok (.aaload, 1) := by decide +kernel
theorem dX7_get_26 : decode cX7_get 26 = .ok (.iload_n 2, 1) := by decide +kernel
theorem dX7_get_27 : decode cX7_get 27 = .ok (.iload_n 3, 1) := by decide +kernel
theorem dX7_get_28 : decode cX7_get 28 = .ok (.invokevirtual 273, 3) := by decide +kernel
theorem dX7_get_31 : decode cX7_get 31 = .ok (.istore 4, 2) := by decide +kernel
theorem dX7_get_33 : decode cX7_get 33 = .ok (.iload 4, 2) := by decide +kernel
theorem dX7_get_35 : decode cX7_get 35 = .ok (.ifCond .eq 13, 3) := by decide +kernel
theorem dX7_get_38 : decode cX7_get 38 = .ok (.aload_n 0, 1) := by decide +kernel
theorem dX7_get_39 : decode cX7_get 39 = .ok (.iload 4, 2) := by decide +kernel
theorem dX7_get_41 : decode cX7_get 41 = .ok (.putfield 280, 3) := by decide +kernel
theorem dX7_get_44 : decode cX7_get 44 = .ok (.ldc_w 279, 3) := by decide +kernel
theorem dX7_get_47 : decode cX7_get 47 = .ok (.ireturn, 1) := by decide +kernel
theorem dX7_get_48 : decode cX7_get 48 = .ok (.aload_n 0, 1) := by decide +kernel
theorem dX7_get_49 : decode cX7_get 49 = .ok (.getfield 68, 3) := by decide +kernel
theorem dX7_get_52 : decode cX7_get 52 = .ok (.iload_n 1, 1) := by decide +kernel
theorem dX7_get_53 : decode cX7_get 53 = .ok (.aaload, 1) := by decide +kernel
theorem dX7_get_54 : decode cX7_get 54 = .ok (.getfield 145, 3) := by decide +kernel
theorem dX7_get_57 : decode cX7_get 57 = .ok (.iload_n 3, 1) := by decide +kernel
theorem dX7_get_58 : decode cX7_get 58 = .ok (.iaload, 1) := by decide +kernel
theorem dX7_get_59 : decode cX7_get 59 = .ok (.ireturn, 1) := by decide +kernel
theorem dX7_copy_0 : decode cX7_copy 0 = .ok (.iload_n 1, 1) := by decide +kernel
theorem dX7_copy_1 : decode cX7_copy 1 = .ok (.iconst 4, 1) := by decide +kernel
theorem dX7_copy_2 : decode cX7_copy 2 = .ok (.invokestatic 73, 3) := by decide +kernel
theorem dX7_copy_5 : decode cX7_copy 5 = .ok (.ifCond .ne 11, 3) := by decide +kernel
theorem dX7_copy_8 : decode cX7_copy 8 = .ok (.iload_n 3, 1) := by decide +kernel
theorem dX7_copy_9 : decode cX7_copy 9 = .ok (.iconst 4, 1) := by decide +kernel
theorem dX7_copy_10 : decode cX7_copy 10 = .ok (.invokestatic 73, 3) := by decide +kernel
theorem dX7_copy_13 : decode cX7_copy 13 = .ok (.ifCond .eq 6, 3) := by decide +kernel
theorem dX7_copy_16 : decode cX7_copy 16 = .ok (.bipush (-2), 2) := by decide +kernel
theorem dX7_copy_18 : decode cX7_copy 18 = .ok (.ireturn, 1) := by decide +kernel
theorem dX7_copy_19 : decode cX7_copy 19 = .ok (.aload_n 0, 1) := by decide +kernel
theorem dX7_copy_20 : decode cX7_copy 20 = .ok (.getfield 68, 3) := by decide +kernel
theorem dX7_copy_23 : decode cX7_copy 23 = .ok (.iload_n 1, 1) := by decide +kernel
theorem dX7_copy_24 : decode cX7_copy 24 = .ok (.aaload, 1) := by decide +kernel
theorem dX7_copy_25 : decode cX7_copy 25 = .ok (.astore 6, 2) := by decide +kernel
theorem dX7_copy_27 : decode cX7_copy 27 = .ok (.aload_n 0, 1) := by decide +kernel
theorem dX7_copy_28 : decode cX7_copy 28 = .ok (.getfield 68, 3) := by decide +kernel
theorem dX7_copy_31 : decode cX7_copy 31 = .ok (.iload_n 3, 1) := by decide +kernel
theorem dX7_copy_32 : decode cX7_copy 32 = .ok (.aaload, 1) := by decide +kernel
theorem dX7_copy_33 : decode cX7_copy 33 = .ok (.astore 7, 2) := by decide +kernel
theorem dX7_copy_35 : decode cX7_copy 35 = .ok (.aload 6, 2) := by decide +kernel
theorem dX7_copy_37 : decode cX7_copy 37 = .ok (.invokevirtual 136, 3) := by decide +kernel
theorem dX7_copy_40 : decode cX7_copy 40 = .ok (.ifCond .ne 11, 3) := by decide +kernel
theorem dX7_copy_43 : decode cX7_copy 43 = .ok (.aload 7, 2) := by decide +kernel
theorem dX7_copy_45 : decode cX7_copy 45 = .ok (.invokevirtual 136, 3) := by decide +kernel
theorem dX7_copy_48 : decode cX7_copy 48 = .ok (.ifCond .eq 9, 3) := by decide +kernel
theorem dX7_copy_51 : decode cX7_copy 51 = .ok (.aload_n 0, 1) := by decide +kernel
theorem dX7_copy_52 : decode cX7_copy 52 = .ok (.iconst 1, 1) := by decide +kernel
theorem dX7_copy_53 : decode cX7_copy 53 = .ok (.invokevirtual 140, 3) := by decide +kernel
theorem dX7_copy_56 : decode cX7_copy 56 = .ok (.ireturn, 1) := by decide +kernel
theorem dX7_copy_57 : decode cX7_copy 57 = .ok (.aload 6, 2) := by decide +kernel
theorem dX7_copy_59 : decode cX7_copy 59 = .ok (.getfield 283, 3) := by decide +kernel
theorem dX7_copy_62 : decode cX7_copy 62 = .ok (.aload 7, 2) := by decide +kernel
theorem dX7_copy_64 : decode cX7_copy 64 = .ok (.getfield 283, 3) := by decide +kernel
theorem dX7_copy_67 : decode cX7_copy 67 = .ok (.if_icmp .eq 9, 3) := by decide +kernel
theorem dX7_copy_70 : decode cX7_copy 70 = .ok (.aload_n 0, 1) := by decide +kernel
theorem dX7_copy_71 : decode cX7_copy 71 = .ok (.iconst 4, 1) := by decide +kernel
theorem dX7_copy_72 : decode cX7_copy 72 = .ok (.invokevirtual 140, 3) := by decide +kernel
theorem dX7_copy_75 : decode cX7_copy 75 = .ok (.ireturn, 1) := by decide +kernel
theorem dX7_copy_76 : decode cX7_copy 76 = .ok (.aload 6, 2) := by decide +kernel
theorem dX7_copy_78 : decode cX7_copy 78 = .ok (.iload_n 2, 1) := by decide +kernel
theorem dX7_copy_79 : decode cX7_copy 79 = .ok (.iload 5, 2) := by decide +kernel
theorem dX7_copy_81 : decode cX7_copy 81 = .ok (.invokevirtual 286, 3) := by decide +kernel
theorem dX7_copy_84 : decode cX7_copy 84 = .ok (.ifCond .eq 15, 3) := by decide +kernel
theorem dX7_copy_87 : decode cX7_copy 87 = .ok (.aload 7, 2) := by decide +kernel
theorem dX7_copy_89 : decode cX7_copy 89 = .ok (.iload 4, 2) := by decide +kernel
theorem dX7_copy_91 : decode cX7_copy 91 = .ok (.iload 5, 2) := by decide +kernel
theorem dX7_copy_93 : decode cX7_copy 93 = .ok (.invokevirtual 286, 3) := by decide +kernel
theorem dX7_copy_96 : decode cX7_copy 96 = .ok (.ifCond .ne 9, 3) := by decide +kernel
theorem dX7_copy_99 : decode cX7_copy 99 = .ok (.aload_n 0, 1) := by decide +kernel
theorem dX7_copy_100 : decode cX7_copy 100 = .ok (.iconst 2, 1) := by decide +kernel
theorem dX7_copy_101 : decode cX7_copy 101 = .ok (.invokevirtual 140, 3) := by decide +kernel
theorem dX7_copy_104 : decode cX7_copy 104 = .ok (.ireturn, 1) := by decide +kernel
theorem dX7_copy_105 : decode cX7_copy 105 = .ok (.aload 6, 2) := by decide +kernel
theorem dX7_copy_107 : decode cX7_copy 107 = .ok (.getfield 145, 3) := by decide +kernel
theorem dX7_copy_110 : decode cX7_copy 110 = .ok (.iload_n 2, 1) := by decide +kernel
theorem dX7_copy_111 : decode cX7_copy 111 = .ok (.aload 7, 2) := by decide +kernel
theorem dX7_copy_113 : decode cX7_copy 113 = .ok (.getfield 145, 3) := by decide +kernel
theorem dX7_copy_116 : decode cX7_copy 116 = .ok (.iload 4, 2) := by decide +kernel
theorem dX7_copy_118 : decode cX7_copy 118 = .ok (.iload 5, 2) := by decide +kernel
theorem dX7_copy_120 : decode cX7_copy 120 = .ok (.invokestatic 289, 3) := by decide +kernel
theorem dX7_copy_123 : decode cX7_copy 123 = .ok (.iconst 1, 1) := by decide +kernel
theorem dX7_copy_124 : decode cX7_copy 124 = .ok (.ireturn, 1) := by decide +kernel
theorem dX7_write_0 : decode cX7_write 0 = .ok (.iload_n 1, 1) := by decide +kernel
theorem dX7_write_1 : decode cX7_write 1 = .ok (.iconst 4, 1) := by decide +kernel
theorem dX7_write_2 : decode cX7_write 2 = .ok (.invokestatic 73, 3) := by decide +kernel
theorem dX7_write_5 : decode cX7_write 5 = .ok (.ifCond .eq 6, 3) := by decide +kernel
theorem dX7_write_8 : decode cX7_write 8 = .ok (.bipush (-2), 2) := by decide +kernel
theorem dX7_write_10 : decode cX7_write 10 = .ok (.ireturn, 1) := by decide +kernel
theorem dX7_write_11 : decode cX7_write 11 = .ok (.aload_n 0, 1) := by decide +kernel
theorem dX7_write_12 : decode cX7_write 12 = .ok (.getfield 68, 3) := by decide +kernel
theorem dX7_write_15 : decode cX7_write 15 = .ok (.iload_n 1, 1) := by decide +kernel
theorem dX7_write_16 : decode cX7_write 16 = .ok (.aaload, 1) := by decide +kernel
theorem dX7_write_17 : decode cX7_write 17 = .ok (.astore_n 2, 1) := by decide +kernel
theorem dX7_write_18 : decode cX7_write 18 = .ok (.aload_n 2, 1) := by decide +kernel
theorem dX7_write_19 : decode cX7_write 19 = .ok (.invokevirtual 136, 3) := by decide +kernel
theorem dX7_write_22 : decode cX7_write 22 = .ok (.ifCond .eq 9, 3) := by decide +kernel
theorem dX7_write_25 : decode cX7_write 25 = .ok (.aload_n 0, 1) := by decide +kernel
theorem dX7_write_26 : decode cX7_write 26 = .ok (.iconst 1, 1) := by decide +kernel
theorem dX7_write_27 : decode cX7_write 27 = .ok (.invokevirtual 140, 3) := by decide +kernel
theorem dX7_write_30 : decode cX7_write 30 = .ok (.ireturn, 1) := by decide +kernel
theorem dX7_write_31 : decode cX7_write 31 = .ok (.aload_n 0, 1) := by decide +kernel
theorem dX7_write_32 : decode cX7_write 32 = .ok (.invokevirtual 151, 3) := by decide +kernel
theorem dX7_write_35 : decode cX7_write 35 = .ok (.astore_n 3, 1) := by decide +kernel
theorem dX7_write_36 : decode cX7_write 36 = .ok (.aload_n 2, 1) := by decide +kernel
theorem dX7_write_37 : decode cX7_write 37 = .ok (.getfield 144, 3) := by decide +kernel
theorem dX7_write_40 : decode cX7_write 40 = .ok (.bipush 40, 2) := by decide +kernel
theorem dX7_write_42 : decode cX7_write 42 = .ok (.invokestatic 237, 3) := by decide +kernel
theorem dX7_write_45 : decode cX7_write 45 = .ok (.istore 4, 2) := by decide +kernel
theorem dX7_write_47 : decode cX7_write 47 = .ok (.iconst 0, 1) := by decide +kernel
theorem dX7_write_48 : decode cX7_write 48 = .ok (.istore 5, 2) := by decide +kernel
theorem dX7_write_50 : decode cX7_write 50 = .ok (.iload 5, 2) := by decide +kernel
theorem dX7_write_52 : decode cX7_write 52 = .ok (.iload 4, 2) := by decide +kernel
theorem dX7_write_54 : decode cX7_write 54 = .ok (.if_icmp .ge 22, 3) := by decide +kernel
theorem dX7_write_57 : decode cX7_write 57 = .ok (.aload_n 2, 1) := by decide +kernel
theorem dX7_write_58 : decode cX7_write 58 = .ok (.iload 5, 2) := by decide +kernel
theorem dX7_write_60 : decode cX7_write 60 = .ok (.aload_n 3, 1) := by decide +kernel
theorem dX7_write_61 : decode cX7_write 61 = .ok (.getfield 155, 3) := by decide +kernel
theorem dX7_write_64 : decode cX7_write 64 = .ok (.iload 5, 2) := by decide +kernel
theorem dX7_write_66 : decode cX7_write 66 = .ok (.iaload, 1) := by decide +kernel
theorem dX7_write_67 : decode cX7_write 67 = .ok (.invokevirtual 276, 3) := by decide +kernel
theorem dX7_write_70 : decode cX7_write 70 = .ok (.iinc 5 1, 3) := by decide +kernel
theorem dX7_write_73 : decode cX7_write 73 = .ok (.goto (-23), 3) := by decide +kernel
theorem dX7_write_76 : decode cX7_write 76 = .ok (.iload 4, 2) := by decide +kernel
theorem dX7_write_78 : decode cX7_write 78 = .ok (.ireturn, 1) := by decide +kernel
theorem dX7_count_0 : decode cX7_count 0 = .ok (.iload_n 1, 1) := by decide +kernel
theorem dX7_count_1 : decode cX7_count 1 = .ok (.tableswitch 120 0 8 #[51, 59, 67, 75, 83, 91, 99, 107, 115], 51) := by decide +kernel
theorem dX7_count_52 : decode cX7_count 52 = .ok (.aload_n 0, 1) := by decide +kernel
theorem dX7_count_53 : decode cX7_count 53 = .ok (.getfield 12, 3) := by decide +kernel
theorem dX7_count_56 : decode cX7_count 56 = .ok (.getfield 177, 3) := by decide +kernel
theorem dX7_count_59 : decode cX7_count 59 = .ok (.ireturn, 1) := by decide +kernel
theorem dX7_count_60 : decode cX7_count 60 = .ok (.aload_n 0, 1) := by decide +kernel
theorem dX7_count_61 : decode cX7_count 61 = .ok (.getfield 18, 3) := by decide +kernel
theorem dX7_count_64 : decode cX7_count 64 = .ok (.getfield 177, 3) := by decide +kernel
theorem dX7_count_67 : decode cX7_count 67 = .ok (.ireturn, 1) := by decide +kernel
theorem dX7_count_68 : decode cX7_count 68 = .ok (.aload_n 0, 1) := by decide +kernel
theorem dX7_count_69 : decode cX7_count 69 = .ok (.getfield 12, 3) := by decide +kernel
theorem dX7_count_72 : decode cX7_count 72 = .ok (.getfield 81, 3) := by decide +kernel
theorem dX7_count_75 : decode cX7_count 75 = .ok (.ireturn, 1) := by decide +kernel
theorem dX7_count_76 : decode cX7_count 76 = .ok (.aload_n 0, 1) := by decide +kernel
theorem dX7_count_77 : decode cX7_count 77 = .ok (.getfield 18, 3) := by decide +kernel
theorem dX7_count_80 : decode cX7_count 80 = .ok (.getfield 81, 3) := by decide +kernel
theorem dX7_count_83 : decode cX7_count 83 = .ok (.ireturn, 1) := by decide +kernel
theorem dX7_count_84 : decode cX7_count 84 = .ok (.aload_n 0, 1) := by decide +kernel
theorem dX7_count_85 : decode cX7_count 85 = .ok (.getfield 33, 3) := by decide +kernel
theorem dX7_count_88 : decode cX7_count 88 = .ok (.getfield 135, 3) := by decide +kernel
theorem dX7_count_91 : decode cX7_count 91 = .ok (.ireturn, 1) := by decide +kernel
theorem dX7_count_92 : decode cX7_count 92 = .ok (.aload_n 0, 1) := by decide +kernel
theorem dX7_count_93 : decode cX7_count 93 = .ok (.getfield 37, 3) := by decide +kernel
theorem dX7_count_96 : decode cX7_count 96 = .ok (.getfield 135, 3) := by decide +kernel
theorem dX7_count_99 : decode cX7_count 99 = .ok (.ireturn, 1) := by decide +kernel
theorem dX7_count_100 : decode cX7_count 100 = .ok (.aload_n 0, 1) := by decide +kernel
theorem dX7_count_101 : decode cX7_count 101 = .ok (.getfield 43, 3) := by decide +kernel
theorem dX7_count_104 : decode cX7_count 104 = .ok (.getfield 252, 3) := by decide +kernel
theorem dX7_count_107 : decode cX7_count 107 = .ok (.ireturn, 1) := by decide +kernel
theorem dX7_count_108 : decode cX7_count 108 = .ok (.aload_n 0, 1) := by decide +kernel
theorem dX7_count_109 : decode cX7_count 109 = .ok (.getfield 26, 3) := by decide +kernel
theorem dX7_count_112 : decode cX7_count 112 = .ok (.invokevirtual 295, 3) := by decide +kernel
theorem dX7_count_115 : decode cX7_count 115 = .ok (.ireturn, 1) := by decide +kernel
theorem dX7_count_116 : decode cX7_count 116 = .ok (.aload_n 0, 1) := by decide +kernel
theorem dX7_count_117 : decode cX7_count 117 = .ok (.getfield 280, 3) := by decide +kernel
theorem dX7_count_120 : decode cX7_count 120 = .ok (.ireturn, 1) := by decide +kernel
theorem dX7_count_121 : decode cX7_count 121 = .ok (.bipush (-2), 2) := by decide +kernel
theorem dX7_count_123 : decode cX7_count 123 = .ok (.ireturn, 1) := by decide +kernel
theorem dX7_digest_0 : decode cX7_digest 0 = .ok (.ldc2_w 298, 3) := by decide +kernel
theorem dX7_digest_3 : decode cX7_digest 3 = .ok (.lstore_n 1, 1) := by decide +kernel
theorem dX7_digest_4 : decode cX7_digest 4 = .ok (.iconst 0, 1) := by decide +kernel
theorem dX7_digest_5 : decode cX7_digest 5 = .ok (.istore_n 3, 1) := by decide +kernel
theorem dX7_digest_6 : decode cX7_digest 6 = .ok (.iload_n 3, 1) := by decide +kernel
theorem dX7_digest_7 : decode cX7_digest 7 = .ok (.bipush 7, 2) := by decide +kernel
theorem dX7_digest_9 : decode cX7_digest 9 = .ok (.if_icmp .gt 20, 3) := by decide +kernel
theorem dX7_digest_12 : decode cX7_digest 12 = .ok (.lload_n 1, 1) := by decide +kernel
theorem dX7_digest_13 : decode cX7_digest 13 = .ok (.aload_n 0, 1) := by decide +kernel
theorem dX7_digest_14 : decode cX7_digest 14 = .ok (.iload_n 3, 1) := by decide +kernel
theorem dX7_digest_15 : decode cX7_digest 15 = .ok (.invokevirtual 300, 3) := by decide +kernel
theorem dX7_digest_18 : decode cX7_digest 18 = .ok (.i2l, 1) := by decide +kernel
theorem dX7_digest_19 : decode cX7_digest 19 = .ok (.invokestatic 303, 3) := by decide +kernel
theorem dX7_digest_22 : decode cX7_digest 22 = .ok (.lstore_n 1, 1) := by decide +kernel
theorem dX7_digest_23 : decode cX7_digest 23 = .ok (.iinc 3 1, 3) := by decide +kernel
theorem dX7_digest_26 : decode cX7_digest 26 = .ok (.goto (-20), 3) := by decide +kernel
theorem dX7_digest_29 : decode cX7_digest 29 = .ok (.lload_n 1, 1) := by decide +kernel
theorem dX7_digest_30 : decode cX7_digest 30 = .ok (.aload_n 0, 1) := by decide +kernel
theorem dX7_digest_31 : decode cX7_digest 31 = .ok (.iconst 0, 1) := by decide +kernel
theorem dX7_digest_32 : decode cX7_digest 32 = .ok (.invokevirtual 307, 3) := by decide +kernel
theorem dX7_digest_35 : decode cX7_digest 35 = .ok (.i2l, 1) := by decide +kernel
theorem dX7_digest_36 : decode cX7_digest 36 = .ok (.invokestatic 303, 3) := by decide +kernel
theorem dX7_digest_39 : decode cX7_digest 39 = .ok (.lstore_n 1, 1) := by decide +kernel
theorem dX7_digest_40 : decode cX7_digest 40 = .ok (.lload_n 1, 1) := by decide +kernel
theorem dX7_digest_41 : decode cX7_digest 41 = .ok (.aload_n 0, 1) := by decide +kernel
theorem dX7_digest_42 : decode cX7_digest 42 = .ok (.iconst 1, 1) := by decide +kernel
theorem dX7_digest_43 : decode cX7_digest 43 = .ok (.invokevirtual 307, 3) := by decide +kernel
theorem dX7_digest_46 : decode cX7_digest 46 = .ok (.i2l, 1) := by decide +kernel
theorem dX7_digest_47 : decode cX7_digest 47 = .ok (.invokestatic 303, 3) := by decide +kernel
theorem dX7_digest_50 : decode cX7_digest 50 = .ok (.lstore_n 1, 1) := by decide +kernel
theorem dX7_digest_51 : decode cX7_digest 51 = .ok (.iconst 0, 1) := by decide +kernel
theorem dX7_digest_52 : decode cX7_digest 52 = .ok (.istore_n 3, 1) := by decide +kernel
theorem dX7_digest_53 : decode cX7_digest 53 = .ok (.iload_n 3, 1) := by decide +kernel
theorem dX7_digest_54 : decode cX7_digest 54 = .ok (.aload_n 0, 1) := by decide +kernel
theorem dX7_digest_55 : decode cX7_digest 55 = .ok (.getfield 12, 3) := by decide +kernel
theorem dX7_digest_58 : decode cX7_digest 58 = .ok (.getfield 177, 3) := by decide +kernel
theorem dX7_digest_61 : decode cX7_digest 61 = .ok (.if_icmp .ge 16, 3) := by decide +kernel
theorem dX7_digest_64 : decode cX7_digest 64 = .ok (.aload_n 0, 1) := by decide +kernel
theorem dX7_digest_65 : decode cX7_digest 65 = .ok (.lload_n 1, 1) := by decide +kernel
theorem dX7_digest_66 : decode cX7_digest 66 = .ok (.iload_n 3, 1) := by decide +kernel
theorem dX7_digest_67 : decode cX7_digest 67 = .ok (.invokevirtual 310, 3) := by decide +kernel
theorem dX7_digest_70 : decode cX7_digest 70 = .ok (.lstore_n 1, 1) := by decide +kernel
theorem dX7_digest_71 : decode cX7_digest 71 = .ok (.iinc 3 1, 3) := by decide +kernel
theorem dX7_digest_74 : decode cX7_digest 74 = .ok (.goto (-21), 3) := by decide +kernel
theorem dX7_digest_77 : decode cX7_digest 77 = .ok (.iconst 0, 1) := by decide +kernel
theorem dX7_digest_78 : decode cX7_digest 78 = .ok (.istore_n 3, 1) := by decide +kernel
theorem dX7_digest_79 : decode cX7_digest 79 = .ok (.iload_n 3, 1) := by decide +kernel
theorem dX7_digest_80 : decode cX7_digest 80 = .ok (.aload_n 0, 1) := by decide +kernel
theorem dX7_digest_81 : decode cX7_digest 81 = .ok (.getfield 18, 3) := by decide +kernel
theorem dX7_digest_84 : decode cX7_digest 84 = .ok (.getfield 177, 3) := by decide +kernel
theorem dX7_digest_87 : decode cX7_digest 87 = .ok (.if_icmp .ge 16, 3) := by decide +kernel
theorem dX7_digest_90 : decode cX7_digest 90 = .ok (.aload_n 0, 1) := by decide +kernel
theorem dX7_digest_91 : decode cX7_digest 91 = .ok (.lload_n 1, 1) := by decide +kernel
theorem dX7_digest_92 : decode cX7_digest 92 = .ok (.iload_n 3, 1) := by decide +kernel
theorem dX7_digest_93 : decode cX7_digest 93 = .ok (.invokevirtual 314, 3) := by decide +kernel
theorem dX7_digest_96 : decode cX7_digest 96 = .ok (.lstore_n 1, 1) := by decide +kernel
theorem dX7_digest_97 : decode cX7_digest 97 = .ok (.iinc 3 1, 3) := by decide +kernel
theorem dX7_digest_100 : decode cX7_digest 100 = .ok (.goto (-21), 3) := by decide +kernel
theorem dX7_digest_103 : decode cX7_digest 103 = .ok (.aload_n 0, 1) := by decide +kernel
theorem dX7_digest_104 : decode cX7_digest 104 = .ok (.lload_n 1, 1) := by decide +kernel
theorem dX7_digest_105 : decode cX7_digest 105 = .ok (.iconst 0, 1) := by decide +kernel
theorem dX7_digest_106 : decode cX7_digest 106 = .ok (.invokevirtual 317, 3) := by decide +kernel
theorem dX7_digest_109 : decode cX7_digest 109 = .ok (.lstore_n 1, 1) := by decide +kernel
theorem dX7_digest_110 : decode cX7_digest 110 = .ok (.aload_n 0, 1) := by decide +kernel
theorem dX7_digest_111 : decode cX7_digest 111 = .ok (.lload_n 1, 1) := by decide +kernel
theorem dX7_digest_112 : decode cX7_digest 112 = .ok (.iconst 1, 1) := by decide +kernel
theorem dX7_digest_113 : decode cX7_digest 113 = .ok (.invokevirtual 317, 3) := by decide +kernel
theorem dX7_digest_116 : decode cX7_digest 116 = .ok (.lstore_n 1, 1) := by decide +kernel
theorem dX7_digest_117 : decode cX7_digest 117 = .ok (.aload_n 0, 1) := by decide +kernel
theorem dX7_digest_118 : decode cX7_digest 118 = .ok (.lload_n 1, 1) := by decide +kernel
theorem dX7_digest_119 : decode cX7_digest 119 = .ok (.iconst 5, 1) := by decide +kernel
theorem dX7_digest_120 : decode cX7_digest 120 = .ok (.invokevirtual 317, 3) := by decide +kernel
theorem dX7_digest_123 : decode cX7_digest 123 = .ok (.lstore_n 1, 1) := by decide +kernel
theorem dX7_digest_124 : decode cX7_digest 124 = .ok (.aload_n 0, 1) := by decide +kernel
theorem dX7_digest_125 : decode cX7_digest 125 = .ok (.lload_n 1, 1) := by decide +kernel
theorem dX7_digest_126 : decode cX7_digest 126 = .ok (.bipush 39, 2) := by decide +kernel
theorem dX7_digest_128 : decode cX7_digest 128 = .ok (.invokevirtual 317, 3) := by decide +kernel
theorem dX7_digest_131 : decode cX7_digest 131 = .ok (.lstore_n 1, 1) := by decide +kernel
theorem dX7_digest_132 : decode cX7_digest 132 = .ok (.aload_n 0, 1) := by decide +kernel
theorem dX7_digest_133 : decode cX7_digest 133 = .ok (.lload_n 1, 1) := by decide +kernel
theorem dX7_digest_134 : decode cX7_digest 134 = .ok (.invokevirtual 320, 3) := by decide +kernel
theorem dX7_digest_137 : decode cX7_digest 137 = .ok (.lreturn, 1) := by decide +kernel
theorem dX7_mixed_0 : decode cX7_mixed 0 = .ok (.ldc2_w 324, 3) := by decide +kernel
theorem dX7_mixed_3 : decode cX7_mixed 3 = .ok (.lload_n 0, 1) := by decide +kernel
theorem dX7_mixed_4 : decode cX7_mixed 4 = .ok (.lmul, 1) := by decide +kernel
theorem dX7_mixed_5 : decode cX7_mixed 5 = .ok (.lload_n 2, 1) := by decide +kernel
theorem dX7_mixed_6 : decode cX7_mixed 6 = .ok (.ladd, 1) := by decide +kernel
theorem dX7_mixed_7 : decode cX7_mixed 7 = .ok (.lreturn, 1) := by decide +kernel
theorem dX7_virtueMixed_0 : decode cX7_virtueMixed 0 = .ok (.lload_n 1, 1) := by decide +kernel
theorem dX7_virtueMixed_1 : decode cX7_virtueMixed 1 = .ok (.aload_n 0, 1) := by decide +kernel
theorem dX7_virtueMixed_2 : decode cX7_virtueMixed 2 = .ok (.iload_n 3, 1) := by decide +kernel
theorem dX7_virtueMixed_3 : decode cX7_virtueMixed 3 = .ok (.iconst 0, 1) := by decide +kernel
theorem dX7_virtueMixed_4 : decode cX7_virtueMixed 4 = .ok (.invokevirtual 326, 3) := by decide +kernel
theorem dX7_virtueMixed_7 : decode cX7_virtueMixed 7 = .ok (.i2l, 1) := by decide +kernel
theorem dX7_virtueMixed_8 : decode cX7_virtueMixed 8 = .ok (.invokestatic 303, 3) := by decide +kernel
theorem dX7_virtueMixed_11 : decode cX7_virtueMixed 11 = .ok (.lstore 4, 2) := by decide +kernel
theorem dX7_virtueMixed_13 : decode cX7_virtueMixed 13 = .ok (.lload 4, 2) := by decide +kernel
theorem dX7_virtueMixed_15 : decode cX7_virtueMixed 15 = .ok (.aload_n 0, 1) := by decide +kernel
theorem dX7_virtueMixed_16 : decode cX7_virtueMixed 16 = .ok (.iload_n 3, 1) := by decide +kernel
theorem dX7_virtueMixed_17 : decode cX7_virtueMixed 17 = .ok (.iconst 1, 1) := by decide +kernel
theorem dX7_virtueMixed_18 : decode cX7_virtueMixed 18 = .ok (.invokevirtual 326, 3) := by decide +kernel
theorem dX7_virtueMixed_21 : decode cX7_virtueMixed 21 = .ok (.i2l, 1) := by decide +kernel
theorem dX7_virtueMixed_22 : decode cX7_virtueMixed 22 = .ok (.invokestatic 303, 3) := by decide +kernel
theorem dX7_virtueMixed_25 : decode cX7_virtueMixed 25 = .ok (.lstore 4, 2) := by decide +kernel
theorem dX7_virtueMixed_27 : decode cX7_virtueMixed 27 = .ok (.lload 4, 2) := by decide +kernel
theorem dX7_virtueMixed_29 : decode cX7_virtueMixed 29 = .ok (.aload_n 0, 1) := by decide +kernel
theorem dX7_virtueMixed_30 : decode cX7_virtueMixed 30 = .ok (.iload_n 3, 1) := by decide +kernel
theorem dX7_virtueMixed_31 : decode cX7_virtueMixed 31 = .ok (.iconst 0, 1) := by decide +kernel
theorem dX7_virtueMixed_32 : decode cX7_virtueMixed 32 = .ok (.invokevirtual 329, 3) := by decide +kernel
theorem dX7_virtueMixed_35 : decode cX7_virtueMixed 35 = .ok (.i2l, 1) := by decide +kernel
theorem dX7_virtueMixed_36 : decode cX7_virtueMixed 36 = .ok (.invokestatic 303, 3) := by decide +kernel
theorem dX7_virtueMixed_39 : decode cX7_virtueMixed 39 = .ok (.lstore 4, 2) := by decide +kernel
theorem dX7_virtueMixed_41 : decode cX7_virtueMixed 41 = .ok (.lload 4, 2) := by decide +kernel
theorem dX7_virtueMixed_43 : decode cX7_virtueMixed 43 = .ok (.aload_n 0, 1) := by decide +kernel
theorem dX7_virtueMixed_44 : decode cX7_virtueMixed 44 = .ok (.iload_n 3, 1) := by decide +kernel
theorem dX7_virtueMixed_45 : decode cX7_virtueMixed 45 = .ok (.iconst 1, 1) := by decide +kernel
theorem dX7_virtueMixed_46 : decode cX7_virtueMixed 46 = .ok (.invokevirtual 329, 3) := by decide +kernel
theorem dX7_virtueMixed_49 : decode cX7_virtueMixed 49 = .ok (.i2l, 1) := by decide +kernel
theorem dX7_virtueMixed_50 : decode cX7_virtueMixed 50 = .ok (.invokestatic 303, 3) := by decide +kernel
theorem dX7_virtueMixed_53 : decode cX7_virtueMixed 53 = .ok (.lstore 4, 2) := by decide +kernel
theorem dX7_virtueMixed_55 : decode cX7_virtueMixed 55 = .ok (.lload 4, 2) := by decide +kernel
theorem dX7_virtueMixed_57 : decode cX7_virtueMixed 57 = .ok (.aload_n 0, 1) := by decide +kernel
theorem dX7_virtueMixed_58 : decode cX7_virtueMixed 58 = .ok (.iconst 1, 1) := by decide +kernel
theorem dX7_virtueMixed_59 : decode cX7_virtueMixed 59 = .ok (.iload_n 3, 1) := by decide +kernel
theorem dX7_virtueMixed_60 : decode cX7_virtueMixed 60 = .ok (.invokevirtual 332, 3) := by decide +kernel
theorem dX7_virtueMixed_63 : decode cX7_virtueMixed 63 = .ok (.i2l, 1) := by decide +kernel
theorem dX7_virtueMixed_64 : decode cX7_virtueMixed 64 = .ok (.invokestatic 303, 3) := by decide +kernel
theorem dX7_virtueMixed_67 : decode cX7_virtueMixed 67 = .ok (.lstore 4, 2) := by decide +kernel
theorem dX7_virtueMixed_69 : decode cX7_virtueMixed 69 = .ok (.lload 4, 2) := by decide +kernel
theorem dX7_virtueMixed_71 : decode cX7_virtueMixed 71 = .ok (.aload_n 0, 1) := by decide +kernel
theorem dX7_virtueMixed_72 : decode cX7_virtueMixed 72 = .ok (.iload_n 3, 1) := by decide +kernel
theorem dX7_virtueMixed_73 : decode cX7_virtueMixed 73 = .ok (.invokevirtual 335, 3) := by decide +kernel
theorem dX7_virtueMixed_76 : decode cX7_virtueMixed 76 = .ok (.i2l, 1) := by decide +kernel
theorem dX7_virtueMixed_77 : decode cX7_virtueMixed 77 = .ok (.invokestatic 303, 3) := by decide +kernel
theorem dX7_virtueMixed_80 : decode cX7_virtueMixed 80 = .ok (.lstore 4, 2) := by decide +kernel
theorem dX7_virtueMixed_82 : decode cX7_virtueMixed 82 = .ok (.lload 4, 2) := by decide +kernel
theorem dX7_virtueMixed_84 : decode cX7_virtueMixed 84 = .ok (.aload_n 0, 1) := by decide +kernel
theorem dX7_virtueMixed_85 : decode cX7_virtueMixed 85 = .ok (.iload_n 3, 1) := by decide +kernel
theorem dX7_virtueMixed_86 : decode cX7_virtueMixed 86 = .ok (.invokevirtual 338, 3) := by decide +kernel
theorem dX7_virtueMixed_89 : decode cX7_virtueMixed 89 = .ok (.i2l, 1) := by decide +kernel
theorem dX7_virtueMixed_90 : decode cX7_virtueMixed 90 = .ok (.invokestatic 303, 3) := by decide +kernel
theorem dX7_virtueMixed_93 : decode cX7_virtueMixed 93 = .ok (.lstore 4, 2) := by decide +kernel
theorem dX7_virtueMixed_95 : decode cX7_virtueMixed 95 = .ok (.lload 4, 2) := by decide +kernel
theorem dX7_virtueMixed_97 : decode cX7_virtueMixed 97 = .ok (.aload_n 0, 1) := by decide +kernel
theorem dX7_virtueMixed_98 : decode cX7_virtueMixed 98 = .ok (.iload_n 3, 1) := by decide +kernel
theorem dX7_virtueMixed_99 : decode cX7_virtueMixed 99 = .ok (.iconst 0, 1) := by decide +kernel
theorem dX7_virtueMixed_100 : decode cX7_virtueMixed 100 = .ok (.invokevirtual 341, 3) := by decide +kernel
theorem dX7_virtueMixed_103 : decode cX7_virtueMixed 103 = .ok (.invokestatic 303, 3) := by decide +kernel
theorem dX7_virtueMixed_106 : decode cX7_virtueMixed 106 = .ok (.lstore 4, 2) := by decide +kernel
theorem dX7_virtueMixed_108 : decode cX7_virtueMixed 108 = .ok (.lload 4, 2) := by decide +kernel
theorem dX7_virtueMixed_110 : decode cX7_virtueMixed 110 = .ok (.aload_n 0, 1) := by decide +kernel
theorem dX7_virtueMixed_111 : decode cX7_virtueMixed 111 = .ok (.iload_n 3, 1) := by decide +kernel
theorem dX7_virtueMixed_112 : decode cX7_virtueMixed 112 = .ok (.iconst 1, 1) := by decide +kernel
theorem dX7_virtueMixed_113 : decode cX7_virtueMixed 113 = .ok (.invokevirtual 341, 3) := by decide +kernel
theorem dX7_virtueMixed_116 : decode cX7_virtueMixed 116 = .ok (.invokestatic 303, 3) := by decide +kernel
theorem dX7_virtueMixed_119 : decode cX7_virtueMixed 119 = .ok (.lstore 4, 2) := by decide +kernel
theorem dX7_virtueMixed_121 : decode cX7_virtueMixed 121 = .ok (.lload 4, 2) := by decide +kernel
theorem dX7_virtueMixed_123 : decode cX7_virtueMixed 123 = .ok (.aload_n 0, 1) := by decide +kernel
theorem dX7_virtueMixed_124 : decode cX7_virtueMixed 124 = .ok (.iload_n 3, 1) := by decide +kernel
theorem dX7_virtueMixed_125 : decode cX7_virtueMixed 125 = .ok (.invokevirtual 345, 3) := by decide +kernel
theorem dX7_virtueMixed_128 : decode cX7_virtueMixed 128 = .ok (.i2l, 1) := by decide +kernel
theorem dX7_virtueMixed_129 : decode cX7_virtueMixed 129 = .ok (.invokestatic 303, 3) := by decide +kernel
theorem dX7_virtueMixed_132 : decode cX7_virtueMixed 132 = .ok (.lstore 4, 2) := by decide +kernel
theorem dX7_virtueMixed_134 : decode cX7_virtueMixed 134 = .ok (.lload 4, 2) := by decide +kernel
theorem dX7_virtueMixed_136 : decode cX7_virtueMixed 136 = .ok (.aload_n 0, 1) := by decide +kernel
theorem dX7_virtueMixed_137 : decode cX7_virtueMixed 137 = .ok (.iload_n 3, 1) := by decide +kernel
theorem dX7_virtueMixed_138 : decode cX7_virtueMixed 138 = .ok (.invokevirtual 348, 3) := by decide +kernel
theorem dX7_virtueMixed_141 : decode cX7_virtueMixed 141 = .ok (.i2l, 1) := by decide +kernel
theorem dX7_virtueMixed_142 : decode cX7_virtueMixed 142 = .ok (.invokestatic 303, 3) := by decide +kernel
theorem dX7_virtueMixed_145 : decode cX7_virtueMixed 145 = .ok (.lreturn, 1) := by decide +kernel
theorem dX7_claimantMixed_0 : decode cX7_claimantMixed 0 = .ok (.lload_n 1, 1) := by decide +kernel
theorem dX7_claimantMixed_1 : decode cX7_claimantMixed 1 = .ok (.aload_n 0, 1) := by decide +kernel
theorem dX7_claimantMixed_2 : decode cX7_claimantMixed 2 = .ok (.iload_n 3, 1) := by decide +kernel
theorem dX7_claimantMixed_3 : decode cX7_claimantMixed 3 = .ok (.iconst 0, 1) := by decide +kernel
theorem dX7_claimantMixed_4 : decode cX7_claimantMixed 4 = .ok (.invokevirtual 351, 3) := by decide +kernel
theorem dX7_claimantMixed_7 : decode cX7_claimantMixed 7 = .ok (.i2l, 1) := by decide +kernel
theorem dX7_claimantMixed_8 : decode cX7_claimantMixed 8 = .ok (.invokestatic 303, 3) := by decide +kernel
theorem dX7_claimantMixed_11 : decode cX7_claimantMixed 11 = .ok (.lstore 4, 2) := by decide +kernel
theorem dX7_claimantMixed_13 : decode cX7_claimantMixed 13 = .ok (.lload 4, 2) := by decide +kernel
theorem dX7_claimantMixed_15 : decode cX7_claimantMixed 15 = .ok (.aload_n 0, 1) := by decide +kernel
theorem dX7_claimantMixed_16 : decode cX7_claimantMixed 16 = .ok (.iload_n 3, 1) := by decide +kernel
theorem dX7_claimantMixed_17 : decode cX7_claimantMixed 17 = .ok (.iconst 1, 1) := by decide +kernel
theorem dX7_claimantMixed_18 : decode cX7_claimantMixed 18 = .ok (.invokevirtual 351, 3) := by decide +kernel
theorem dX7_claimantMixed_21 : decode cX7_claimantMixed 21 = .ok (.i2l, 1) := by decide +kernel
theorem dX7_claimantMixed_22 : decode cX7_claimantMixed 22 = .ok (.invokestatic 303, 3) := by decide +kernel
theorem dX7_claimantMixed_25 : decode cX7_claimantMixed 25 = .ok (.lstore 4, 2) := by decide +kernel
theorem dX7_claimantMixed_27 : decode cX7_claimantMixed 27 = .ok (.lload 4, 2) := by decide +kernel
theorem dX7_claimantMixed_29 : decode cX7_claimantMixed 29 = .ok (.aload_n 0, 1) := by decide +kernel
theorem dX7_claimantMixed_30 : decode cX7_claimantMixed 30 = .ok (.iload_n 3, 1) := by decide +kernel
theorem dX7_claimantMixed_31 : decode cX7_claimantMixed 31 = .ok (.iconst 2, 1) := by decide +kernel
theorem dX7_claimantMixed_32 : decode cX7_claimantMixed 32 = .ok (.invokevirtual 351, 3) := by decide +kernel
theorem dX7_claimantMixed_35 : decode cX7_claimantMixed 35 = .ok (.i2l, 1) := by decide +kernel
theorem dX7_claimantMixed_36 : decode cX7_claimantMixed 36 = .ok (.invokestatic 303, 3) := by decide +kernel
theorem dX7_claimantMixed_39 : decode cX7_claimantMixed 39 = .ok (.lstore 4, 2) := by decide +kernel
theorem dX7_claimantMixed_41 : decode cX7_claimantMixed 41 = .ok (.lload 4, 2) := by decide +kernel
theorem dX7_claimantMixed_43 : decode cX7_claimantMixed 43 = .ok (.aload_n 0, 1) := by decide +kernel
theorem dX7_claimantMixed_44 : decode cX7_claimantMixed 44 = .ok (.iconst 0, 1) := by decide +kernel
theorem dX7_claimantMixed_45 : decode cX7_claimantMixed 45 = .ok (.iload_n 3, 1) := by decide +kernel
theorem dX7_claimantMixed_46 : decode cX7_claimantMixed 46 = .ok (.invokevirtual 332, 3) := by decide +kernel
theorem dX7_claimantMixed_49 : decode cX7_claimantMixed 49 = .ok (.i2l, 1) := by decide +kernel
theorem dX7_claimantMixed_50 : decode cX7_claimantMixed 50 = .ok (.invokestatic 303, 3) := by decide +kernel
theorem dX7_claimantMixed_53 : decode cX7_claimantMixed 53 = .ok (.lstore 4, 2) := by decide +kernel
theorem dX7_claimantMixed_55 : decode cX7_claimantMixed 55 = .ok (.lload 4, 2) := by decide +kernel
theorem dX7_claimantMixed_57 : decode cX7_claimantMixed 57 = .ok (.aload_n 0, 1) := by decide +kernel
theorem dX7_claimantMixed_58 : decode cX7_claimantMixed 58 = .ok (.iload_n 3, 1) := by decide +kernel
theorem dX7_claimantMixed_59 : decode cX7_claimantMixed 59 = .ok (.invokevirtual 354, 3) := by decide +kernel
theorem dX7_claimantMixed_62 : decode cX7_claimantMixed 62 = .ok (.i2l, 1) := by decide +kernel
theorem dX7_claimantMixed_63 : decode cX7_claimantMixed 63 = .ok (.invokestatic 303, 3) := by decide +kernel
theorem dX7_claimantMixed_66 : decode cX7_claimantMixed 66 = .ok (.lreturn, 1) := by decide +kernel
theorem dX7_weekMixed_0 : decode cX7_weekMixed 0 = .ok (.lload_n 1, 1) := by decide +kernel
theorem dX7_weekMixed_1 : decode cX7_weekMixed 1 = .ok (.aload_n 0, 1) := by decide +kernel
theorem dX7_weekMixed_2 : decode cX7_weekMixed 2 = .ok (.iload_n 3, 1) := by decide +kernel
theorem dX7_weekMixed_3 : decode cX7_weekMixed 3 = .ok (.iconst 0, 1) := by decide +kernel
theorem dX7_weekMixed_4 : decode cX7_weekMixed 4 = .ok (.invokevirtual 357, 3) := by decide +kernel
theorem dX7_weekMixed_7 : decode cX7_weekMixed 7 = .ok (.i2l, 1) := by decide +kernel
theorem dX7_weekMixed_8 : decode cX7_weekMixed 8 = .ok (.invokestatic 303, 3) := by decide +kernel
theorem dX7_weekMixed_11 : decode cX7_weekMixed 11 = .ok (.lstore 4, 2) := by decide +kernel
theorem dX7_weekMixed_13 : decode cX7_weekMixed 13 = .ok (.lload 4, 2) := by decide +kernel
theorem dX7_weekMixed_15 : decode cX7_weekMixed 15 = .ok (.aload_n 0, 1) := by decide +kernel
theorem dX7_weekMixed_16 : decode cX7_weekMixed 16 = .ok (.iload_n 3, 1) := by decide +kernel
theorem dX7_weekMixed_17 : decode cX7_weekMixed 17 = .ok (.iconst 1, 1) := by decide +kernel
theorem dX7_weekMixed_18 : decode cX7_weekMixed 18 = .ok (.invokevirtual 357, 3) := by decide +kernel
theorem dX7_weekMixed_21 : decode cX7_weekMixed 21 = .ok (.i2l, 1) := by decide +kernel
theorem dX7_weekMixed_22 : decode cX7_weekMixed 22 = .ok (.invokestatic 303, 3) := by decide +kernel
theorem dX7_weekMixed_25 : decode cX7_weekMixed 25 = .ok (.lstore 4, 2) := by decide +kernel
theorem dX7_weekMixed_27 : decode cX7_weekMixed 27 = .ok (.lload 4, 2) := by decide +kernel
theorem dX7_weekMixed_29 : decode cX7_weekMixed 29 = .ok (.aload_n 0, 1) := by decide +kernel
theorem dX7_weekMixed_30 : decode cX7_weekMixed 30 = .ok (.iload_n 3, 1) := by decide +kernel
theorem dX7_weekMixed_31 : decode cX7_weekMixed 31 = .ok (.iconst 2, 1) := by decide +kernel
theorem dX7_weekMixed_32 : decode cX7_weekMixed 32 = .ok (.invokevirtual 357, 3) := by decide +kernel
theorem dX7_weekMixed_35 : decode cX7_weekMixed 35 = .ok (.i2l, 1) := by decide +kernel
theorem dX7_weekMixed_36 : decode cX7_weekMixed 36 = .ok (.invokestatic 303, 3) := by decide +kernel
theorem dX7_weekMixed_39 : decode cX7_weekMixed 39 = .ok (.lreturn, 1) := by decide +kernel
theorem dX7_wholeMixed_0 : decode cX7_wholeMixed 0 = .ok (.lload_n 1, 1) := by decide +kernel
theorem dX7_wholeMixed_1 : decode cX7_wholeMixed 1 = .ok (.aload_n 0, 1) := by decide +kernel
theorem dX7_wholeMixed_2 : decode cX7_wholeMixed 2 = .ok (.invokevirtual 360, 3) := by decide +kernel
theorem dX7_wholeMixed_5 : decode cX7_wholeMixed 5 = .ok (.i2l, 1) := by decide +kernel
theorem dX7_wholeMixed_6 : decode cX7_wholeMixed 6 = .ok (.invokestatic 303, 3) := by decide +kernel
theorem dX7_wholeMixed_9 : decode cX7_wholeMixed 9 = .ok (.lstore_n 3, 1) := by decide +kernel
theorem dX7_wholeMixed_10 : decode cX7_wholeMixed 10 = .ok (.lload_n 3, 1) := by decide +kernel
theorem dX7_wholeMixed_11 : decode cX7_wholeMixed 11 = .ok (.aload_n 0, 1) := by decide +kernel
theorem dX7_wholeMixed_12 : decode cX7_wholeMixed 12 = .ok (.invokevirtual 363, 3) := by decide +kernel
theorem dX7_wholeMixed_15 : decode cX7_wholeMixed 15 = .ok (.i2l, 1) := by decide +kernel
theorem dX7_wholeMixed_16 : decode cX7_wholeMixed 16 = .ok (.invokestatic 303, 3) := by decide +kernel
theorem dX7_wholeMixed_19 : decode cX7_wholeMixed 19 = .ok (.lstore_n 3, 1) := by decide +kernel
theorem dX7_wholeMixed_20 : decode cX7_wholeMixed 20 = .ok (.lload_n 3, 1) := by decide +kernel
theorem dX7_wholeMixed_21 : decode cX7_wholeMixed 21 = .ok (.aload_n 0, 1) := by decide +kernel
theorem dX7_wholeMixed_22 : decode cX7_wholeMixed 22 = .ok (.invokevirtual 366, 3) := by decide +kernel
theorem dX7_wholeMixed_25 : decode cX7_wholeMixed 25 = .ok (.i2l, 1) := by decide +kernel
theorem dX7_wholeMixed_26 : decode cX7_wholeMixed 26 = .ok (.invokestatic 303, 3) := by decide +kernel
theorem dX7_wholeMixed_29 : decode cX7_wholeMixed 29 = .ok (.lstore_n 3, 1) := by decide +kernel
theorem dX7_wholeMixed_30 : decode cX7_wholeMixed 30 = .ok (.lload_n 3, 1) := by decide +kernel
theorem dX7_wholeMixed_31 : decode cX7_wholeMixed 31 = .ok (.aload_n 0, 1) := by decide +kernel
theorem dX7_wholeMixed_32 : decode cX7_wholeMixed 32 = .ok (.bipush (-2), 2) := by decide +kernel
theorem dX7_wholeMixed_34 : decode cX7_wholeMixed 34 = .ok (.invokevirtual 335, 3) := by decide +kernel
theorem dX7_wholeMixed_37 : decode cX7_wholeMixed 37 = .ok (.i2l, 1) := by decide +kernel
theorem dX7_wholeMixed_38 : decode cX7_wholeMixed 38 = .ok (.invokestatic 303, 3) := by decide +kernel
theorem dX7_wholeMixed_41 : decode cX7_wholeMixed 41 = .ok (.lstore_n 3, 1) := by decide +kernel
theorem dX7_wholeMixed_42 : decode cX7_wholeMixed 42 = .ok (.lload_n 3, 1) := by decide +kernel
theorem dX7_wholeMixed_43 : decode cX7_wholeMixed 43 = .ok (.aload_n 0, 1) := by decide +kernel
theorem dX7_wholeMixed_44 : decode cX7_wholeMixed 44 = .ok (.iconst (-1), 1) := by decide +kernel
theorem dX7_wholeMixed_45 : decode cX7_wholeMixed 45 = .ok (.invokevirtual 335, 3) := by decide +kernel
theorem dX7_wholeMixed_48 : decode cX7_wholeMixed 48 = .ok (.i2l, 1) := by decide +kernel
theorem dX7_wholeMixed_49 : decode cX7_wholeMixed 49 = .ok (.invokestatic 303, 3) := by decide +kernel
theorem dX7_wholeMixed_52 : decode cX7_wholeMixed 52 = .ok (.lstore_n 3, 1) := by decide +kernel
theorem dX7_wholeMixed_53 : decode cX7_wholeMixed 53 = .ok (.lload_n 3, 1) := by decide +kernel
theorem dX7_wholeMixed_54 : decode cX7_wholeMixed 54 = .ok (.aload_n 0, 1) := by decide +kernel
theorem dX7_wholeMixed_55 : decode cX7_wholeMixed 55 = .ok (.bipush 8, 2) := by decide +kernel
theorem dX7_wholeMixed_57 : decode cX7_wholeMixed 57 = .ok (.invokevirtual 368, 3) := by decide +kernel
theorem dX7_wholeMixed_60 : decode cX7_wholeMixed 60 = .ok (.i2l, 1) := by decide +kernel
theorem dX7_wholeMixed_61 : decode cX7_wholeMixed 61 = .ok (.invokestatic 303, 3) := by decide +kernel
theorem dX7_wholeMixed_64 : decode cX7_wholeMixed 64 = .ok (.lstore_n 3, 1) := by decide +kernel
theorem dX7_wholeMixed_65 : decode cX7_wholeMixed 65 = .ok (.lload_n 3, 1) := by decide +kernel
theorem dX7_wholeMixed_66 : decode cX7_wholeMixed 66 = .ok (.aload_n 0, 1) := by decide +kernel
theorem dX7_wholeMixed_67 : decode cX7_wholeMixed 67 = .ok (.iconst (-1), 1) := by decide +kernel
theorem dX7_wholeMixed_68 : decode cX7_wholeMixed 68 = .ok (.invokevirtual 371, 3) := by decide +kernel
theorem dX7_wholeMixed_71 : decode cX7_wholeMixed 71 = .ok (.i2l, 1) := by decide +kernel
theorem dX7_wholeMixed_72 : decode cX7_wholeMixed 72 = .ok (.invokestatic 303, 3) := by decide +kernel
theorem dX7_wholeMixed_75 : decode cX7_wholeMixed 75 = .ok (.lstore_n 3, 1) := by decide +kernel
theorem dX7_wholeMixed_76 : decode cX7_wholeMixed 76 = .ok (.lload_n 3, 1) := by decide +kernel
theorem dX7_wholeMixed_77 : decode cX7_wholeMixed 77 = .ok (.aload_n 0, 1) := by decide +kernel
theorem dX7_wholeMixed_78 : decode cX7_wholeMixed 78 = .ok (.iconst 0, 1) := by decide +kernel
theorem dX7_wholeMixed_79 : decode cX7_wholeMixed 79 = .ok (.invokevirtual 371, 3) := by decide +kernel
theorem dX7_wholeMixed_82 : decode cX7_wholeMixed 82 = .ok (.i2l, 1) := by decide +kernel
theorem dX7_wholeMixed_83 : decode cX7_wholeMixed 83 = .ok (.invokestatic 303, 3) := by decide +kernel
theorem dX7_wholeMixed_86 : decode cX7_wholeMixed 86 = .ok (.lstore_n 3, 1) := by decide +kernel
theorem dX7_wholeMixed_87 : decode cX7_wholeMixed 87 = .ok (.lload_n 3, 1) := by decide +kernel
theorem dX7_wholeMixed_88 : decode cX7_wholeMixed 88 = .ok (.aload_n 0, 1) := by decide +kernel
theorem dX7_wholeMixed_89 : decode cX7_wholeMixed 89 = .ok (.iconst (-1), 1) := by decide +kernel
theorem dX7_wholeMixed_90 : decode cX7_wholeMixed 90 = .ok (.invokevirtual 345, 3) := by decide +kernel
theorem dX7_wholeMixed_93 : decode cX7_wholeMixed 93 = .ok (.i2l, 1) := by decide +kernel
theorem dX7_wholeMixed_94 : decode cX7_wholeMixed 94 = .ok (.invokestatic 303, 3) := by decide +kernel
theorem dX7_wholeMixed_97 : decode cX7_wholeMixed 97 = .ok (.lstore_n 3, 1) := by decide +kernel
theorem dX7_wholeMixed_98 : decode cX7_wholeMixed 98 = .ok (.lload_n 3, 1) := by decide +kernel
theorem dX7_wholeMixed_99 : decode cX7_wholeMixed 99 = .ok (.aload_n 0, 1) := by decide +kernel
theorem dX7_wholeMixed_100 : decode cX7_wholeMixed 100 = .ok (.bipush 7, 2) := by decide +kernel
theorem dX7_wholeMixed_102 : decode cX7_wholeMixed 102 = .ok (.bipush 20, 2) := by decide +kernel
theorem dX7_wholeMixed_104 : decode cX7_wholeMixed 104 = .ok (.iconst 0, 1) := by decide +kernel
theorem dX7_wholeMixed_105 : decode cX7_wholeMixed 105 = .ok (.invokevirtual 374, 3) := by decide +kernel
theorem dX7_wholeMixed_108 : decode cX7_wholeMixed 108 = .ok (.i2l, 1) := by decide +kernel
theorem dX7_wholeMixed_109 : decode cX7_wholeMixed 109 = .ok (.invokestatic 303, 3) := by decide +kernel
theorem dX7_wholeMixed_112 : decode cX7_wholeMixed 112 = .ok (.lstore_n 3, 1) := by decide +kernel
theorem dX7_wholeMixed_113 : decode cX7_wholeMixed 113 = .ok (.lload_n 3, 1) := by decide +kernel
theorem dX7_wholeMixed_114 : decode cX7_wholeMixed 114 = .ok (.aload_n 0, 1) := by decide +kernel
theorem dX7_wholeMixed_115 : decode cX7_wholeMixed 115 = .ok (.bipush 7, 2) := by decide +kernel
theorem dX7_wholeMixed_117 : decode cX7_wholeMixed 117 = .ok (.bipush 20, 2) := by decide +kernel
theorem dX7_wholeMixed_119 : decode cX7_wholeMixed 119 = .ok (.iconst 1, 1) := by decide +kernel
theorem dX7_wholeMixed_120 : decode cX7_wholeMixed 120 = .ok (.invokevirtual 374, 3) := by decide +kernel
theorem dX7_wholeMixed_123 : decode cX7_wholeMixed 123 = .ok (.i2l, 1) := by decide +kernel
theorem dX7_wholeMixed_124 : decode cX7_wholeMixed 124 = .ok (.invokestatic 303, 3) := by decide +kernel
theorem dX7_wholeMixed_127 : decode cX7_wholeMixed 127 = .ok (.lreturn, 1) := by decide +kernel
theorem dX7_outside_0 : decode cX7_outside 0 = .ok (.iload_n 0, 1) := by decide +kernel
theorem dX7_outside_1 : decode cX7_outside 1 = .ok (.ifCond .lt 8, 3) := by decide +kernel
theorem dX7_outside_4 : decode cX7_outside 4 = .ok (.iload_n 0, 1) := by decide +kernel
theorem dX7_outside_5 : decode cX7_outside 5 = .ok (.iload_n 1, 1) := by decide +kernel
theorem dX7_outside_6 : decode cX7_outside 6 = .ok (.if_icmp .lt 7, 3) := by decide +kernel
theorem dX7_outside_9 : decode cX7_outside 9 = .ok (.iconst 1, 1) := by decide +kernel
theorem dX7_outside_10 : decode cX7_outside 10 = .ok (.goto 4, 3) := by decide +kernel
theorem dX7_outside_13 : decode cX7_outside 13 = .ok (.iconst 0, 1) := by decide +kernel
theorem dX7_outside_14 : decode cX7_outside 14 = .ok (.ireturn, 1) := by decide +kernel
theorem dX7_noVirtue_0 : decode cX7_noVirtue 0 = .ok (.iload_n 1, 1) := by decide +kernel
theorem dX7_noVirtue_1 : decode cX7_noVirtue 1 = .ok (.aload_n 0, 1) := by decide +kernel
theorem dX7_noVirtue_2 : decode cX7_noVirtue 2 = .ok (.getfield 12, 3) := by decide +kernel
theorem dX7_noVirtue_5 : decode cX7_noVirtue 5 = .ok (.getfield 177, 3) := by decide +kernel
theorem dX7_noVirtue_8 : decode cX7_noVirtue 8 = .ok (.invokestatic 73, 3) := by decide +kernel
theorem dX7_noVirtue_11 : decode cX7_noVirtue 11 = .ok (.ireturn, 1) := by decide +kernel
theorem dX7_noClaimant_0 : decode cX7_noClaimant 0 = .ok (.iload_n 1, 1) := by decide +kernel
theorem dX7_noClaimant_1 : decode cX7_noClaimant 1 = .ok (.aload_n 0, 1) := by decide +kernel
theorem dX7_noClaimant_2 : decode cX7_noClaimant 2 = .ok (.getfield 18, 3) := by decide +kernel
theorem dX7_noClaimant_5 : decode cX7_noClaimant 5 = .ok (.getfield 177, 3) := by decide +kernel
theorem dX7_noClaimant_8 : decode cX7_noClaimant 8 = .ok (.invokestatic 73, 3) := by decide +kernel
theorem dX7_noClaimant_11 : decode cX7_noClaimant 11 = .ok (.ireturn, 1) := by decide +kernel
theorem dX7_textOf_0 : decode cX7_textOf 0 = .ok (.iload_n 1, 1) := by decide +kernel
theorem dX7_textOf_1 : decode cX7_textOf 1 = .ok (.ifCond .ne 10, 3) := by decide +kernel
theorem dX7_textOf_4 : decode cX7_textOf 4 = .ok (.aload_n 0, 1) := by decide +kernel
theorem dX7_textOf_5 : decode cX7_textOf 5 = .ok (.getfield 12, 3) := by decide +kernel
theorem dX7_textOf_8 : decode cX7_textOf 8 = .ok (.goto 7, 3) := by decide +kernel
theorem dX7_textOf_11 : decode cX7_textOf 11 = .ok (.aload_n 0, 1) := by decide +kernel
theorem dX7_textOf_12 : decode cX7_textOf 12 = .ok (.getfield 18, 3) := by decide +kernel
theorem dX7_textOf_15 : decode cX7_textOf 15 = .ok (.areturn, 1) := by decide +kernel
theorem dX7_textChanged_0 : decode cX7_textChanged 0 = .ok (.aload_n 0, 1) := by decide +kernel
theorem dX7_textChanged_1 : decode cX7_textChanged 1 = .ok (.iconst 0, 1) := by decide +kernel
theorem dX7_textChanged_2 : decode cX7_textChanged 2 = .ok (.putfield 128, 3) := by decide +kernel
theorem dX7_textChanged_5 : decode cX7_textChanged 5 = .ok (.aload_n 0, 1) := by decide +kernel
theorem dX7_textChanged_6 : decode cX7_textChanged 6 = .ok (.iconst 0, 1) := by decide +kernel
theorem dX7_textChanged_7 : decode cX7_textChanged 7 = .ok (.putfield 377, 3) := by decide +kernel
theorem dX7_textChanged_10 : decode cX7_textChanged 10 = .ok (.return_, 1) := by decide +kernel
theorem dX7_found_0 : decode cX7_found 0 = .ok (.aload_n 0, 1) := by decide +kernel
theorem dX7_found_1 : decode cX7_found 1 = .ok (.iload_n 1, 1) := by decide +kernel
theorem dX7_found_2 : decode cX7_found 2 = .ok (.putfield 280, 3) := by decide +kernel
theorem dX7_found_5 : decode cX7_found 5 = .ok (.bipush (-10), 2) := by decide +kernel
theorem dX7_found_7 : decode cX7_found 7 = .ok (.iload_n 1, 1) := by decide +kernel
theorem dX7_found_8 : decode cX7_found 8 = .ok (.isub, 1) := by decide +kernel
theorem dX7_found_9 : decode cX7_found 9 = .ok (.ireturn, 1) := by decide +kernel
theorem dX7_toldRun_0 : decode cX7_toldRun 0 = .ok (.aload_n 0, 1) := by decide +kernel
theorem dX7_toldRun_1 : decode cX7_toldRun 1 = .ok (.getfield 128, 3) := by decide +kernel
theorem dX7_toldRun_4 : decode cX7_toldRun 4 = .ok (.ifCond .ne 32, 3) := by decide +kernel
theorem dX7_toldRun_7 : decode cX7_toldRun 7 = .ok (.aload_n 0, 1) := by decide +kernel
theorem dX7_toldRun_8 : decode cX7_toldRun 8 = .ok (.getfield 52, 3) := by decide +kernel
theorem dX7_toldRun_11 : decode cX7_toldRun 11 = .ok (.aload_n 0, 1) := by decide +kernel
theorem dX7_toldRun_12 : decode cX7_toldRun 12 = .ok (.getfield 33, 3) := by decide +kernel
theorem dX7_toldRun_15 : decode cX7_toldRun 15 = .ok (.aload_n 0, 1) := by decide +kernel
theorem dX7_toldRun_16 : decode cX7_toldRun 16 = .ok (.getfield 37, 3) := by decide +kernel
theorem dX7_toldRun_19 : decode cX7_toldRun 19 = .ok (.invokevirtual 253, 3) := by decide +kernel
theorem dX7_toldRun_22 : decode cX7_toldRun 22 = .ok (.aload_n 0, 1) := by decide +kernel
theorem dX7_toldRun_23 : decode cX7_toldRun 23 = .ok (.getfield 52, 3) := by decide +kernel
theorem dX7_toldRun_26 : decode cX7_toldRun 26 = .ok (.bipush 39, 2) := by decide +kernel
theorem dX7_toldRun_28 : decode cX7_toldRun 28 = .ok (.invokevirtual 264, 3) := by decide +kernel
theorem dX7_toldRun_31 : decode cX7_toldRun 31 = .ok (.aload_n 0, 1) := by decide +kernel
theorem dX7_toldRun_32 : decode cX7_toldRun 32 = .ok (.iconst 1, 1) := by decide +kernel
theorem dX7_toldRun_33 : decode cX7_toldRun 33 = .ok (.putfield 128, 3) := by decide +kernel
theorem dX7_toldRun_36 : decode cX7_toldRun 36 = .ok (.aload_n 0, 1) := by decide +kernel
theorem dX7_toldRun_37 : decode cX7_toldRun 37 = .ok (.getfield 52, 3) := by decide +kernel
theorem dX7_toldRun_40 : decode cX7_toldRun 40 = .ok (.areturn, 1) := by decide +kernel
theorem dX7_bestRows_0 : decode cX7_bestRows 0 = .ok (.aload_n 0, 1) := by decide +kernel
theorem dX7_bestRows_1 : decode cX7_bestRows 1 = .ok (.getfield 377, 3) := by decide +kernel
theorem dX7_bestRows_4 : decode cX7_bestRows 4 = .ok (.ifCond .ne 30, 3) := by decide +kernel
theorem dX7_bestRows_7 : decode cX7_bestRows 7 = .ok (.aload_n 0, 1) := by decide +kernel
theorem dX7_bestRows_8 : decode cX7_bestRows 8 = .ok (.getfield 62, 3) := by decide +kernel
theorem dX7_bestRows_11 : decode cX7_bestRows 11 = .ok (.aload_n 0, 1) := by decide +kernel
theorem dX7_bestRows_12 : decode cX7_bestRows 12 = .ok (.getfield 26, 3) := by decide +kernel
theorem dX7_bestRows_15 : decode cX7_bestRows 15 = .ok (.invokevirtual 380, 3) := by decide +kernel
theorem dX7_bestRows_18 : decode cX7_bestRows 18 = .ok (.aload_n 0, 1) := by decide +kernel
theorem dX7_bestRows_19 : decode cX7_bestRows 19 = .ok (.getfield 62, 3) := by decide +kernel
theorem dX7_bestRows_22 : decode cX7_bestRows 22 = .ok (.aload_n 0, 1) := by decide +kernel
theorem dX7_bestRows_23 : decode cX7_bestRows 23 = .ok (.getfield 12, 3) := by decide +kernel
theorem dX7_bestRows_26 : decode cX7_bestRows 26 = .ok (.invokevirtual 383, 3) := by decide +kernel
theorem dX7_bestRows_29 : decode cX7_bestRows 29 = .ok (.aload_n 0, 1) := by decide +kernel
theorem dX7_bestRows_30 : decode cX7_bestRows 30 = .ok (.iconst 1, 1) := by decide +kernel
theorem dX7_bestRows_31 : decode cX7_bestRows 31 = .ok (.putfield 377, 3) := by decide +kernel
theorem dX7_bestRows_34 : decode cX7_bestRows 34 = .ok (.aload_n 0, 1) := by decide +kernel
theorem dX7_bestRows_35 : decode cX7_bestRows 35 = .ok (.getfield 62, 3) := by decide +kernel
theorem dX7_bestRows_38 : decode cX7_bestRows 38 = .ok (.areturn, 1) := by decide +kernel
theorem dX7_greatestDivisor_0 : decode cX7_greatestDivisor 0 = .ok (.iload_n 0, 1) := by decide +kernel
theorem dX7_greatestDivisor_1 : decode cX7_greatestDivisor 1 = .ok (.iload_n 1, 1) := by decide +kernel
theorem dX7_greatestDivisor_2 : decode cX7_greatestDivisor 2 = .ok (.invokestatic 237, 3) := by decide +kernel
theorem dX7_greatestDivisor_5 : decode cX7_greatestDivisor 5 = .ok (.istore_n 2, 1) := by decide +kernel
theorem dX7_greatestDivisor_6 : decode cX7_greatestDivisor 6 = .ok (.iload_n 2, 1) := by decide +kernel
theorem dX7_greatestDivisor_7 : decode cX7_greatestDivisor 7 = .ok (.iconst 1, 1) := by decide +kernel
theorem dX7_greatestDivisor_8 : decode cX7_greatestDivisor 8 = .ok (.if_icmp .le 23, 3) := by decide +kernel
theorem dX7_greatestDivisor_11 : decode cX7_greatestDivisor 11 = .ok (.iload_n 0, 1) := by decide +kernel
theorem dX7_greatestDivisor_12 : decode cX7_greatestDivisor 12 = .ok (.iload_n 2, 1) := by decide +kernel
theorem dX7_greatestDivisor_13 : decode cX7_greatestDivisor 13 = .ok (.irem, 1) := by decide +kernel
theorem dX7_greatestDivisor_14 : decode cX7_greatestDivisor 14 = .ok (.ifCond .ne 11, 3) := by decide +kernel
theorem dX7_greatestDivisor_17 : decode cX7_greatestDivisor 17 = .ok (.iload_n 1, 1) := by decide +kernel
theorem dX7_greatestDivisor_18 : decode cX7_greatestDivisor 18 = .ok (.iload_n 2, 1) := by decide +kernel
theorem dX7_greatestDivisor_19 : decode cX7_greatestDivisor 19 = .ok (.irem, 1) := by decide +kernel
theorem dX7_greatestDivisor_20 : decode cX7_greatestDivisor 20 = .ok (.ifCond .ne 5, 3) := by decide +kernel
theorem dX7_greatestDivisor_23 : decode cX7_greatestDivisor 23 = .ok (.iload_n 2, 1) := by decide +kernel
theorem dX7_greatestDivisor_24 : decode cX7_greatestDivisor 24 = .ok (.ireturn, 1) := by decide +kernel
theorem dX7_greatestDivisor_25 : decode cX7_greatestDivisor 25 = .ok (.iinc 2 (-1), 3) := by decide +kernel
theorem dX7_greatestDivisor_28 : decode cX7_greatestDivisor 28 = .ok (.goto (-22), 3) := by decide +kernel
theorem dX7_greatestDivisor_31 : decode cX7_greatestDivisor 31 = .ok (.iconst 1, 1) := by decide +kernel
theorem dX7_greatestDivisor_32 : decode cX7_greatestDivisor 32 = .ok (.ireturn, 1) := by decide +kernel
theorem dX7_guarded_0 : decode cX7_guarded 0 = .ok (.iconst 0, 1) := by decide +kernel
theorem dX7_guarded_1 : decode cX7_guarded 1 = .ok (.istore_n 3, 1) := by decide +kernel
theorem dX7_guarded_2 : decode cX7_guarded 2 = .ok (.iload_n 3, 1) := by decide +kernel
theorem dX7_guarded_3 : decode cX7_guarded 3 = .ok (.aload_n 0, 1) := by decide +kernel
theorem dX7_guarded_4 : decode cX7_guarded 4 = .ok (.getfield 12, 3) := by decide +kernel
theorem dX7_guarded_7 : decode cX7_guarded 7 = .ok (.getfield 177, 3) := by decide +kernel
theorem dX7_guarded_10 : decode cX7_guarded 10 = .ok (.if_icmp .ge 44, 3) := by decide +kernel
theorem dX7_guarded_13 : decode cX7_guarded 13 = .ok (.aload_n 0, 1) := by decide +kernel
theorem dX7_guarded_14 : decode cX7_guarded 14 = .ok (.getfield 26, 3) := by decide +kernel
theorem dX7_guarded_17 : decode cX7_guarded 17 = .ok (.iload_n 3, 1) := by decide +kernel
theorem dX7_guarded_18 : decode cX7_guarded 18 = .ok (.iload_n 1, 1) := by decide +kernel
theorem dX7_guarded_19 : decode cX7_guarded 19 = .ok (.invokevirtual 225, 3) := by decide +kernel
theorem dX7_guarded_22 : decode cX7_guarded 22 = .ok (.istore 4, 2) := by decide +kernel
theorem dX7_guarded_24 : decode cX7_guarded 24 = .ok (.aload_n 0, 1) := by decide +kernel
theorem dX7_guarded_25 : decode cX7_guarded 25 = .ok (.getfield 26, 3) := by decide +kernel
theorem dX7_guarded_28 : decode cX7_guarded 28 = .ok (.iload 4, 2) := by decide +kernel
theorem dX7_guarded_30 : decode cX7_guarded 30 = .ok (.invokevirtual 228, 3) := by decide +kernel
theorem dX7_guarded_33 : decode cX7_guarded 33 = .ok (.bipush 16, 2) := by decide +kernel
theorem dX7_guarded_35 : decode cX7_guarded 35 = .ok (.imul, 1) := by decide +kernel
theorem dX7_guarded_36 : decode cX7_guarded 36 = .ok (.iload_n 2, 1) := by decide +kernel
theorem dX7_guarded_37 : decode cX7_guarded 37 = .ok (.iload 4, 2) := by decide +kernel
theorem dX7_guarded_39 : decode cX7_guarded 39 = .ok (.invokestatic 210, 3) := by decide +kernel
theorem dX7_guarded_42 : decode cX7_guarded 42 = .ok (.imul, 1) := by decide +kernel
theorem dX7_guarded_43 : decode cX7_guarded 43 = .ok (.if_icmp .le 5, 3) := by decide +kernel
theorem dX7_guarded_46 : decode cX7_guarded 46 = .ok (.iconst 0, 1) := by decide +kernel
theorem dX7_guarded_47 : decode cX7_guarded 47 = .ok (.ireturn, 1) := by decide +kernel
theorem dX7_guarded_48 : decode cX7_guarded 48 = .ok (.iinc 3 1, 3) := by decide +kernel
theorem dX7_guarded_51 : decode cX7_guarded 51 = .ok (.goto (-49), 3) := by decide +kernel
theorem dX7_guarded_54 : decode cX7_guarded 54 = .ok (.iconst 1, 1) := by decide +kernel
theorem dX7_guarded_55 : decode cX7_guarded 55 = .ok (.ireturn, 1) := by decide +kernel
theorem dX7_shelfPlace_0 : decode cX7_shelfPlace 0 = .ok (.aload_n 0, 1) := by decide +kernel
theorem dX7_shelfPlace_1 : decode cX7_shelfPlace 1 = .ok (.getfield 26, 3) := by decide +kernel
theorem dX7_shelfPlace_4 : decode cX7_shelfPlace 4 = .ok (.iload_n 1, 1) := by decide +kernel
theorem dX7_shelfPlace_5 : decode cX7_shelfPlace 5 = .ok (.invokevirtual 243, 3) := by decide +kernel
theorem dX7_shelfPlace_8 : decode cX7_shelfPlace 8 = .ok (.istore_n 3, 1) := by decide +kernel
theorem dX7_shelfPlace_9 : decode cX7_shelfPlace 9 = .ok (.iconst 0, 1) := by decide +kernel
theorem dX7_shelfPlace_10 : decode cX7_shelfPlace 10 = .ok (.istore 4, 2) := by decide +kernel
theorem dX7_shelfPlace_12 : decode cX7_shelfPlace 12 = .ok (.iconst 0, 1) := by decide +kernel
theorem dX7_shelfPlace_13 : decode cX7_shelfPlace 13 = .ok (.istore 5, 2) := by decide +kernel
theorem dX7_shelfPlace_15 : decode cX7_shelfPlace 15 = .ok (.iload 5, 2) := by decide +kernel
theorem dX7_shelfPlace_17 : decode cX7_shelfPlace 17 = .ok (.iload_n 2, 1) := by decide +kernel
theorem dX7_shelfPlace_18 : decode cX7_shelfPlace 18 = .ok (.if_icmp .ge 41, 3) := by decide +kernel
theorem dX7_shelfPlace_21 : decode cX7_shelfPlace 21 = .ok (.aload_n 0, 1) := by decide +kernel
theorem dX7_shelfPlace_22 : decode cX7_shelfPlace 22 = .ok (.getfield 26, 3) := by decide +kernel
theorem dX7_shelfPlace_25 : decode cX7_shelfPlace 25 = .ok (.iload 5, 2) := by decide +kernel
theorem dX7_shelfPlace_27 : decode cX7_shelfPlace 27 = .ok (.invokevirtual 243, 3) := by decide +kernel
theorem dX7_shelfPlace_30 : decode cX7_shelfPlace 30 = .ok (.istore 6, 2) := by decide +kernel
theorem dX7_shelfPlace_32 : decode cX7_shelfPlace 32 = .ok (.iload 6, 2) := by decide +kernel
theorem dX7_shelfPlace_34 : decode cX7_shelfPlace 34 = .ok (.iload_n 3, 1) := by decide +kernel
theorem dX7_shelfPlace_35 : decode cX7_shelfPlace 35 = .ok (.if_icmp .gt 15, 3) := by decide +kernel
theorem dX7_shelfPlace_38 : decode cX7_shelfPlace 38 = .ok (.iload 6, 2) := by decide +kernel
theorem dX7_shelfPlace_40 : decode cX7_shelfPlace 40 = .ok (.iload_n 3, 1) := by decide +kernel
theorem dX7_shelfPlace_41 : decode cX7_shelfPlace 41 = .ok (.if_icmp .ne 12, 3) := by decide +kernel
theorem dX7_shelfPlace_44 : decode cX7_shelfPlace 44 = .ok (.iload 5, 2) := by decide +kernel
theorem dX7_shelfPlace_46 : decode cX7_shelfPlace 46 = .ok (.iload_n 1, 1) := by decide +kernel
theorem dX7_shelfPlace_47 : decode cX7_shelfPlace 47 = .ok (.if_icmp .ge 6, 3) := by decide +kernel
theorem dX7_shelfPlace_50 : decode cX7_shelfPlace 50 = .ok (.iinc 4 1, 3) := by decide +kernel
theorem dX7_shelfPlace_53 : decode cX7_shelfPlace 53 = .ok (.iinc 5 1, 3) := by decide +kernel
theorem dX7_shelfPlace_56 : decode cX7_shelfPlace 56 = .ok (.goto (-41), 3) := by decide +kernel
theorem dX7_shelfPlace_59 : decode cX7_shelfPlace 59 = .ok (.iload 4, 2) := by decide +kernel
theorem dX7_shelfPlace_61 : decode cX7_shelfPlace 61 = .ok (.ireturn, 1) := by decide +kernel
theorem dX7_comesOutSo_0 : decode cX7_comesOutSo 0 = .ok (.aload_n 0, 1) := by decide +kernel
theorem dX7_comesOutSo_1 : decode cX7_comesOutSo 1 = .ok (.getfield 56, 3) := by decide +kernel
theorem dX7_comesOutSo_4 : decode cX7_comesOutSo 4 = .ok (.getfield 387, 3) := by decide +kernel
theorem dX7_comesOutSo_7 : decode cX7_comesOutSo 7 = .ok (.iload_n 1, 1) := by decide +kernel
theorem dX7_comesOutSo_8 : decode cX7_comesOutSo 8 = .ok (.iaload, 1) := by decide +kernel
theorem dX7_comesOutSo_9 : decode cX7_comesOutSo 9 = .ok (.istore_n 3, 1) := by decide +kernel
theorem dX7_comesOutSo_10 : decode cX7_comesOutSo 10 = .ok (.aload_n 0, 1) := by decide +kernel
theorem dX7_comesOutSo_11 : decode cX7_comesOutSo 11 = .ok (.getfield 56, 3) := by decide +kernel
theorem dX7_comesOutSo_14 : decode cX7_comesOutSo 14 = .ok (.iload_n 1, 1) := by decide +kernel
theorem dX7_comesOutSo_15 : decode cX7_comesOutSo 15 = .ok (.iload_n 2, 1) := by decide +kernel
theorem dX7_comesOutSo_16 : decode cX7_comesOutSo 16 = .ok (.invokevirtual 390, 3) := by decide +kernel
theorem dX7_comesOutSo_19 : decode cX7_comesOutSo 19 = .ok (.aload_n 0, 1) := by decide +kernel
theorem dX7_comesOutSo_20 : decode cX7_comesOutSo 20 = .ok (.getfield 56, 3) := by decide +kernel
theorem dX7_comesOutSo_23 : decode cX7_comesOutSo 23 = .ok (.aload_n 0, 1) := by decide +kernel
theorem dX7_comesOutSo_24 : decode cX7_comesOutSo 24 = .ok (.getfield 43, 3) := by decide +kernel
theorem dX7_comesOutSo_27 : decode cX7_comesOutSo 27 = .ok (.invokevirtual 393, 3) := by decide +kernel
theorem dX7_comesOutSo_30 : decode cX7_comesOutSo 30 = .ok (.invokevirtual 264, 3) := by decide +kernel
theorem dX7_comesOutSo_33 : decode cX7_comesOutSo 33 = .ok (.aload_n 0, 1) := by decide +kernel
theorem dX7_comesOutSo_34 : decode cX7_comesOutSo 34 = .ok (.getfield 56, 3) := by decide +kernel
theorem dX7_comesOutSo_37 : decode cX7_comesOutSo 37 = .ok (.getfield 387, 3) := by decide +kernel
theorem dX7_comesOutSo_40 : decode cX7_comesOutSo 40 = .ok (.iload_n 1, 1) := by decide +kernel
theorem dX7_comesOutSo_41 : decode cX7_comesOutSo 41 = .ok (.iload_n 3, 1) := by decide +kernel
theorem dX7_comesOutSo_42 : decode cX7_comesOutSo 42 = .ok (.iastore, 1) := by decide +kernel
theorem dX7_comesOutSo_43 : decode cX7_comesOutSo 43 = .ok (.aload_n 0, 1) := by decide +kernel
theorem dX7_comesOutSo_44 : decode cX7_comesOutSo 44 = .ok (.getfield 43, 3) := by decide +kernel
theorem dX7_comesOutSo_47 : decode cX7_comesOutSo 47 = .ok (.aload_n 0, 1) := by decide +kernel
theorem dX7_comesOutSo_48 : decode cX7_comesOutSo 48 = .ok (.getfield 56, 3) := by decide +kernel
theorem dX7_comesOutSo_51 : decode cX7_comesOutSo 51 = .ok (.getfield 155, 3) := by decide +kernel
theorem dX7_comesOutSo_54 : decode cX7_comesOutSo 54 = .ok (.invokevirtual 396, 3) := by decide +kernel
theorem dX7_comesOutSo_57 : decode cX7_comesOutSo 57 = .ok (.ireturn, 1) := by decide +kernel
theorem dX7_drawLots_0 : decode cX7_drawLots 0 = .ok (.aload_n 0, 1) := by decide +kernel
theorem dX7_drawLots_1 : decode cX7_drawLots 1 = .ok (.getfield 12, 3) := by decide +kernel
theorem dX7_drawLots_4 : decode cX7_drawLots 4 = .ok (.getfield 177, 3) := by decide +kernel
theorem dX7_drawLots_7 : decode cX7_drawLots 7 = .ok (.istore_n 3, 1) := by decide +kernel
theorem dX7_drawLots_8 : decode cX7_drawLots 8 = .ok (.aload_n 0, 1) := by decide +kernel
theorem dX7_drawLots_9 : decode cX7_drawLots 9 = .ok (.getfield 18, 3) := by decide +kernel
theorem dX7_drawLots_12 : decode cX7_drawLots 12 = .ok (.getfield 177, 3) := by decide +kernel
theorem dX7_drawLots_15 : decode cX7_drawLots 15 = .ok (.istore 4, 2) := by decide +kernel
theorem dX7_drawLots_17 : decode cX7_drawLots 17 = .ok (.iload_n 3, 1) := by decide +kernel
theorem dX7_drawLots_18 : decode cX7_drawLots 18 = .ok (.ifCond .eq 8, 3) := by decide +kernel
theorem dX7_drawLots_21 : decode cX7_drawLots 21 = .ok (.iload 4, 2) := by decide +kernel
theorem dX7_drawLots_23 : decode cX7_drawLots 23 = .ok (.ifCond .ne 4, 3) := by decide +kernel
theorem dX7_drawLots_26 : decode cX7_drawLots 26 = .ok (.return_, 1) := by decide +kernel
theorem dX7_drawLots_27 : decode cX7_drawLots 27 = .ok (.iload_n 1, 1) := by decide +kernel
theorem dX7_drawLots_28 : decode cX7_drawLots 28 = .ok (.istore 5, 2) := by decide +kernel
theorem dX7_drawLots_30 : decode cX7_drawLots 30 = .ok (.iconst 0, 1) := by decide +kernel
theorem dX7_drawLots_31 : decode cX7_drawLots 31 = .ok (.istore 6, 2) := by decide +kernel
theorem dX7_drawLots_33 : decode cX7_drawLots 33 = .ok (.iload 6, 2) := by decide +kernel
theorem dX7_drawLots_35 : decode cX7_drawLots 35 = .ok (.iload_n 2, 1) := by decide +kernel
theorem dX7_drawLots_36 : decode cX7_drawLots 36 = .ok (.if_icmp .ge 61, 3) := by decide +kernel
theorem dX7_drawLots_39 : decode cX7_drawLots 39 = .ok (.iload 5, 2) := by decide +kernel
theorem dX7_drawLots_41 : decode cX7_drawLots 41 = .ok (.invokestatic 400, 3) := by decide +kernel
theorem dX7_drawLots_44 : decode cX7_drawLots 44 = .ok (.istore 5, 2) := by decide +kernel
theorem dX7_drawLots_46 : decode cX7_drawLots 46 = .ok (.aload_n 0, 1) := by decide +kernel
theorem dX7_drawLots_47 : decode cX7_drawLots 47 = .ok (.getfield 56, 3) := by decide +kernel
theorem dX7_drawLots_50 : decode cX7_drawLots 50 = .ok (.iload 6, 2) := by decide +kernel
theorem dX7_drawLots_52 : decode cX7_drawLots 52 = .ok (.iload 5, 2) := by decide +kernel
theorem dX7_drawLots_54 : decode cX7_drawLots 54 = .ok (.bipush 16, 2) := by decide +kernel
theorem dX7_drawLots_56 : decode cX7_drawLots 56 = .ok (.iushr, 1) := by decide +kernel
theorem dX7_drawLots_57 : decode cX7_drawLots 57 = .ok (.iload_n 3, 1) := by decide +kernel
theorem dX7_drawLots_58 : decode cX7_drawLots 58 = .ok (.irem, 1) := by decide +kernel
theorem dX7_drawLots_59 : decode cX7_drawLots 59 = .ok (.invokevirtual 390, 3) := by decide +kernel
theorem dX7_drawLots_62 : decode cX7_drawLots 62 = .ok (.iload 5, 2) := by decide +kernel
theorem dX7_drawLots_64 : decode cX7_drawLots 64 = .ok (.invokestatic 400, 3) := by decide +kernel
theorem dX7_drawLots_67 : decode cX7_drawLots 67 = .ok (.istore 5, 2) := by decide +kernel
theorem dX7_drawLots_69 : decode cX7_drawLots 69 = .ok (.aload_n 0, 1) := by decide +kernel
theorem dX7_drawLots_70 : decode cX7_drawLots 70 = .ok (.getfield 56, 3) := by decide +kernel
theorem dX7_drawLots_73 : decode cX7_drawLots 73 = .ok (.iload 6, 2) := by decide +kernel
theorem dX7_drawLots_75 : decode cX7_drawLots 75 = .ok (.iload 5, 2) := by decide +kernel
theorem dX7_drawLots_77 : decode cX7_drawLots 77 = .ok (.bipush 16, 2) := by decide +kernel
theorem dX7_drawLots_79 : decode cX7_drawLots 79 = .ok (.iushr, 1) := by decide +kernel
theorem dX7_drawLots_80 : decode cX7_drawLots 80 = .ok (.iload 4, 2) := by decide +kernel
theorem dX7_drawLots_82 : decode cX7_drawLots 82 = .ok (.irem, 1) := by decide +kernel
theorem dX7_drawLots_83 : decode cX7_drawLots 83 = .ok (.bipush 12, 2) := by decide +kernel
theorem dX7_drawLots_85 : decode cX7_drawLots 85 = .ok (.iload 6, 2) := by decide +kernel
theorem dX7_drawLots_87 : decode cX7_drawLots 87 = .ok (.iadd, 1) := by decide +kernel
theorem dX7_drawLots_88 : decode cX7_drawLots 88 = .ok (.invokevirtual 403, 3) := by decide +kernel
theorem dX7_drawLots_91 : decode cX7_drawLots 91 = .ok (.iinc 6 1, 3) := by decide +kernel
theorem dX7_drawLots_94 : decode cX7_drawLots 94 = .ok (.goto (-61), 3) := by decide +kernel
theorem dX7_drawLots_97 : decode cX7_drawLots 97 = .ok (.return_, 1) := by decide +kernel
theorem dX7_nextSeed_0 : decode cX7_nextSeed 0 = .ok (.ldc_w 407, 3) := by decide +kernel
theorem dX7_nextSeed_3 : decode cX7_nextSeed 3 = .ok (.iload_n 0, 1) := by decide +kernel
theorem dX7_nextSeed_4 : decode cX7_nextSeed 4 = .ok (.imul, 1) := by decide +kernel
theorem dX7_nextSeed_5 : decode cX7_nextSeed 5 = .ok (.sipush 12345, 3) := by decide +kernel
theorem dX7_nextSeed_8 : decode cX7_nextSeed 8 = .ok (.iadd, 1) := by decide +kernel
theorem dX7_nextSeed_9 : decode cX7_nextSeed 9 = .ok (.ireturn, 1) := by decide +kernel
theorem dX8_init_0 : decode cX8_init 0 = .ok (.aload_n 0, 1) := by decide +kernel
theorem dX8_init_1 : decode cX8_init 1 = .ok (.invokespecial 1, 3) := by decide +kernel
theorem dX8_init_4 : decode cX8_init 4 = .ok (.aload_n 0, 1) := by decide +kernel
theorem dX8_init_5 : decode cX8_init 5 = .ok (.iconst 2, 1) := by decide +kernel
theorem dX8_init_6 : decode cX8_init 6 = .ok (.newarray .int, 2) := by decide +kernel
theorem dX8_init_8 : decode cX8_init 8 = .ok (.putfield 7, 3) := by decide +kernel
theorem dX8_init_11 : decode cX8_init 11 = .ok (.aload_n 0, 1) := by decide +kernel
theorem dX8_init_12 : decode cX8_init 12 = .ok (.bipush 94, 2) := by decide +kernel
theorem dX8_init_14 : decode cX8_init 14 = .ok (.newarray .int, 2) := by decide +kernel
theorem dX8_init_16 : decode cX8_init 16 = .ok (.putfield 13, 3) := by decide +kernel
theorem dX8_init_19 : decode cX8_init 19 = .ok (.aload_n 0, 1) := by decide +kernel
theorem dX8_init_20 : decode cX8_init 20 = .ok (.bipush 9, 2) := by decide +kernel
theorem dX8_init_22 : decode cX8_init 22 = .ok (.newarray .int, 2) := by decide +kernel
theorem dX8_init_24 : decode cX8_init 24 = .ok (.putfield 16, 3) := by decide +kernel
theorem dX8_init_27 : decode cX8_init 27 = .ok (.aload_n 0, 1) := by decide +kernel
theorem dX8_init_28 : decode cX8_init 28 = .ok (.bipush 9, 2) := by decide +kernel
theorem dX8_init_30 : decode cX8_init 30 = .ok (.newarray .int, 2) := by decide +kernel
theorem dX8_init_32 : decode cX8_init 32 = .ok (.putfield 19, 3) := by decide +kernel
theorem dX8_init_35 : decode cX8_init 35 = .ok (.aload_n 0, 1) := by decide +kernel
theorem dX8_init_36 : decode cX8_init 36 = .ok (.bipush 9, 2) := by decide +kernel
theorem dX8_init_38 : decode cX8_init 38 = .ok (.newarray .int, 2) := by decide +kernel
theorem dX8_init_40 : decode cX8_init 40 = .ok (.putfield 22, 3) := by decide +kernel
theorem dX8_init_43 : decode cX8_init 43 = .ok (.aload_n 0, 1) := by decide +kernel
theorem dX8_init_44 : decode cX8_init 44 = .ok (.bipush 9, 2) := by decide +kernel
theorem dX8_init_46 : decode cX8_init 46 = .ok (.newarray .int, 2) := by decide +kernel
theorem dX8_init_48 : decode cX8_init 48 = .ok (.putfield 25, 3) := by decide +kernel
theorem dX8_init_51 : decode cX8_init 51 = .ok (.aload_n 0, 1) := by decide +kernel
theorem dX8_init_52 : decode cX8_init 52 = .ok (.bipush 9, 2) := by decide +kernel
theorem dX8_init_54 : decode cX8_init 54 = .ok (.newarray .int, 2) := by decide +kernel
theorem dX8_init_56 : decode cX8_init 56 = .ok (.putfield 28, 3) := by decide +kernel
theorem dX8_init_59 : decode cX8_init 59 = .ok (.aload_n 0, 1) := by decide +kernel
theorem dX8_init_60 : decode cX8_init 60 = .ok (.bipush 52, 2) := by decide +kernel
theorem dX8_init_62 : decode cX8_init 62 = .ok (.newarray .int, 2) := by decide +kernel
theorem dX8_init_64 : decode cX8_init 64 = .ok (.putfield 31, 3) := by decide +kernel
theorem dX8_init_67 : decode cX8_init 67 = .ok (.aload_n 0, 1) := by decide +kernel
theorem dX8_init_68 : decode cX8_init 68 = .ok (.bipush 52, 2) := by decide +kernel
theorem dX8_init_70 : decode cX8_init 70 = .ok (.newarray .int, 2) := by decide +kernel
theorem dX8_init_72 : decode cX8_init 72 = .ok (.putfield 34, 3) := by decide +kernel
theorem dX8_init_75 : decode cX8_init 75 = .ok (.aload_n 0, 1) := by decide +kernel
theorem dX8_init_76 : decode cX8_init 76 = .ok (.bipush 52, 2) := by decide +kernel
theorem dX8_init_78 : decode cX8_init 78 = .ok (.newarray .int, 2) := by decide +kernel
theorem dX8_init_80 : decode cX8_init 80 = .ok (.putfield 37, 3) := by decide +kernel
theorem dX8_init_83 : decode cX8_init 83 = .ok (.aload_n 0, 1) := by decide +kernel
theorem dX8_init_84 : decode cX8_init 84 = .ok (.bipush 52, 2) := by decide +kernel
theorem dX8_init_86 : decode cX8_init 86 = .ok (.newarray .int, 2) := by decide +kernel
theorem dX8_init_88 : decode cX8_init 88 = .ok (.putfield 40, 3) := by decide +kernel
theorem dX8_init_91 : decode cX8_init 91 = .ok (.aload_n 0, 1) := by decide +kernel
theorem dX8_init_92 : decode cX8_init 92 = .ok (.bipush 8, 2) := by decide +kernel
theorem dX8_init_94 : decode cX8_init 94 = .ok (.newarray .int, 2) := by decide +kernel
theorem dX8_init_96 : decode cX8_init 96 = .ok (.putfield 43, 3) := by decide +kernel
theorem dX8_init_99 : decode cX8_init 99 = .ok (.aload_n 0, 1) := by decide +kernel
theorem dX8_init_100 : decode cX8_init 100 = .ok (.bipush 8, 2) := by decide +kernel
theorem dX8_init_102 : decode cX8_init 102 = .ok (.newarray .int, 2) := by decide +kernel
theorem dX8_init_104 : decode cX8_init 104 = .ok (.putfield 46, 3) := by decide +kernel
theorem dX8_init_107 : decode cX8_init 107 = .ok (.aload_n 0, 1) := by decide +kernel
theorem dX8_init_108 : decode cX8_init 108 = .ok (.bipush 8, 2) := by decide +kernel
theorem dX8_init_110 : decode cX8_init 110 = .ok (.newarray .int, 2) := by decide +kernel
theorem dX8_init_112 : decode cX8_init 112 = .ok (.putfield 49, 3) := by decide +kernel
theorem dX8_init_115 : decode cX8_init 115 = .ok (.aload_n 0, 1) := by decide +kernel
theorem dX8_init_116 : decode cX8_init 116 = .ok (.sipush 2304, 3) := by decide +kernel
theorem dX8_init_119 : decode cX8_init 119 = .ok (.newarray .int, 2) := by decide +kernel
theorem dX8_init_121 : decode cX8_init 121 = .ok (.putfield 52, 3) := by decide +kernel
theorem dX8_init_124 : decode cX8_init 124 = .ok (.aload_n 0, 1) := by decide +kernel
theorem dX8_init_125 : decode cX8_init 125 = .ok (.bipush 8, 2) := by decide +kernel
theorem dX8_init_127 : decode cX8_init 127 = .ok (.newarray .int, 2) := by decide +kernel
theorem dX8_init_129 : decode cX8_init 129 = .ok (.putfield 55, 3) := by decide +kernel
theorem dX8_init_132 : decode cX8_init 132 = .ok (.aload_n 0, 1) := by decide +kernel
theorem dX8_init_133 : decode cX8_init 133 = .ok (.sipush 256, 3) := by decide +kernel
theorem dX8_init_136 : decode cX8_init 136 = .ok (.newarray .int, 2) := by decide +kernel
theorem dX8_init_138 : decode cX8_init 138 = .ok (.putfield 58, 3) := by decide +kernel
theorem dX8_init_141 : decode cX8_init 141 = .ok (.aload_n 0, 1) := by decide +kernel
theorem dX8_init_142 : decode cX8_init 142 = .ok (.bipush 8, 2) := by decide +kernel
theorem dX8_init_144 : decode cX8_init 144 = .ok (.newarray .int, 2) := by decide +kernel
theorem dX8_init_146 : decode cX8_init 146 = .ok (.putfield 61, 3) := by decide +kernel
theorem dX8_init_149 : decode cX8_init 149 = .ok (.aload_n 0, 1) := by decide +kernel
theorem dX8_init_150 : decode cX8_init 150 = .ok (.bipush 8, 2) := by decide +kernel
theorem dX8_init_152 : decode cX8_init 152 = .ok (.newarray .int, 2) := by decide +kernel
theorem dX8_init_154 : decode cX8_init 154 = .ok (.putfield 64, 3) := by decide +kernel
theorem dX8_init_157 : decode cX8_init 157 = .ok (.aload_n 0, 1) := by decide +kernel
theorem dX8_init_158 : decode cX8_init 158 = .ok (.bipush 8, 2) := by decide +kernel
theorem dX8_init_160 : decode cX8_init 160 = .ok (.newarray .int, 2) := by decide +kernel
theorem dX8_init_162 : decode cX8_init 162 = .ok (.putfield 67, 3) := by decide +kernel
theorem dX8_init_165 : decode cX8_init 165 = .ok (.aload_n 0, 1) := by decide +kernel
theorem dX8_init_166 : decode cX8_init 166 = .ok (.bipush 8, 2) := by decide +kernel
theorem dX8_init_168 : decode cX8_init 168 = .ok (.newarray .int, 2) := by decide +kernel
theorem dX8_init_170 : decode cX8_init 170 = .ok (.putfield 70, 3) := by decide +kernel
theorem dX8_init_173 : decode cX8_init 173 = .ok (.aload_n 0, 1) := by decide +kernel
theorem dX8_init_174 : decode cX8_init 174 = .ok (.iconst 4, 1) := by decide +kernel
theorem dX8_init_175 : decode cX8_init 175 = .ok (.newarray .boolean, 2) := by decide +kernel
theorem dX8_init_177 : decode cX8_init 177 = .ok (.putfield 73, 3) := by decide +kernel
theorem dX8_init_180 : decode cX8_init 180 = .ok (.aload_n 0, 1) := by decide +kernel
theorem dX8_init_181 : decode cX8_init 181 = .ok (.iconst 4, 1) := by decide +kernel
theorem dX8_init_182 : decode cX8_init 182 = .ok (.newarray .int, 2) := by decide +kernel
theorem dX8_init_184 : decode cX8_init 184 = .ok (.putfield 77, 3) := by decide +kernel
theorem dX8_init_187 : decode cX8_init 187 = .ok (.aload_n 0, 1) := by decide +kernel
theorem dX8_init_188 : decode cX8_init 188 = .ok (.iconst 4, 1) := by decide +kernel
theorem dX8_init_189 : decode cX8_init 189 = .ok (.newarray .int, 2) := by decide +kernel
theorem dX8_init_191 : decode cX8_init 191 = .ok (.putfield 80, 3) := by decide +kernel
theorem dX8_init_194 : decode cX8_init 194 = .ok (.aload_n 0, 1) := by decide +kernel
theorem dX8_init_195 : decode cX8_init 195 = .ok (.sipush 192, 3) := by decide +kernel
theorem dX8_init_198 : decode cX8_init 198 = .ok (.newarray .int, 2) := by decide +kernel
theorem dX8_init_200 : decode cX8_init 200 = .ok (.putfield 83, 3) := by decide +kernel
theorem dX8_init_203 : decode cX8_init 203 = .ok (.aload_n 0, 1) := by decide +kernel
theorem dX8_init_204 : decode cX8_init 204 = .ok (.bipush 48, 2) := by decide +kernel
theorem dX8_init_206 : decode cX8_init 206 = .ok (.newarray .int, 2) := by decide +kernel
theorem dX8_init_208 : decode cX8_init 208 = .ok (.putfield 86, 3) := by decide +kernel
theorem dX8_init_211 : decode cX8_init 211 = .ok (.aload_n 0, 1) := by decide +kernel
theorem dX8_init_212 : decode cX8_init 212 = .ok (.iconst 2, 1) := by decide +kernel
theorem dX8_init_213 : decode cX8_init 213 = .ok (.putfield 89, 3) := by decide +kernel
theorem dX8_init_216 : decode cX8_init 216 = .ok (.aload_n 0, 1) := by decide +kernel
theorem dX8_init_217 : decode cX8_init 217 = .ok (.iconst 3, 1) := by decide +kernel
theorem dX8_init_218 : decode cX8_init 218 = .ok (.putfield 93, 3) := by decide +kernel
theorem dX8_init_221 : decode cX8_init 221 = .ok (.return_, 1) := by decide +kernel
theorem dX8_in_0 : decode cX8_in 0 = .ok (.iload_n 0, 1) := by decide +kernel
theorem dX8_in_1 : decode cX8_in 1 = .ok (.iload_n 1, 1) := by decide +kernel
theorem dX8_in_2 : decode cX8_in 2 = .ok (.if_icmp .lt 12, 3) := by decide +kernel
theorem dX8_in_5 : decode cX8_in 5 = .ok (.iload_n 0, 1) := by decide +kernel
theorem dX8_in_6 : decode cX8_in 6 = .ok (.iload_n 2, 1) := by decide +kernel
theorem dX8_in_7 : decode cX8_in 7 = .ok (.if_icmp .gt 7, 3) := by decide +kernel
theorem dX8_in_10 : decode cX8_in 10 = .ok (.iconst 1, 1) := by decide +kernel
theorem dX8_in_11 : decode cX8_in 11 = .ok (.goto 4, 3) := by decide +kernel
theorem dX8_in_14 : decode cX8_in 14 = .ok (.iconst 0, 1) := by decide +kernel
theorem dX8_in_15 : decode cX8_in 15 = .ok (.ireturn, 1) := by decide +kernel
theorem dX8_isIn_0 : decode cX8_isIn 0 = .ok (.iload_n 0, 1) := by decide +kernel
theorem dX8_isIn_1 : decode cX8_isIn 1 = .ok (.iload_n 1, 1) := by decide +kernel
theorem dX8_isIn_2 : decode cX8_isIn 2 = .ok (.ishr, 1) := by decide +kernel
theorem dX8_isIn_3 : decode cX8_isIn 3 = .ok (.iconst 1, 1) := by decide +kernel
theorem dX8_isIn_4 : decode cX8_isIn 4 = .ok (.iand, 1) := by decide +kernel
theorem dX8_isIn_5 : decode cX8_isIn 5 = .ok (.iconst 1, 1) := by decide +kernel
theorem dX8_isIn_6 : decode cX8_isIn 6 = .ok (.if_icmp .ne 7, 3) := by decide +kernel
theorem dX8_isIn_9 : decode cX8_isIn 9 = .ok (.iconst 1, 1) := by decide +kernel
theorem dX8_isIn_10 : decode cX8_isIn 10 = .ok (.goto 4, 3) := by decide +kernel
theorem dX8_isIn_13 : decode cX8_isIn 13 = .ok (.iconst 0, 1) := by decide +kernel
theorem dX8_isIn_14 : decode cX8_isIn 14 = .ok (.ireturn, 1) := by decide +kernel
theorem dX8_ones_0 : decode cX8_ones 0 = .ok (.iconst 0, 1) := by decide +kernel
theorem dX8_ones_1 : decode cX8_ones 1 = .ok (.istore_n 1, 1) := by decide +kernel
theorem dX8_ones_2 : decode cX8_ones 2 = .ok (.iconst 0, 1) := by decide +kernel
theorem dX8_ones_3 : decode cX8_ones 3 = .ok (.istore_n 2, 1) := by decide +kernel
theorem dX8_ones_4 : decode cX8_ones 4 = .ok (.iload_n 2, 1) := by decide +kernel
theorem dX8_ones_5 : decode cX8_ones 5 = .ok (.bipush 8, 2) := by decide +kernel
theorem dX8_ones_7 : decode cX8_ones 7 = .ok (.if_icmp .ge 17, 3) := by decide +kernel
theorem dX8_ones_10 : decode cX8_ones 10 = .ok (.iload_n 1, 1) := by decide +kernel
theorem dX8_ones_11 : decode cX8_ones 11 = .ok (.iload_n 0, 1) := by decide +kernel
theorem dX8_ones_12 : decode cX8_ones 12 = .ok (.iload_n 2, 1) := by decide +kernel
theorem dX8_ones_13 : decode cX8_ones 13 = .ok (.ishr, 1) := by decide +kernel
theorem dX8_ones_14 : decode cX8_ones 14 = .ok (.iconst 1, 1) := by decide +kernel
theorem dX8_ones_15 : decode cX8_ones 15 = .ok (.iand, 1) := by decide +kernel
theorem dX8_ones_16 : decode cX8_ones 16 = .ok (.iadd, 1) := by decide +kernel
theorem dX8_ones_17 : decode cX8_ones 17 = .ok (.istore_n 1, 1) := by decide +kernel
theorem dX8_ones_18 : decode cX8_ones 18 = .ok (.iinc 2 1, 3) := by decide +kernel
theorem dX8_ones_21 : decode cX8_ones 21 = .ok (.goto (-17), 3) := by decide +kernel
theorem dX8_ones_24 : decode cX8_ones 24 = .ok (.iload_n 1, 1) := by decide +kernel
theorem dX8_ones_25 : decode cX8_ones 25 = .ok (.ireturn, 1) := by decide +kernel
theorem dX8_no_0 : decode cX8_no 0 = .ok (.ldc2_w 96, 3) := by decide +kernel
theorem dX8_no_3 : decode cX8_no 3 = .ok (.iload_n 0, 1) := by decide +kernel
theorem dX8_no_4 : decode cX8_no 4 = .ok (.i2l, 1) := by decide +kernel
theorem dX8_no_5 : decode cX8_no 5 = .ok (.lsub, 1) := by decide +kernel
theorem dX8_no_6 : decode cX8_no 6 = .ok (.lreturn, 1) := by decide +kernel
theorem dX8_lowest_0 : decode cX8_lowest 0 = .ok (.lload_n 0, 1) := by decide +kernel
theorem dX8_lowest_1 : decode cX8_lowest 1 = .ok (.lstore 5, 2) := by decide +kernel
theorem dX8_lowest_3 : decode cX8_lowest 3 = .ok (.lload_n 2, 1) := by decide +kernel
theorem dX8_lowest_4 : decode cX8_lowest 4 = .ok (.lstore 7, 2) := by decide +kernel
theorem dX8_lowest_6 : decode cX8_lowest 6 = .ok (.lload 7, 2) := by decide +kernel
theorem dX8_lowest_8 : decode cX8_lowest 8 = .ok (.lconst 0, 1) := by decide +kernel
theorem dX8_lowest_9 : decode cX8_lowest 9 = .ok (.lcmp, 1) := by decide +kernel
theorem dX8_lowest_10 : decode cX8_lowest 10 = .ok (.ifCond .eq 21, 3) := by decide +kernel
theorem dX8_lowest_13 : decode cX8_lowest 13 = .ok (.lload 5, 2) := by decide +kernel
theorem dX8_lowest_15 : decode cX8_lowest 15 = .ok (.lload 7, 2) := by decide +kernel
theorem dX8_lowest_17 : decode cX8_lowest 17 = .ok (.lrem, 1) := by decide +kernel
theorem dX8_lowest_18 : decode cX8_lowest 18 = .ok (.lstore 9, 2) := by decide +kernel
theorem dX8_lowest_20 : decode cX8_lowest 20 = .ok (.lload 7, 2) := by decide +kernel
theorem dX8_lowest_22 : decode cX8_lowest 22 = .ok (.lstore 5, 2) := by decide +kernel
theorem dX8_lowest_24 : decode cX8_lowest 24 = .ok (.lload 9, 2) := by decide +kernel
theorem dX8_lowest_26 : decode cX8_lowest 26 = .ok (.lstore 7, 2) := by decide +kernel
theorem dX8_lowest_28 : decode cX8_lowest 28 = .ok (.goto (-22), 3) := by decide +kernel
theorem dX8_lowest_31 : decode cX8_lowest 31 = .ok (.iload 4, 2) := by decide +kernel
theorem dX8_lowest_33 : decode cX8_lowest 33 = .ok (.ifCond .ne 10, 3) := by decide +kernel
theorem dX8_lowest_36 : decode cX8_lowest 36 = .ok (.lload_n 0, 1) := by decide +kernel
theorem dX8_lowest_37 : decode cX8_lowest 37 = .ok (.lload 5, 2) := by decide +kernel
theorem dX8_lowest_39 : decode cX8_lowest 39 = .ok (.ldiv, 1) := by decide +kernel
theorem dX8_lowest_40 : decode cX8_lowest 40 = .ok (.goto 7, 3) := by decide +kernel
theorem dX8_lowest_43 : decode cX8_lowest 43 = .ok (.lload_n 2, 1) := by decide +kernel
theorem dX8_lowest_44 : decode cX8_lowest 44 = .ok (.lload 5, 2) := by decide +kernel
theorem dX8_lowest_46 : decode cX8_lowest 46 = .ok (.ldiv, 1) := by decide +kernel
theorem dX8_lowest_47 : decode cX8_lowest 47 = .ok (.lreturn, 1) := by decide +kernel
theorem dX8_isText_0 : decode cX8_isText 0 = .ok (.iload_n 0, 1) := by decide +kernel
theorem dX8_isText_1 : decode cX8_isText 1 = .ok (.iconst 0, 1) := by decide +kernel
theorem dX8_isText_2 : decode cX8_isText 2 = .ok (.iconst 1, 1) := by decide +kernel
theorem dX8_isText_3 : decode cX8_isText 3 = .ok (.invokestatic 98, 3) := by decide +kernel
theorem dX8_isText_6 : decode cX8_isText 6 = .ok (.ireturn, 1) := by decide +kernel
theorem dX8_isEight_0 : decode cX8_isEight 0 = .ok (.iload_n 0, 1) := by decide +kernel
theorem dX8_isEight_1 : decode cX8_isEight 1 = .ok (.iconst 0, 1) := by decide +kernel
theorem dX8_isEight_2 : decode cX8_isEight 2 = .ok (.bipush 7, 2) := by decide +kernel
theorem dX8_isEight_4 : decode cX8_isEight 4 = .ok (.invokestatic 98, 3) := by decide +kernel
theorem dX8_isEight_7 : decode cX8_isEight 7 = .ok (.ireturn, 1) := by decide +kernel
theorem dX8_isWeek_0 : decode cX8_isWeek 0 = .ok (.iload_n 0, 1) := by decide +kernel
theorem dX8_isWeek_1 : decode cX8_isWeek 1 = .ok (.iconst 0, 1) := by decide +kernel
theorem dX8_isWeek_2 : decode cX8_isWeek 2 = .ok (.bipush 39, 2) := by decide +kernel
theorem dX8_isWeek_4 : decode cX8_isWeek 4 = .ok (.invokestatic 98, 3) := by decide +kernel
theorem dX8_isWeek_7 : decode cX8_isWeek 7 = .ok (.ireturn, 1) := by decide +kernel
theorem dX8_type_0 : decode cX8_type 0 = .ok (.iload_n 1, 1) := by decide +kernel
theorem dX8_type_1 : decode cX8_type 1 = .ok (.invokestatic 102, 3) := by decide +kernel
theorem dX8_type_4 : decode cX8_type 4 = .ok (.ifCond .eq 14, 3) := by decide +kernel
theorem dX8_type_7 : decode cX8_type 7 = .ok (.iload_n 2, 1) := by decide +kernel
theorem dX8_type_8 : decode cX8_type 8 = .ok (.iconst 0, 1) := by decide +kernel
theorem dX8_type_9 : decode cX8_type 9 = .ok (.sipush 255, 3) := by decide +kernel
theorem dX8_type_12 : decode cX8_type 12 = .ok (.invokestatic 98, 3) := by decide +kernel
theorem dX8_type_15 : decode cX8_type 15 = .ok (.ifCond .ne 6, 3) := by decide +kernel
theorem dX8_type_18 : decode cX8_type 18 = .ok (.bipush (-2), 2) := by decide +kernel
theorem dX8_type_20 : decode cX8_type 20 = .ok (.ireturn, 1) := by decide +kernel
theorem dX8_type_21 : decode cX8_type 21 = .ok (.aload_n 0, 1) := by decide +kernel
theorem dX8_type_22 : decode cX8_type 22 = .ok (.getfield 7, 3) := by decide +kernel
theorem dX8_type_25 : decode cX8_type 25 = .ok (.iload_n 1, 1) := by decide +kernel
theorem dX8_type_26 : decode cX8_type 26 = .ok (.iaload, 1) := by decide +kernel
theorem dX8_type_27 : decode cX8_type 27 = .ok (.bipush 47, 2) := by decide +kernel
theorem dX8_type_29 : decode cX8_type 29 = .ok (.if_icmp .ne 6, 3) := by decide +kernel
theorem dX8_type_32 : decode cX8_type 32 = .ok (.bipush (-4), 2) := by decide +kernel
theorem dX8_type_34 : decode cX8_type 34 = .ok (.ireturn, 1) := by decide +kernel
theorem dX8_type_35 : decode cX8_type 35 = .ok (.aload_n 0, 1) := by decide +kernel
theorem dX8_type_36 : decode cX8_type 36 = .ok (.getfield 13, 3) := by decide +kernel
theorem dX8_type_39 : decode cX8_type 39 = .ok (.bipush 47, 2) := by decide +kernel
theorem dX8_type_41 : decode cX8_type 41 = .ok (.iload_n 1, 1) := by decide +kernel
theorem dX8_type_42 : decode cX8_type 42 = .ok (.imul, 1) := by decide +kernel
theorem dX8_type_43 : decode cX8_type 43 = .ok (.aload_n 0, 1) := by decide +kernel
theorem dX8_type_44 : decode cX8_type 44 = .ok (.getfield 7, 3) := by decide +kernel
theorem dX8_type_47 : decode cX8_type 47 = .ok (.iload_n 1, 1) := by decide +kernel
theorem dX8_type_48 : decode cX8_type 48 = .ok (.iaload, 1) := by decide +kernel
theorem dX8_type_49 : decode cX8_type 49 = .ok (.iadd, 1) := by decide +kernel
theorem dX8_type_50 : decode cX8_type 50 = .ok (.iload_n 2, 1) := by decide +kernel
theorem dX8_type_51 : decode cX8_type 51 = .ok (.iastore, 1) := by decide +kernel
theorem dX8_type_52 : decode cX8_type 52 = .ok (.aload_n 0, 1) := by decide +kernel
theorem dX8_type_53 : decode cX8_type 53 = .ok (.getfield 7, 3) := by decide +kernel
theorem dX8_type_56 : decode cX8_type 56 = .ok (.iload_n 1, 1) := by decide +kernel
theorem dX8_type_57 : decode cX8_type 57 = .ok (.dup2, 1) := by decide +kernel
theorem dX8_type_58 : decode cX8_type 58 = .ok (.iaload, 1) := by decide +kernel
theorem dX8_type_59 : decode cX8_type 59 = .ok (.iconst 1, 1) := by decide +kernel
theorem dX8_type_60 : decode cX8_type 60 = .ok (.iadd, 1) := by decide +kernel
theorem dX8_type_61 : decode cX8_type 61 = .ok (.iastore, 1) := by decide +kernel
theorem dX8_type_62 : decode cX8_type 62 = .ok (.aload_n 0, 1) := by decide +kernel
theorem dX8_type_63 : decode cX8_type 63 = .ok (.getfield 7, 3) := by decide +kernel
theorem dX8_type_66 : decode cX8_type 66 = .ok (.iload_n 1, 1) := by decide +kernel
theorem dX8_type_67 : decode cX8_type 67 = .ok (.iaload, 1) := by decide +kernel
theorem dX8_type_68 : decode cX8_type 68 = .ok (.ireturn, 1) := by decide +kernel
theorem dX8_wipe_0 : decode cX8_wipe 0 = .ok (.iload_n 1, 1) := by decide +kernel
theorem dX8_wipe_1 : decode cX8_wipe 1 = .ok (.invokestatic 102, 3) := by decide +kernel
theorem dX8_wipe_4 : decode cX8_wipe 4 = .ok (.ifCond .ne 6, 3) := by decide +kernel
theorem dX8_wipe_7 : decode cX8_wipe 7 = .ok (.bipush (-2), 2) := by decide +kernel
theorem dX8_wipe_9 : decode cX8_wipe 9 = .ok (.ireturn, 1) := by decide +kernel
theorem dX8_wipe_10 : decode cX8_wipe 10 = .ok (.aload_n 0, 1) := by decide +kernel
theorem dX8_wipe_11 : decode cX8_wipe 11 = .ok (.getfield 7, 3) := by decide +kernel
theorem dX8_wipe_14 : decode cX8_wipe 14 = .ok (.iload_n 1, 1) := by decide +kernel
theorem dX8_wipe_15 : decode cX8_wipe 15 = .ok (.iaload, 1) := by decide +kernel
theorem dX8_wipe_16 : decode cX8_wipe 16 = .ok (.istore_n 2, 1) := by decide +kernel
theorem dX8_wipe_17 : decode cX8_wipe 17 = .ok (.aload_n 0, 1) := by decide +kernel
theorem dX8_wipe_18 : decode cX8_wipe 18 = .ok (.getfield 7, 3) := by decide +kernel
theorem dX8_wipe_21 : decode cX8_wipe 21 = .ok (.iload_n 1, 1) := by decide +kernel
theorem dX8_wipe_22 : decode cX8_wipe 22 = .ok (.iconst 0, 1) := by decide +kernel
theorem dX8_wipe_23 : decode cX8_wipe 23 = .ok (.iastore, 1) := by decide +kernel
theorem dX8_wipe_24 : decode cX8_wipe 24 = .ok (.iload_n 2, 1) := by decide +kernel
theorem dX8_wipe_25 : decode cX8_wipe 25 = .ok (.ireturn, 1) := by decide +kernel
theorem dX8_undo_0 : decode cX8_undo 0 = .ok (.iload_n 1, 1) := by decide +kernel
theorem dX8_undo_1 : decode cX8_undo 1 = .ok (.invokestatic 102, 3) := by decide +kernel
theorem dX8_undo_4 : decode cX8_undo 4 = .ok (.ifCond .ne 6, 3) := by decide +kernel
theorem dX8_undo_7 : decode cX8_undo 7 = .ok (.bipush (-2), 2) := by decide +kernel
theorem dX8_undo_9 : decode cX8_undo 9 = .ok (.ireturn, 1) := by decide +kernel
theorem dX8_undo_10 : decode cX8_undo 10 = .ok (.aload_n 0, 1) := by decide +kernel
theorem dX8_undo_11 : decode cX8_undo 11 = .ok (.getfield 7, 3) := by decide +kernel
theorem dX8_undo_14 : decode cX8_undo 14 = .ok (.iload_n 1, 1) := by decide +kernel
theorem dX8_undo_15 : decode cX8_undo 15 = .ok (.iaload, 1) := by decide +kernel
theorem dX8_undo_16 : decode cX8_undo 16 = .ok (.ifCond .ne 6, 3) := by decide +kernel
theorem dX8_undo_19 : decode cX8_undo 19 = .ok (.bipush (-3), 2) := by decide +kernel
theorem dX8_undo_21 : decode cX8_undo 21 = .ok (.ireturn, 1) := by decide +kernel
theorem dX8_undo_22 : decode cX8_undo 22 = .ok (.aload_n 0, 1) := by decide +kernel
theorem dX8_undo_23 : decode cX8_undo 23 = .ok (.getfield 7, 3) := by decide +kernel
theorem dX8_undo_26 : decode cX8_undo 26 = .ok (.iload_n 1, 1) := by decide +kernel
theorem dX8_undo_27 : decode cX8_undo 27 = .ok (.dup2, 1) := by decide +kernel
theorem dX8_undo_28 : decode cX8_undo 28 = .ok (.iaload, 1) := by decide +kernel
theorem dX8_undo_29 : decode cX8_undo 29 = .ok (.iconst 1, 1) := by decide +kernel
theorem dX8_undo_30 : decode cX8_undo 30 = .ok (.isub, 1) := by decide +kernel
theorem dX8_undo_31 : decode cX8_undo 31 = .ok (.iastore, 1) := by decide +kernel
theorem dX8_undo_32 : decode cX8_undo 32 = .ok (.aload_n 0, 1) := by decide +kernel
theorem dX8_undo_33 : decode cX8_undo 33 = .ok (.getfield 7, 3) := by decide +kernel
theorem dX8_undo_36 : decode cX8_undo 36 = .ok (.iload_n 1, 1) := by decide +kernel
theorem dX8_undo_37 : decode cX8_undo 37 = .ok (.iaload, 1) := by decide +kernel
theorem dX8_undo_38 : decode cX8_undo 38 = .ok (.ireturn, 1) := by decide +kernel
theorem dX8_readsOne_0 : decode cX8_readsOne 0 = .ok (.iconst 0, 1) := by decide +kernel
theorem dX8_readsOne_1 : decode cX8_readsOne 1 = .ok (.istore 4, 2) := by decide +kernel
theorem dX8_readsOne_3 : decode cX8_readsOne 3 = .ok (.iconst 0, 1) := by decide +kernel
theorem dX8_readsOne_4 : decode cX8_readsOne 4 = .ok (.istore 5, 2) := by decide +kernel
theorem dX8_readsOne_6 : decode cX8_readsOne 6 = .ok (.iconst 0, 1) := by decide +kernel
theorem dX8_readsOne_7 : decode cX8_readsOne 7 = .ok (.istore 6, 2) := by decide +kernel
theorem dX8_readsOne_9 : decode cX8_readsOne 9 = .ok (.iload 6, 2) := by decide +kernel
theorem dX8_readsOne_11 : decode cX8_readsOne 11 = .ok (.iconst 4, 1) := by decide +kernel
theorem dX8_readsOne_12 : decode cX8_readsOne 12 = .ok (.if_icmp .ge 110, 3) := by decide +kernel
theorem dX8_readsOne_15 : decode cX8_readsOne 15 = .ok (.iload_n 3, 1) := by decide +kernel
theorem dX8_readsOne_16 : decode cX8_readsOne 16 = .ok (.iload 6, 2) := by decide +kernel
theorem dX8_readsOne_18 : decode cX8_readsOne 18 = .ok (.iadd, 1) := by decide +kernel
theorem dX8_readsOne_19 : decode cX8_readsOne 19 = .ok (.aload_n 0, 1) := by decide +kernel
theorem dX8_readsOne_20 : decode cX8_readsOne 20 = .ok (.getfield 7, 3) := by decide +kernel
theorem dX8_readsOne_23 : decode cX8_readsOne 23 = .ok (.iload_n 1, 1) := by decide +kernel
theorem dX8_readsOne_24 : decode cX8_readsOne 24 = .ok (.iaload, 1) := by decide +kernel
theorem dX8_readsOne_25 : decode cX8_readsOne 25 = .ok (.if_icmp .ge 20, 3) := by decide +kernel
theorem dX8_readsOne_28 : decode cX8_readsOne 28 = .ok (.aload_n 0, 1) := by decide +kernel
theorem dX8_readsOne_29 : decode cX8_readsOne 29 = .ok (.getfield 13, 3) := by decide +kernel
theorem dX8_readsOne_32 : decode cX8_readsOne 32 = .ok (.bipush 47, 2) := by decide +kernel
theorem dX8_readsOne_34 : decode cX8_readsOne 34 = .ok (.iload_n 1, 1) := by decide +kernel
theorem dX8_readsOne_35 : decode cX8_readsOne 35 = .ok (.imul, 1) := by decide +kernel
theorem dX8_readsOne_36 : decode cX8_readsOne 36 = .ok (.iload_n 3, 1) := by decide +kernel
theorem dX8_readsOne_37 : decode cX8_readsOne 37 = .ok (.iadd, 1) := by decide +kernel
theorem dX8_readsOne_38 : decode cX8_readsOne 38 = .ok (.iload 6, 2) := by decide +kernel
theorem dX8_readsOne_40 : decode cX8_readsOne 40 = .ok (.iadd, 1) := by decide +kernel
theorem dX8_readsOne_41 : decode cX8_readsOne 41 = .ok (.iaload, 1) := by decide +kernel
theorem dX8_readsOne_42 : decode cX8_readsOne 42 = .ok (.goto 4, 3) := by decide +kernel
theorem dX8_readsOne_45 : decode cX8_readsOne 45 = .ok (.iconst (-1), 1) := by decide +kernel
theorem dX8_readsOne_46 : decode cX8_readsOne 46 = .ok (.istore 7, 2) := by decide +kernel
theorem dX8_readsOne_48 : decode cX8_readsOne 48 = .ok (.iload 7, 2) := by decide +kernel
theorem dX8_readsOne_50 : decode cX8_readsOne 50 = .ok (.bipush 108, 2) := by decide +kernel
theorem dX8_readsOne_52 : decode cX8_readsOne 52 = .ok (.if_icmp .eq 24, 3) := by decide +kernel
theorem dX8_readsOne_55 : decode cX8_readsOne 55 = .ok (.iload 7, 2) := by decide +kernel
theorem dX8_readsOne_57 : decode cX8_readsOne 57 = .ok (.bipush 104, 2) := by decide +kernel
theorem dX8_readsOne_59 : decode cX8_readsOne 59 = .ok (.if_icmp .eq 17, 3) := by decide +kernel
theorem dX8_readsOne_62 : decode cX8_readsOne 62 = .ok (.iload 7, 2) := by decide +kernel
theorem dX8_readsOne_64 : decode cX8_readsOne 64 = .ok (.bipush 63, 2) := by decide +kernel
theorem dX8_readsOne_66 : decode cX8_readsOne 66 = .ok (.if_icmp .ne 7, 3) := by decide +kernel
theorem dX8_readsOne_69 : decode cX8_readsOne 69 = .ok (.iload_n 1, 1) := by decide +kernel
theorem dX8_readsOne_70 : decode cX8_readsOne 70 = .ok (.ifCond .ne 6, 3) := by decide +kernel
theorem dX8_readsOne_73 : decode cX8_readsOne 73 = .ok (.iload 6, 2) := by decide +kernel
theorem dX8_readsOne_75 : decode cX8_readsOne 75 = .ok (.ireturn, 1) := by decide +kernel
theorem dX8_readsOne_76 : decode cX8_readsOne 76 = .ok (.iload 4, 2) := by decide +kernel
theorem dX8_readsOne_78 : decode cX8_readsOne 78 = .ok (.iload 7, 2) := by decide +kernel
theorem dX8_readsOne_80 : decode cX8_readsOne 80 = .ok (.bipush 63, 2) := by decide +kernel
theorem dX8_readsOne_82 : decode cX8_readsOne 82 = .ok (.if_icmp .ne 7, 3) := by decide +kernel
theorem dX8_readsOne_85 : decode cX8_readsOne 85 = .ok (.iconst 0, 1) := by decide +kernel
theorem dX8_readsOne_86 : decode cX8_readsOne 86 = .ok (.goto 7, 3) := by decide +kernel
theorem dX8_readsOne_89 : decode cX8_readsOne 89 = .ok (.iconst 1, 1) := by decide +kernel
theorem dX8_readsOne_90 : decode cX8_readsOne 90 = .ok (.iload 6, 2) := by decide +kernel
theorem dX8_readsOne_92 : decode cX8_readsOne 92 = .ok (.ishl, 1) := by decide +kernel
theorem dX8_readsOne_93 : decode cX8_readsOne 93 = .ok (.ior, 1) := by decide +kernel
theorem dX8_readsOne_94 : decode cX8_readsOne 94 = .ok (.istore 4, 2) := by decide +kernel
theorem dX8_readsOne_96 : decode cX8_readsOne 96 = .ok (.iload 5, 2) := by decide +kernel
theorem dX8_readsOne_98 : decode cX8_readsOne 98 = .ok (.iload 7, 2) := by decide +kernel
theorem dX8_readsOne_100 : decode cX8_readsOne 100 = .ok (.bipush 104, 2) := by decide +kernel
theorem dX8_readsOne_102 : decode cX8_readsOne 102 = .ok (.if_icmp .ne 10, 3) := by decide +kernel
theorem dX8_readsOne_105 : decode cX8_readsOne 105 = .ok (.iconst 1, 1) := by decide +kernel
theorem dX8_readsOne_106 : decode cX8_readsOne 106 = .ok (.iload 6, 2) := by decide +kernel
theorem dX8_readsOne_108 : decode cX8_readsOne 108 = .ok (.ishl, 1) := by decide +kernel
theorem dX8_readsOne_109 : decode cX8_readsOne 109 = .ok (.goto 4, 3) := by decide +kernel
theorem dX8_readsOne_112 : decode cX8_readsOne 112 = .ok (.iconst 0, 1) := by decide +kernel
theorem dX8_readsOne_113 : decode cX8_readsOne 113 = .ok (.ior, 1) := by decide +kernel
theorem dX8_readsOne_114 : decode cX8_readsOne 114 = .ok (.istore 5, 2) := by decide +kernel
theorem dX8_readsOne_116 : decode cX8_readsOne 116 = .ok (.iinc 6 1, 3) := by decide +kernel
theorem dX8_readsOne_119 : decode cX8_readsOne 119 = .ok (.goto (-110), 3) := by decide +kernel
theorem dX8_readsOne_122 : decode cX8_readsOne 122 = .ok (.iload_n 3, 1) := by decide +kernel
theorem dX8_readsOne_123 : decode cX8_readsOne 123 = .ok (.iconst 4, 1) := by decide +kernel
theorem dX8_readsOne_124 : decode cX8_readsOne 124 = .ok (.iadd, 1) := by decide +kernel
theorem dX8_readsOne_125 : decode cX8_readsOne 125 = .ok (.aload_n 0, 1) := by decide +kernel
theorem dX8_readsOne_126 : decode cX8_readsOne 126 = .ok (.getfield 7, 3) := by decide +kernel
theorem dX8_readsOne_129 : decode cX8_readsOne 129 = .ok (.iload_n 1, 1) := by decide +kernel
theorem dX8_readsOne_130 : decode cX8_readsOne 130 = .ok (.iaload, 1) := by decide +kernel
theorem dX8_readsOne_131 : decode cX8_readsOne 131 = .ok (.if_icmp .ge 22, 3) := by decide +kernel
theorem dX8_readsOne_134 : decode cX8_readsOne 134 = .ok (.aload_n 0, 1) := by decide +kernel
theorem dX8_readsOne_135 : decode cX8_readsOne 135 = .ok (.getfield 13, 3) := by decide +kernel
theorem dX8_readsOne_138 : decode cX8_readsOne 138 = .ok (.bipush 47, 2) := by decide +kernel
theorem dX8_readsOne_140 : decode cX8_readsOne 140 = .ok (.iload_n 1, 1) := by decide +kernel
theorem dX8_readsOne_141 : decode cX8_readsOne 141 = .ok (.imul, 1) := by decide +kernel
theorem dX8_readsOne_142 : decode cX8_readsOne 142 = .ok (.iload_n 3, 1) := by decide +kernel
theorem dX8_readsOne_143 : decode cX8_readsOne 143 = .ok (.iadd, 1) := by decide +kernel
theorem dX8_readsOne_144 : decode cX8_readsOne 144 = .ok (.iconst 4, 1) := by decide +kernel
theorem dX8_readsOne_145 : decode cX8_readsOne 145 = .ok (.iadd, 1) := by decide +kernel
theorem dX8_readsOne_146 : decode cX8_readsOne 146 = .ok (.iaload, 1) := by decide +kernel
theorem dX8_readsOne_147 : decode cX8_readsOne 147 = .ok (.bipush 48, 2) := by decide +kernel
theorem dX8_readsOne_149 : decode cX8_readsOne 149 = .ok (.isub, 1) := by decide +kernel
theorem dX8_readsOne_150 : decode cX8_readsOne 150 = .ok (.goto 4, 3) := by decide +kernel
theorem dX8_readsOne_153 : decode cX8_readsOne 153 = .ok (.iconst (-1), 1) := by decide +kernel
theorem dX8_readsOne_154 : decode cX8_readsOne 154 = .ok (.istore 6, 2) := by decide +kernel
theorem dX8_readsOne_156 : decode cX8_readsOne 156 = .ok (.iload 6, 2) := by decide +kernel
theorem dX8_readsOne_158 : decode cX8_readsOne 158 = .ok (.iconst 0, 1) := by decide +kernel
theorem dX8_readsOne_159 : decode cX8_readsOne 159 = .ok (.bipush 9, 2) := by decide +kernel
theorem dX8_readsOne_161 : decode cX8_readsOne 161 = .ok (.invokestatic 98, 3) := by decide +kernel
theorem dX8_readsOne_164 : decode cX8_readsOne 164 = .ok (.ifCond .ne 5, 3) := by decide +kernel
theorem dX8_readsOne_167 : decode cX8_readsOne 167 = .ok (.iconst 4, 1) := by decide +kernel
theorem dX8_readsOne_168 : decode cX8_readsOne 168 = .ok (.ireturn, 1) := by decide +kernel
theorem dX8_readsOne_169 : decode cX8_readsOne 169 = .ok (.iload_n 1, 1) := by decide +kernel
theorem dX8_readsOne_170 : decode cX8_readsOne 170 = .ok (.ifCond .ne 22, 3) := by decide +kernel
theorem dX8_readsOne_173 : decode cX8_readsOne 173 = .ok (.aload_n 0, 1) := by decide +kernel
theorem dX8_readsOne_174 : decode cX8_readsOne 174 = .ok (.getfield 16, 3) := by decide +kernel
theorem dX8_readsOne_177 : decode cX8_readsOne 177 = .ok (.iload_n 2, 1) := by decide +kernel
theorem dX8_readsOne_178 : decode cX8_readsOne 178 = .ok (.iload 5, 2) := by decide +kernel
theorem dX8_readsOne_180 : decode cX8_readsOne 180 = .ok (.iastore, 1) := by decide +kernel
theorem dX8_readsOne_181 : decode cX8_readsOne 181 = .ok (.aload_n 0, 1) := by decide +kernel
theorem dX8_readsOne_182 : decode cX8_readsOne 182 = .ok (.getfield 19, 3) := by decide +kernel
theorem dX8_readsOne_185 : decode cX8_readsOne 185 = .ok (.iload_n 2, 1) := by decide +kernel
theorem dX8_readsOne_186 : decode cX8_readsOne 186 = .ok (.iload 6, 2) := by decide +kernel
theorem dX8_readsOne_188 : decode cX8_readsOne 188 = .ok (.iastore, 1) := by decide +kernel
theorem dX8_readsOne_189 : decode cX8_readsOne 189 = .ok (.goto 27, 3) := by decide +kernel
theorem dX8_readsOne_192 : decode cX8_readsOne 192 = .ok (.aload_n 0, 1) := by decide +kernel
theorem dX8_readsOne_193 : decode cX8_readsOne 193 = .ok (.getfield 22, 3) := by decide +kernel
theorem dX8_readsOne_196 : decode cX8_readsOne 196 = .ok (.iload_n 2, 1) := by decide +kernel
theorem dX8_readsOne_197 : decode cX8_readsOne 197 = .ok (.iload 4, 2) := by decide +kernel
theorem dX8_readsOne_199 : decode cX8_readsOne 199 = .ok (.iastore, 1) := by decide +kernel
theorem dX8_readsOne_200 : decode cX8_readsOne 200 = .ok (.aload_n 0, 1) := by decide +kernel
theorem dX8_readsOne_201 : decode cX8_readsOne 201 = .ok (.getfield 25, 3) := by decide +kernel
theorem dX8_readsOne_204 : decode cX8_readsOne 204 = .ok (.iload_n 2, 1) := by decide +kernel
theorem dX8_readsOne_205 : decode cX8_readsOne 205 = .ok (.iload 5, 2) := by decide +kernel
theorem dX8_readsOne_207 : decode cX8_readsOne 207 = .ok (.iastore, 1) := by decide +kernel
theorem dX8_readsOne_208 : decode cX8_readsOne 208 = .ok (.aload_n 0, 1) := by decide +kernel
theorem dX8_readsOne_209 : decode cX8_readsOne 209 = .ok (.getfield 28, 3) := by decide +kernel
theorem dX8_readsOne_212 : decode cX8_readsOne 212 = .ok (.iload_n 2, 1) := by decide +kernel
theorem dX8_readsOne_213 : decode cX8_readsOne 213 = .ok (.iload 6, 2) := by decide +kernel
theorem dX8_readsOne_215 : decode cX8_readsOne 215 = .ok (.iastore, 1) := by decide +kernel
theorem dX8_readsOne_216 : decode cX8_readsOne 216 = .ok (.iconst 5, 1) := by decide +kernel
theorem dX8_readsOne_217 : decode cX8_readsOne 217 = .ok (.ireturn, 1) := by decide +kernel
theorem dX8_readsText_0 : decode cX8_readsText 0 = .ok (.iconst 0, 1) := by decide +kernel
theorem dX8_readsText_1 : decode cX8_readsText 1 = .ok (.istore_n 2, 1) := by decide +kernel
theorem dX8_readsText_2 : decode cX8_readsText 2 = .ok (.iconst 0, 1) := by decide +kernel
theorem dX8_readsText_3 : decode cX8_readsText 3 = .ok (.istore_n 3, 1) := by decide +kernel
theorem dX8_readsText_4 : decode cX8_readsText 4 = .ok (.aload_n 0, 1) := by decide +kernel
theorem dX8_readsText_5 : decode cX8_readsText 5 = .ok (.iload_n 1, 1) := by decide +kernel
theorem dX8_readsText_6 : decode cX8_readsText 6 = .ok (.ifCond .ne 7, 3) := by decide +kernel
theorem dX8_readsText_9 : decode cX8_readsText 9 = .ok (.iconst 0, 1) := by decide +kernel
theorem dX8_readsText_10 : decode cX8_readsText 10 = .ok (.goto 7, 3) := by decide +kernel
theorem dX8_readsText_13 : decode cX8_readsText 13 = .ok (.aload_n 0, 1) := by decide +kernel
theorem dX8_readsText_14 : decode cX8_readsText 14 = .ok (.getfield 106, 3) := by decide +kernel
theorem dX8_readsText_17 : decode cX8_readsText 17 = .ok (.putfield 106, 3) := by decide +kernel
theorem dX8_readsText_20 : decode cX8_readsText 20 = .ok (.aload_n 0, 1) := by decide +kernel
theorem dX8_readsText_21 : decode cX8_readsText 21 = .ok (.iload_n 1, 1) := by decide +kernel
theorem dX8_readsText_22 : decode cX8_readsText 22 = .ok (.iconst 1, 1) := by decide +kernel
theorem dX8_readsText_23 : decode cX8_readsText 23 = .ok (.if_icmp .ne 7, 3) := by decide +kernel
theorem dX8_readsText_26 : decode cX8_readsText 26 = .ok (.iconst 0, 1) := by decide +kernel
theorem dX8_readsText_27 : decode cX8_readsText 27 = .ok (.goto 7, 3) := by decide +kernel
theorem dX8_readsText_30 : decode cX8_readsText 30 = .ok (.aload_n 0, 1) := by decide +kernel
theorem dX8_readsText_31 : decode cX8_readsText 31 = .ok (.getfield 109, 3) := by decide +kernel
theorem dX8_readsText_34 : decode cX8_readsText 34 = .ok (.putfield 109, 3) := by decide +kernel
theorem dX8_readsText_37 : decode cX8_readsText 37 = .ok (.iload_n 3, 1) := by decide +kernel
theorem dX8_readsText_38 : decode cX8_readsText 38 = .ok (.aload_n 0, 1) := by decide +kernel
theorem dX8_readsText_39 : decode cX8_readsText 39 = .ok (.getfield 7, 3) := by decide +kernel
theorem dX8_readsText_42 : decode cX8_readsText 42 = .ok (.iload_n 1, 1) := by decide +kernel
theorem dX8_readsText_43 : decode cX8_readsText 43 = .ok (.iaload, 1) := by decide +kernel
theorem dX8_readsText_44 : decode cX8_readsText 44 = .ok (.if_icmp .lt 7, 3) := by decide +kernel
theorem dX8_readsText_47 : decode cX8_readsText 47 = .ok (.iload_n 3, 1) := by decide +kernel
theorem dX8_readsText_48 : decode cX8_readsText 48 = .ok (.ifCond .le 108, 3) := by decide +kernel
theorem dX8_readsText_51 : decode cX8_readsText 51 = .ok (.iload_n 2, 1) := by decide +kernel
theorem dX8_readsText_52 : decode cX8_readsText 52 = .ok (.bipush 8, 2) := by decide +kernel
theorem dX8_readsText_54 : decode cX8_readsText 54 = .ok (.if_icmp .ne 7, 3) := by decide +kernel
theorem dX8_readsText_57 : decode cX8_readsText 57 = .ok (.iconst 0, 1) := by decide +kernel
theorem dX8_readsText_58 : decode cX8_readsText 58 = .ok (.goto 10, 3) := by decide +kernel
theorem dX8_readsText_61 : decode cX8_readsText 61 = .ok (.aload_n 0, 1) := by decide +kernel
theorem dX8_readsText_62 : decode cX8_readsText 62 = .ok (.iload_n 1, 1) := by decide +kernel
theorem dX8_readsText_63 : decode cX8_readsText 63 = .ok (.iload_n 2, 1) := by decide +kernel
theorem dX8_readsText_64 : decode cX8_readsText 64 = .ok (.iload_n 3, 1) := by decide +kernel
theorem dX8_readsText_65 : decode cX8_readsText 65 = .ok (.invokevirtual 112, 3) := by decide +kernel
theorem dX8_readsText_68 : decode cX8_readsText 68 = .ok (.istore 4, 2) := by decide +kernel
theorem dX8_readsText_70 : decode cX8_readsText 70 = .ok (.iload 4, 2) := by decide +kernel
theorem dX8_readsText_72 : decode cX8_readsText 72 = .ok (.iconst 5, 1) := by decide +kernel
theorem dX8_readsText_73 : decode cX8_readsText 73 = .ok (.if_icmp .ge 8, 3) := by decide +kernel
theorem dX8_readsText_76 : decode cX8_readsText 76 = .ok (.iload_n 3, 1) := by decide +kernel
theorem dX8_readsText_77 : decode cX8_readsText 77 = .ok (.iload 4, 2) := by decide +kernel
theorem dX8_readsText_79 : decode cX8_readsText 79 = .ok (.iadd, 1) := by decide +kernel
theorem dX8_readsText_80 : decode cX8_readsText 80 = .ok (.ireturn, 1) := by decide +kernel
theorem dX8_readsText_81 : decode cX8_readsText 81 = .ok (.iinc 2 1, 3) := by decide +kernel
theorem dX8_readsText_84 : decode cX8_readsText 84 = .ok (.iinc 3 5, 3) := by decide +kernel
theorem dX8_readsText_87 : decode cX8_readsText 87 = .ok (.iload_n 3, 1) := by decide +kernel
theorem dX8_readsText_88 : decode cX8_readsText 88 = .ok (.aload_n 0, 1) := by decide +kernel
theorem dX8_readsText_89 : decode cX8_readsText 89 = .ok (.getfield 7, 3) := by decide +kernel
theorem dX8_readsText_92 : decode cX8_readsText 92 = .ok (.iload_n 1, 1) := by decide +kernel
theorem dX8_readsText_93 : decode cX8_readsText 93 = .ok (.iaload, 1) := by decide +kernel
theorem dX8_readsText_94 : decode cX8_readsText 94 = .ok (.if_icmp .ne 38, 3) := by decide +kernel
theorem dX8_readsText_97 : decode cX8_readsText 97 = .ok (.aload_n 0, 1) := by decide +kernel
theorem dX8_readsText_98 : decode cX8_readsText 98 = .ok (.iload_n 1, 1) := by decide +kernel
theorem dX8_readsText_99 : decode cX8_readsText 99 = .ok (.ifCond .ne 7, 3) := by decide +kernel
theorem dX8_readsText_102 : decode cX8_readsText 102 = .ok (.iload_n 2, 1) := by decide +kernel
theorem dX8_readsText_103 : decode cX8_readsText 103 = .ok (.goto 7, 3) := by decide +kernel
theorem dX8_readsText_106 : decode cX8_readsText 106 = .ok (.aload_n 0, 1) := by decide +kernel
theorem dX8_readsText_107 : decode cX8_readsText 107 = .ok (.getfield 106, 3) := by decide +kernel
theorem dX8_readsText_110 : decode cX8_readsText 110 = .ok (.putfield 106, 3) := by decide +kernel
theorem dX8_readsText_113 : decode cX8_readsText 113 = .ok (.aload_n 0, 1) := by decide +kernel
theorem dX8_readsText_114 : decode cX8_readsText 114 = .ok (.iload_n 1, 1) := by decide +kernel
theorem dX8_readsText_115 : decode cX8_readsText 115 = .ok (.iconst 1, 1) := by decide +kernel
theorem dX8_readsText_116 : decode cX8_readsText 116 = .ok (.if_icmp .ne 7, 3) := by decide +kernel
theorem dX8_readsText_119 : decode cX8_readsText 119 = .ok (.iload_n 2, 1) := by decide +kernel
theorem dX8_readsText_120 : decode cX8_readsText 120 = .ok (.goto 7, 3) := by decide +kernel
theorem dX8_readsText_123 : decode cX8_readsText 123 = .ok (.aload_n 0, 1) := by decide +kernel
theorem dX8_readsText_124 : decode cX8_readsText 124 = .ok (.getfield 109, 3) := by decide +kernel
theorem dX8_readsText_127 : decode cX8_readsText 127 = .ok (.putfield 109, 3) := by decide +kernel
theorem dX8_readsText_130 : decode cX8_readsText 130 = .ok (.iconst (-1), 1) := by decide +kernel
theorem dX8_readsText_131 : decode cX8_readsText 131 = .ok (.ireturn, 1) := by decide +kernel
theorem dX8_readsText_132 : decode cX8_readsText 132 = .ok (.aload_n 0, 1) := by decide +kernel
theorem dX8_readsText_133 : decode cX8_readsText 133 = .ok (.getfield 13, 3) := by decide +kernel
theorem dX8_readsText_136 : decode cX8_readsText 136 = .ok (.bipush 47, 2) := by decide +kernel
theorem dX8_readsText_138 : decode cX8_readsText 138 = .ok (.iload_n 1, 1) := by decide +kernel
theorem dX8_readsText_139 : decode cX8_readsText 139 = .ok (.imul, 1) := by decide +kernel
theorem dX8_readsText_140 : decode cX8_readsText 140 = .ok (.iload_n 3, 1) := by decide +kernel
theorem dX8_readsText_141 : decode cX8_readsText 141 = .ok (.iadd, 1) := by decide +kernel
theorem dX8_readsText_142 : decode cX8_readsText 142 = .ok (.iaload, 1) := by decide +kernel
theorem dX8_readsText_143 : decode cX8_readsText 143 = .ok (.bipush 59, 2) := by decide +kernel
theorem dX8_readsText_145 : decode cX8_readsText 145 = .ok (.if_icmp .eq 5, 3) := by decide +kernel
theorem dX8_readsText_148 : decode cX8_readsText 148 = .ok (.iload_n 3, 1) := by decide +kernel
theorem dX8_readsText_149 : decode cX8_readsText 149 = .ok (.ireturn, 1) := by decide +kernel
theorem dX8_readsText_150 : decode cX8_readsText 150 = .ok (.iinc 3 1, 3) := by decide +kernel
theorem dX8_readsText_153 : decode cX8_readsText 153 = .ok (.goto (-116), 3) := by decide +kernel
theorem dX8_readsText_156 : decode cX8_readsText 156 = .ok (.iconst (-1), 1) := by decide +kernel
theorem dX8_readsText_157 : decode cX8_readsText 157 = .ok (.ireturn, 1) := by decide +kernel
theorem dX8_faultOf_0 : decode cX8_faultOf 0 = .ok (.aload_n 0, 1) := by decide +kernel
theorem dX8_faultOf_1 : decode cX8_faultOf 1 = .ok (.iconst 0, 1) := by decide +kernel
theorem dX8_faultOf_2 : decode cX8_faultOf 2 = .ok (.invokevirtual 116, 3) := by decide +kernel
theorem dX8_faultOf_5 : decode cX8_faultOf 5 = .ok (.istore_n 2, 1) := by decide +kernel
theorem dX8_faultOf_6 : decode cX8_faultOf 6 = .ok (.aload_n 0, 1) := by decide +kernel
theorem dX8_faultOf_7 : decode cX8_faultOf 7 = .ok (.iconst 1, 1) := by decide +kernel
theorem dX8_faultOf_8 : decode cX8_faultOf 8 = .ok (.invokevirtual 116, 3) := by decide +kernel
theorem dX8_faultOf_11 : decode cX8_faultOf 11 = .ok (.istore_n 3, 1) := by decide +kernel
theorem dX8_faultOf_12 : decode cX8_faultOf 12 = .ok (.iload_n 1, 1) := by decide +kernel
theorem dX8_faultOf_13 : decode cX8_faultOf 13 = .ok (.ifCond .ne 7, 3) := by decide +kernel
theorem dX8_faultOf_16 : decode cX8_faultOf 16 = .ok (.iload_n 2, 1) := by decide +kernel
theorem dX8_faultOf_17 : decode cX8_faultOf 17 = .ok (.goto 4, 3) := by decide +kernel
theorem dX8_faultOf_20 : decode cX8_faultOf 20 = .ok (.iload_n 3, 1) := by decide +kernel
theorem dX8_faultOf_21 : decode cX8_faultOf 21 = .ok (.ireturn, 1) := by decide +kernel
theorem dX8_reads_0 : decode cX8_reads 0 = .ok (.aload_n 0, 1) := by decide +kernel
theorem dX8_reads_1 : decode cX8_reads 1 = .ok (.iconst 0, 1) := by decide +kernel
theorem dX8_reads_2 : decode cX8_reads 2 = .ok (.invokevirtual 120, 3) := by decide +kernel
theorem dX8_reads_5 : decode cX8_reads 5 = .ok (.istore_n 1, 1) := by decide +kernel
theorem dX8_reads_6 : decode cX8_reads 6 = .ok (.return_, 1) := by decide +kernel
theorem dX8_fault_0 : decode cX8_fault 0 = .ok (.iload_n 1, 1) := by decide +kernel
theorem dX8_fault_1 : decode cX8_fault 1 = .ok (.invokestatic 102, 3) := by decide +kernel
theorem dX8_fault_4 : decode cX8_fault 4 = .ok (.ifCond .eq 11, 3) := by decide +kernel
theorem dX8_fault_7 : decode cX8_fault 7 = .ok (.aload_n 0, 1) := by decide +kernel
theorem dX8_fault_8 : decode cX8_fault 8 = .ok (.iload_n 1, 1) := by decide +kernel
theorem dX8_fault_9 : decode cX8_fault 9 = .ok (.invokevirtual 120, 3) := by decide +kernel
theorem dX8_fault_12 : decode cX8_fault 12 = .ok (.goto 5, 3) := by decide +kernel
theorem dX8_fault_15 : decode cX8_fault 15 = .ok (.bipush (-2), 2) := by decide +kernel
theorem dX8_fault_17 : decode cX8_fault 17 = .ok (.ireturn, 1) := by decide +kernel
theorem dX8_isVirtue_0 : decode cX8_isVirtue 0 = .ok (.aload_n 0, 1) := by decide +kernel
theorem dX8_isVirtue_1 : decode cX8_isVirtue 1 = .ok (.invokevirtual 123, 3) := by decide +kernel
theorem dX8_isVirtue_4 : decode cX8_isVirtue 4 = .ok (.iload_n 1, 1) := by decide +kernel
theorem dX8_isVirtue_5 : decode cX8_isVirtue 5 = .ok (.iconst 0, 1) := by decide +kernel
theorem dX8_isVirtue_6 : decode cX8_isVirtue 6 = .ok (.aload_n 0, 1) := by decide +kernel
theorem dX8_isVirtue_7 : decode cX8_isVirtue 7 = .ok (.getfield 106, 3) := by decide +kernel
theorem dX8_isVirtue_10 : decode cX8_isVirtue 10 = .ok (.iconst 1, 1) := by decide +kernel
theorem dX8_isVirtue_11 : decode cX8_isVirtue 11 = .ok (.isub, 1) := by decide +kernel
theorem dX8_isVirtue_12 : decode cX8_isVirtue 12 = .ok (.invokestatic 98, 3) := by decide +kernel
theorem dX8_isVirtue_15 : decode cX8_isVirtue 15 = .ok (.ireturn, 1) := by decide +kernel
theorem dX8_isClaimant_0 : decode cX8_isClaimant 0 = .ok (.aload_n 0, 1) := by decide +kernel
theorem dX8_isClaimant_1 : decode cX8_isClaimant 1 = .ok (.invokevirtual 123, 3) := by decide +kernel
theorem dX8_isClaimant_4 : decode cX8_isClaimant 4 = .ok (.iload_n 1, 1) := by decide +kernel
theorem dX8_isClaimant_5 : decode cX8_isClaimant 5 = .ok (.iconst 0, 1) := by decide +kernel
theorem dX8_isClaimant_6 : decode cX8_isClaimant 6 = .ok (.aload_n 0, 1) := by decide +kernel
theorem dX8_isClaimant_7 : decode cX8_isClaimant 7 = .ok (.getfield 109, 3) := by decide +kernel
theorem dX8_isClaimant_10 : decode cX8_isClaimant 10 = .ok (.iconst 1, 1) := by decide +kernel
theorem dX8_isClaimant_11 : decode cX8_isClaimant 11 = .ok (.isub, 1) := by decide +kernel
theorem dX8_isClaimant_12 : decode cX8_isClaimant 12 = .ok (.invokestatic 98, 3) := by decide +kernel
theorem dX8_isClaimant_15 : decode cX8_isClaimant 15 = .ok (.ireturn, 1) := by decide +kernel
theorem dX8_virtue_0 : decode cX8_virtue 0 = .ok (.aload_n 0, 1) := by decide +kernel
theorem dX8_virtue_1 : decode cX8_virtue 1 = .ok (.iload_n 1, 1) := by decide +kernel
theorem dX8_virtue_2 : decode cX8_virtue 2 = .ok (.invokevirtual 126, 3) := by decide +kernel
theorem dX8_virtue_5 : decode cX8_virtue 5 = .ok (.ifCond .eq 34, 3) := by decide +kernel
theorem dX8_virtue_8 : decode cX8_virtue 8 = .ok (.iload_n 2, 1) := by decide +kernel
theorem dX8_virtue_9 : decode cX8_virtue 9 = .ok (.iconst 0, 1) := by decide +kernel
theorem dX8_virtue_10 : decode cX8_virtue 10 = .ok (.iconst 1, 1) := by decide +kernel
theorem dX8_virtue_11 : decode cX8_virtue 11 = .ok (.invokestatic 98, 3) := by decide +kernel
theorem dX8_virtue_14 : decode cX8_virtue 14 = .ok (.ifCond .eq 25, 3) := by decide +kernel
theorem dX8_virtue_17 : decode cX8_virtue 17 = .ok (.iload_n 2, 1) := by decide +kernel
theorem dX8_virtue_18 : decode cX8_virtue 18 = .ok (.ifCond .ne 12, 3) := by decide +kernel
theorem dX8_virtue_21 : decode cX8_virtue 21 = .ok (.aload_n 0, 1) := by decide +kernel
theorem dX8_virtue_22 : decode cX8_virtue 22 = .ok (.getfield 16, 3) := by decide +kernel
theorem dX8_virtue_25 : decode cX8_virtue 25 = .ok (.iload_n 1, 1) := by decide +kernel
theorem dX8_virtue_26 : decode cX8_virtue 26 = .ok (.iaload, 1) := by decide +kernel
theorem dX8_virtue_27 : decode cX8_virtue 27 = .ok (.goto 14, 3) := by decide +kernel
theorem dX8_virtue_30 : decode cX8_virtue 30 = .ok (.aload_n 0, 1) := by decide +kernel
theorem dX8_virtue_31 : decode cX8_virtue 31 = .ok (.getfield 19, 3) := by decide +kernel
theorem dX8_virtue_34 : decode cX8_virtue 34 = .ok (.iload_n 1, 1) := by decide +kernel
theorem dX8_virtue_35 : decode cX8_virtue 35 = .ok (.iaload, 1) := by decide +kernel
theorem dX8_virtue_36 : decode cX8_virtue 36 = .ok (.goto 5, 3) := by decide +kernel
theorem dX8_virtue_39 : decode cX8_virtue 39 = .ok (.bipush (-2), 2) := by decide +kernel
theorem dX8_virtue_41 : decode cX8_virtue 41 = .ok (.ireturn, 1) := by decide +kernel
theorem dX8_claimantOf_0 : decode cX8_claimantOf 0 = .ok (.iload_n 2, 1) := by decide +kernel
theorem dX8_claimantOf_1 : decode cX8_claimantOf 1 = .ok (.ifCond .ne 12, 3) := by decide +kernel
theorem dX8_claimantOf_4 : decode cX8_claimantOf 4 = .ok (.aload_n 0, 1) := by decide +kernel
theorem dX8_claimantOf_5 : decode cX8_claimantOf 5 = .ok (.getfield 22, 3) := by decide +kernel
theorem dX8_claimantOf_8 : decode cX8_claimantOf 8 = .ok (.iload_n 1, 1) := by decide +kernel
theorem dX8_claimantOf_9 : decode cX8_claimantOf 9 = .ok (.iaload, 1) := by decide +kernel
theorem dX8_claimantOf_10 : decode cX8_claimantOf 10 = .ok (.goto 23, 3) := by decide +kernel
theorem dX8_claimantOf_13 : decode cX8_claimantOf 13 = .ok (.iload_n 2, 1) := by decide +kernel
theorem dX8_claimantOf_14 : decode cX8_claimantOf 14 = .ok (.iconst 1, 1) := by decide +kernel
theorem dX8_claimantOf_15 : decode cX8_claimantOf 15 = .ok (.if_icmp .ne 12, 3) := by decide +kernel
theorem dX8_claimantOf_18 : decode cX8_claimantOf 18 = .ok (.aload_n 0, 1) := by decide +kernel
theorem dX8_claimantOf_19 : decode cX8_claimantOf 19 = .ok (.getfield 25, 3) := by decide +kernel
theorem dX8_claimantOf_22 : decode cX8_claimantOf 22 = .ok (.iload_n 1, 1) := by decide +kernel
theorem dX8_claimantOf_23 : decode cX8_claimantOf 23 = .ok (.iaload, 1) := by decide +kernel
theorem dX8_claimantOf_24 : decode cX8_claimantOf 24 = .ok (.goto 9, 3) := by decide +kernel
theorem dX8_claimantOf_27 : decode cX8_claimantOf 27 = .ok (.aload_n 0, 1) := by decide +kernel
theorem dX8_claimantOf_28 : decode cX8_claimantOf 28 = .ok (.getfield 28, 3) := by decide +kernel
theorem dX8_claimantOf_31 : decode cX8_claimantOf 31 = .ok (.iload_n 1, 1) := by decide +kernel
theorem dX8_claimantOf_32 : decode cX8_claimantOf 32 = .ok (.iaload, 1) := by decide +kernel
theorem dX8_claimantOf_33 : decode cX8_claimantOf 33 = .ok (.ireturn, 1) := by decide +kernel
theorem dX8_claimant_0 : decode cX8_claimant 0 = .ok (.aload_n 0, 1) := by decide +kernel
theorem dX8_claimant_1 : decode cX8_claimant 1 = .ok (.iload_n 1, 1) := by decide +kernel
theorem dX8_claimant_2 : decode cX8_claimant 2 = .ok (.invokevirtual 129, 3) := by decide +kernel
theorem dX8_claimant_5 : decode cX8_claimant 5 = .ok (.ifCond .eq 21, 3) := by decide +kernel
theorem dX8_claimant_8 : decode cX8_claimant 8 = .ok (.iload_n 2, 1) := by decide +kernel
theorem dX8_claimant_9 : decode cX8_claimant 9 = .ok (.iconst 0, 1) := by decide +kernel
theorem dX8_claimant_10 : decode cX8_claimant 10 = .ok (.iconst 2, 1) := by decide +kernel
theorem dX8_claimant_11 : decode cX8_claimant 11 = .ok (.invokestatic 98, 3) := by decide +kernel
theorem dX8_claimant_14 : decode cX8_claimant 14 = .ok (.ifCond .eq 12, 3) := by decide +kernel
theorem dX8_claimant_17 : decode cX8_claimant 17 = .ok (.aload_n 0, 1) := by decide +kernel
theorem dX8_claimant_18 : decode cX8_claimant 18 = .ok (.iload_n 1, 1) := by decide +kernel
theorem dX8_claimant_19 : decode cX8_claimant 19 = .ok (.iload_n 2, 1) := by decide +kernel
theorem dX8_claimant_20 : decode cX8_claimant 20 = .ok (.invokevirtual 132, 3) := by decide +kernel
theorem dX8_claimant_23 : decode cX8_claimant 23 = .ok (.goto 5, 3) := by decide +kernel
theorem dX8_claimant_26 : decode cX8_claimant 26 = .ok (.bipush (-2), 2) := by decide +kernel
theorem dX8_claimant_28 : decode cX8_claimant 28 = .ok (.ireturn, 1) := by decide +kernel
theorem dX8_set_0 : decode cX8_set 0 = .ok (.iload_n 1, 1) := by decide +kernel
theorem dX8_set_1 : decode cX8_set 1 = .ok (.iconst 2, 1) := by decide +kernel
theorem dX8_set_2 : decode cX8_set 2 = .ok (.if_icmp .ne 7, 3) := by decide +kernel
theorem dX8_set_5 : decode cX8_set 5 = .ok (.iconst 1, 1) := by decide +kernel
theorem dX8_set_6 : decode cX8_set 6 = .ok (.goto 4, 3) := by decide +kernel
theorem dX8_set_9 : decode cX8_set 9 = .ok (.iconst 0, 1) := by decide +kernel
theorem dX8_set_10 : decode cX8_set 10 = .ok (.istore_n 3, 1) := by decide +kernel
theorem dX8_set_11 : decode cX8_set 11 = .ok (.iload_n 1, 1) := by decide +kernel
theorem dX8_set_12 : decode cX8_set 12 = .ok (.ifCond .ne 7, 3) := by decide +kernel
theorem dX8_set_15 : decode cX8_set 15 = .ok (.iconst 4, 1) := by decide +kernel
theorem dX8_set_16 : decode cX8_set 16 = .ok (.goto 15, 3) := by decide +kernel
theorem dX8_set_19 : decode cX8_set 19 = .ok (.iload_n 1, 1) := by decide +kernel
theorem dX8_set_20 : decode cX8_set 20 = .ok (.iconst 1, 1) := by decide +kernel
theorem dX8_set_21 : decode cX8_set 21 = .ok (.if_icmp .ne 8, 3) := by decide +kernel
theorem dX8_set_24 : decode cX8_set 24 = .ok (.bipush 15, 2) := by decide +kernel
theorem dX8_set_26 : decode cX8_set 26 = .ok (.goto 5, 3) := by decide +kernel
theorem dX8_set_29 : decode cX8_set 29 = .ok (.bipush 9, 2) := by decide +kernel
theorem dX8_set_31 : decode cX8_set 31 = .ok (.istore 4, 2) := by decide +kernel
theorem dX8_set_33 : decode cX8_set 33 = .ok (.iload_n 1, 1) := by decide +kernel
theorem dX8_set_34 : decode cX8_set 34 = .ok (.iconst 0, 1) := by decide +kernel
theorem dX8_set_35 : decode cX8_set 35 = .ok (.iconst 2, 1) := by decide +kernel
theorem dX8_set_36 : decode cX8_set 36 = .ok (.invokestatic 98, 3) := by decide +kernel
theorem dX8_set_39 : decode cX8_set 39 = .ok (.ifCond .eq 13, 3) := by decide +kernel
theorem dX8_set_42 : decode cX8_set 42 = .ok (.iload_n 2, 1) := by decide +kernel
theorem dX8_set_43 : decode cX8_set 43 = .ok (.iload_n 3, 1) := by decide +kernel
theorem dX8_set_44 : decode cX8_set 44 = .ok (.iload 4, 2) := by decide +kernel
theorem dX8_set_46 : decode cX8_set 46 = .ok (.invokestatic 98, 3) := by decide +kernel
theorem dX8_set_49 : decode cX8_set 49 = .ok (.ifCond .ne 6, 3) := by decide +kernel
theorem dX8_set_52 : decode cX8_set 52 = .ok (.bipush (-2), 2) := by decide +kernel
theorem dX8_set_54 : decode cX8_set 54 = .ok (.ireturn, 1) := by decide +kernel
theorem dX8_set_55 : decode cX8_set 55 = .ok (.iload_n 1, 1) := by decide +kernel
theorem dX8_set_56 : decode cX8_set 56 = .ok (.ifCond .ne 10, 3) := by decide +kernel
theorem dX8_set_59 : decode cX8_set 59 = .ok (.aload_n 0, 1) := by decide +kernel
theorem dX8_set_60 : decode cX8_set 60 = .ok (.getfield 89, 3) := by decide +kernel
theorem dX8_set_63 : decode cX8_set 63 = .ok (.goto 19, 3) := by decide +kernel
theorem dX8_set_66 : decode cX8_set 66 = .ok (.iload_n 1, 1) := by decide +kernel
theorem dX8_set_67 : decode cX8_set 67 = .ok (.iconst 1, 1) := by decide +kernel
theorem dX8_set_68 : decode cX8_set 68 = .ok (.if_icmp .ne 10, 3) := by decide +kernel
theorem dX8_set_71 : decode cX8_set 71 = .ok (.aload_n 0, 1) := by decide +kernel
theorem dX8_set_72 : decode cX8_set 72 = .ok (.getfield 136, 3) := by decide +kernel
theorem dX8_set_75 : decode cX8_set 75 = .ok (.goto 7, 3) := by decide +kernel
theorem dX8_set_78 : decode cX8_set 78 = .ok (.aload_n 0, 1) := by decide +kernel
theorem dX8_set_79 : decode cX8_set 79 = .ok (.getfield 93, 3) := by decide +kernel
theorem dX8_set_82 : decode cX8_set 82 = .ok (.istore 5, 2) := by decide +kernel
theorem dX8_set_84 : decode cX8_set 84 = .ok (.aload_n 0, 1) := by decide +kernel
theorem dX8_set_85 : decode cX8_set 85 = .ok (.iload_n 1, 1) := by decide +kernel
theorem dX8_set_86 : decode cX8_set 86 = .ok (.ifCond .ne 7, 3) := by decide +kernel
theorem dX8_set_89 : decode cX8_set 89 = .ok (.iload_n 2, 1) := by decide +kernel
theorem dX8_set_90 : decode cX8_set 90 = .ok (.goto 7, 3) := by decide +kernel
theorem dX8_set_93 : decode cX8_set 93 = .ok (.aload_n 0, 1) := by decide +kernel
theorem dX8_set_94 : decode cX8_set 94 = .ok (.getfield 89, 3) := by decide +kernel
theorem dX8_set_97 : decode cX8_set 97 = .ok (.putfield 89, 3) := by decide +kernel
theorem dX8_set_100 : decode cX8_set 100 = .ok (.aload_n 0, 1) := by decide +kernel
theorem dX8_set_101 : decode cX8_set 101 = .ok (.iload_n 1, 1) := by decide +kernel
theorem dX8_set_102 : decode cX8_set 102 = .ok (.iconst 1, 1) := by decide +kernel
theorem dX8_set_103 : decode cX8_set 103 = .ok (.if_icmp .ne 7, 3) := by decide +kernel
theorem dX8_set_106 : decode cX8_set 106 = .ok (.iload_n 2, 1) := by decide +kernel
theorem dX8_set_107 : decode cX8_set 107 = .ok (.goto 7, 3) := by decide +kernel
theorem dX8_set_110 : decode cX8_set 110 = .ok (.aload_n 0, 1) := by decide +kernel
theorem dX8_set_111 : decode cX8_set 111 = .ok (.getfield 136, 3) := by decide +kernel
theorem dX8_set_114 : decode cX8_set 114 = .ok (.putfield 136, 3) := by decide +kernel
theorem dX8_set_117 : decode cX8_set 117 = .ok (.aload_n 0, 1) := by decide +kernel
theorem dX8_set_118 : decode cX8_set 118 = .ok (.iload_n 1, 1) := by decide +kernel
theorem dX8_set_119 : decode cX8_set 119 = .ok (.iconst 2, 1) := by decide +kernel
theorem dX8_set_120 : decode cX8_set 120 = .ok (.if_icmp .ne 7, 3) := by decide +kernel
theorem dX8_set_123 : decode cX8_set 123 = .ok (.iload_n 2, 1) := by decide +kernel
theorem dX8_set_124 : decode cX8_set 124 = .ok (.goto 7, 3) := by decide +kernel
theorem dX8_set_127 : decode cX8_set 127 = .ok (.aload_n 0, 1) := by decide +kernel
theorem dX8_set_128 : decode cX8_set 128 = .ok (.getfield 93, 3) := by decide +kernel
theorem dX8_set_131 : decode cX8_set 131 = .ok (.putfield 93, 3) := by decide +kernel
theorem dX8_set_134 : decode cX8_set 134 = .ok (.iload 5, 2) := by decide +kernel
theorem dX8_set_136 : decode cX8_set 136 = .ok (.ireturn, 1) := by decide +kernel
theorem dX8_handing_0 : decode cX8_handing 0 = .ok (.iload_n 1, 1) := by decide +kernel
theorem dX8_handing_1 : decode cX8_handing 1 = .ok (.invokestatic 139, 3) := by decide +kernel
theorem dX8_handing_4 : decode cX8_handing 4 = .ok (.ifCond .eq 10, 3) := by decide +kernel
theorem dX8_handing_7 : decode cX8_handing 7 = .ok (.iload_n 2, 1) := by decide +kernel
theorem dX8_handing_8 : decode cX8_handing 8 = .ok (.invokestatic 142, 3) := by decide +kernel
theorem dX8_handing_11 : decode cX8_handing 11 = .ok (.ifCond .ne 6, 3) := by decide +kernel
theorem dX8_handing_14 : decode cX8_handing 14 = .ok (.bipush (-2), 2) := by decide +kernel
theorem dX8_handing_16 : decode cX8_handing 16 = .ok (.ireturn, 1) := by decide +kernel
theorem dX8_handing_17 : decode cX8_handing 17 = .ok (.aload_n 0, 1) := by decide +kernel
theorem dX8_handing_18 : decode cX8_handing 18 = .ok (.getfield 145, 3) := by decide +kernel
theorem dX8_handing_21 : decode cX8_handing 21 = .ok (.bipush 12, 2) := by decide +kernel
theorem dX8_handing_23 : decode cX8_handing 23 = .ok (.if_icmp .ne 6, 3) := by decide +kernel
theorem dX8_handing_26 : decode cX8_handing 26 = .ok (.bipush (-4), 2) := by decide +kernel
theorem dX8_handing_28 : decode cX8_handing 28 = .ok (.ireturn, 1) := by decide +kernel
theorem dX8_handing_29 : decode cX8_handing 29 = .ok (.aload_n 0, 1) := by decide +kernel
theorem dX8_handing_30 : decode cX8_handing 30 = .ok (.getfield 31, 3) := by decide +kernel
theorem dX8_handing_33 : decode cX8_handing 33 = .ok (.aload_n 0, 1) := by decide +kernel
theorem dX8_handing_34 : decode cX8_handing 34 = .ok (.getfield 145, 3) := by decide +kernel
theorem dX8_handing_37 : decode cX8_handing 37 = .ok (.iload_n 1, 1) := by decide +kernel
theorem dX8_handing_38 : decode cX8_handing 38 = .ok (.iastore, 1) := by decide +kernel
theorem dX8_handing_39 : decode cX8_handing 39 = .ok (.aload_n 0, 1) := by decide +kernel
theorem dX8_handing_40 : decode cX8_handing 40 = .ok (.getfield 34, 3) := by decide +kernel
theorem dX8_handing_43 : decode cX8_handing 43 = .ok (.aload_n 0, 1) := by decide +kernel
theorem dX8_handing_44 : decode cX8_handing 44 = .ok (.getfield 145, 3) := by decide +kernel
theorem dX8_handing_47 : decode cX8_handing 47 = .ok (.iload_n 2, 1) := by decide +kernel
theorem dX8_handing_48 : decode cX8_handing 48 = .ok (.iastore, 1) := by decide +kernel
theorem dX8_handing_49 : decode cX8_handing 49 = .ok (.aload_n 0, 1) := by decide +kernel
theorem dX8_handing_50 : decode cX8_handing 50 = .ok (.dup, 1) := by decide +kernel
theorem dX8_handing_51 : decode cX8_handing 51 = .ok (.getfield 145, 3) := by decide +kernel
theorem dX8_handing_54 : decode cX8_handing 54 = .ok (.iconst 1, 1) := by decide +kernel
theorem dX8_handing_55 : decode cX8_handing 55 = .ok (.iadd, 1) := by decide +kernel
theorem dX8_handing_56 : decode cX8_handing 56 = .ok (.putfield 145, 3) := by decide +kernel
theorem dX8_handing_59 : decode cX8_handing 59 = .ok (.aload_n 0, 1) := by decide +kernel
theorem dX8_handing_60 : decode cX8_handing 60 = .ok (.getfield 145, 3) := by decide +kernel
theorem dX8_handing_63 : decode cX8_handing 63 = .ok (.ireturn, 1) := by decide +kernel
theorem dX8_claim_0 : decode cX8_claim 0 = .ok (.iload_n 1, 1) := by decide +kernel
theorem dX8_claim_1 : decode cX8_claim 1 = .ok (.invokestatic 139, 3) := by decide +kernel
theorem dX8_claim_4 : decode cX8_claim 4 = .ok (.ifCond .eq 10, 3) := by decide +kernel
theorem dX8_claim_7 : decode cX8_claim 7 = .ok (.iload_n 2, 1) := by decide +kernel
theorem dX8_claim_8 : decode cX8_claim 8 = .ok (.invokestatic 142, 3) := by decide +kernel
theorem dX8_claim_11 : decode cX8_claim 11 = .ok (.ifCond .ne 6, 3) := by decide +kernel
theorem dX8_claim_14 : decode cX8_claim 14 = .ok (.bipush (-2), 2) := by decide +kernel
theorem dX8_claim_16 : decode cX8_claim 16 = .ok (.ireturn, 1) := by decide +kernel
theorem dX8_claim_17 : decode cX8_claim 17 = .ok (.aload_n 0, 1) := by decide +kernel
theorem dX8_claim_18 : decode cX8_claim 18 = .ok (.getfield 148, 3) := by decide +kernel
theorem dX8_claim_21 : decode cX8_claim 21 = .ok (.bipush 12, 2) := by decide +kernel
theorem dX8_claim_23 : decode cX8_claim 23 = .ok (.if_icmp .ne 6, 3) := by decide +kernel
theorem dX8_claim_26 : decode cX8_claim 26 = .ok (.bipush (-4), 2) := by decide +kernel
theorem dX8_claim_28 : decode cX8_claim 28 = .ok (.ireturn, 1) := by decide +kernel
theorem dX8_claim_29 : decode cX8_claim 29 = .ok (.aload_n 0, 1) := by decide +kernel
theorem dX8_claim_30 : decode cX8_claim 30 = .ok (.getfield 37, 3) := by decide +kernel
theorem dX8_claim_33 : decode cX8_claim 33 = .ok (.aload_n 0, 1) := by decide +kernel
theorem dX8_claim_34 : decode cX8_claim 34 = .ok (.getfield 148, 3) := by decide +kernel
theorem dX8_claim_37 : decode cX8_claim 37 = .ok (.iload_n 1, 1) := by decide +kernel
theorem dX8_claim_38 : decode cX8_claim 38 = .ok (.iastore, 1) := by decide +kernel
theorem dX8_claim_39 : decode cX8_claim 39 = .ok (.aload_n 0, 1) := by decide +kernel
theorem dX8_claim_40 : decode cX8_claim 40 = .ok (.getfield 40, 3) := by decide +kernel
theorem dX8_claim_43 : decode cX8_claim 43 = .ok (.aload_n 0, 1) := by decide +kernel
theorem dX8_claim_44 : decode cX8_claim 44 = .ok (.getfield 148, 3) := by decide +kernel
theorem dX8_claim_47 : decode cX8_claim 47 = .ok (.iload_n 2, 1) := by decide +kernel
theorem dX8_claim_48 : decode cX8_claim 48 = .ok (.iastore, 1) := by decide +kernel
theorem dX8_claim_49 : decode cX8_claim 49 = .ok (.aload_n 0, 1) := by decide +kernel
theorem dX8_claim_50 : decode cX8_claim 50 = .ok (.dup, 1) := by decide +kernel
theorem dX8_claim_51 : decode cX8_claim 51 = .ok (.getfield 148, 3) := by decide +kernel
theorem dX8_claim_54 : decode cX8_claim 54 = .ok (.iconst 1, 1) := by decide +kernel
theorem dX8_claim_55 : decode cX8_claim 55 = .ok (.iadd, 1) := by decide +kernel
theorem dX8_claim_56 : decode cX8_claim 56 = .ok (.putfield 148, 3) := by decide +kernel
theorem dX8_claim_59 : decode cX8_claim 59 = .ok (.aload_n 0, 1) := by decide +kernel
theorem dX8_claim_60 : decode cX8_claim 60 = .ok (.getfield 148, 3) := by decide +kernel
theorem dX8_claim_63 : decode cX8_claim 63 = .ok (.ireturn, 1) := by decide +kernel
theorem dX8_back_0 : decode cX8_back 0 = .ok (.iload_n 1, 1) := by decide +kernel
theorem dX8_back_1 : decode cX8_back 1 = .ok (.iconst 0, 1) := by decide +kernel
theorem dX8_back_2 : decode cX8_back 2 = .ok (.iconst 1, 1) := by decide +kernel
theorem dX8_back_3 : decode cX8_back 3 = .ok (.invokestatic 98, 3) := by decide +kernel
theorem dX8_back_6 : decode cX8_back 6 = .ok (.ifCond .ne 6, 3) := by decide +kernel
theorem dX8_back_9 : decode cX8_back 9 = .ok (.bipush (-2), 2) := by decide +kernel
theorem dX8_back_11 : decode cX8_back 11 = .ok (.ireturn, 1) := by decide +kernel
theorem dX8_back_12 : decode cX8_back 12 = .ok (.iload_n 1, 1) := by decide +kernel
theorem dX8_back_13 : decode cX8_back 13 = .ok (.ifCond .ne 10, 3) := by decide +kernel
theorem dX8_back_16 : decode cX8_back 16 = .ok (.aload_n 0, 1) := by decide +kernel
theorem dX8_back_17 : decode cX8_back 17 = .ok (.getfield 145, 3) := by decide +kernel
theorem dX8_back_20 : decode cX8_back 20 = .ok (.goto 7, 3) := by decide +kernel
theorem dX8_back_23 : decode cX8_back 23 = .ok (.aload_n 0, 1) := by decide +kernel
theorem dX8_back_24 : decode cX8_back 24 = .ok (.getfield 148, 3) := by decide +kernel
theorem dX8_back_27 : decode cX8_back 27 = .ok (.istore_n 2, 1) := by decide +kernel
theorem dX8_back_28 : decode cX8_back 28 = .ok (.iload_n 2, 1) := by decide +kernel
theorem dX8_back_29 : decode cX8_back 29 = .ok (.ifCond .ne 6, 3) := by decide +kernel
theorem dX8_back_32 : decode cX8_back 32 = .ok (.bipush (-3), 2) := by decide +kernel
theorem dX8_back_34 : decode cX8_back 34 = .ok (.ireturn, 1) := by decide +kernel
theorem dX8_back_35 : decode cX8_back 35 = .ok (.aload_n 0, 1) := by decide +kernel
theorem dX8_back_36 : decode cX8_back 36 = .ok (.dup, 1) := by decide +kernel
theorem dX8_back_37 : decode cX8_back 37 = .ok (.getfield 145, 3) := by decide +kernel
theorem dX8_back_40 : decode cX8_back 40 = .ok (.iload_n 1, 1) := by decide +kernel
theorem dX8_back_41 : decode cX8_back 41 = .ok (.ifCond .ne 7, 3) := by decide +kernel
theorem dX8_back_44 : decode cX8_back 44 = .ok (.iconst 1, 1) := by decide +kernel
theorem dX8_back_45 : decode cX8_back 45 = .ok (.goto 4, 3) := by decide +kernel
theorem dX8_back_48 : decode cX8_back 48 = .ok (.iconst 0, 1) := by decide +kernel
theorem dX8_back_49 : decode cX8_back 49 = .ok (.isub, 1) := by decide +kernel
theorem dX8_back_50 : decode cX8_back 50 = .ok (.putfield 145, 3) := by decide +kernel
theorem dX8_back_53 : decode cX8_back 53 = .ok (.aload_n 0, 1) := by decide +kernel
theorem dX8_back_54 : decode cX8_back 54 = .ok (.dup, 1) := by decide +kernel
theorem dX8_back_55 : decode cX8_back 55 = .ok (.getfield 148, 3) := by decide +kernel
theorem dX8_back_58 : decode cX8_back 58 = .ok (.iload_n 1, 1) := by decide +kernel
theorem dX8_back_59 : decode cX8_back 59 = .ok (.iconst 1, 1) := by decide +kernel
theorem dX8_back_60 : decode cX8_back 60 = .ok (.if_icmp .ne 7, 3) := by decide +kernel
theorem dX8_back_63 : decode cX8_back 63 = .ok (.iconst 1, 1) := by decide +kernel
theorem dX8_back_64 : decode cX8_back 64 = .ok (.goto 4, 3) := by decide +kernel
theorem dX8_back_67 : decode cX8_back 67 = .ok (.iconst 0, 1) := by decide +kernel
theorem dX8_back_68 : decode cX8_back 68 = .ok (.isub, 1) := by decide +kernel
theorem dX8_back_69 : decode cX8_back 69 = .ok (.putfield 148, 3) := by decide +kernel
theorem dX8_back_72 : decode cX8_back 72 = .ok (.iload_n 2, 1) := by decide +kernel
theorem dX8_back_73 : decode cX8_back 73 = .ok (.iconst 1, 1) := by decide +kernel
theorem dX8_back_74 : decode cX8_back 74 = .ok (.isub, 1) := by decide +kernel
theorem dX8_back_75 : decode cX8_back 75 = .ok (.ireturn, 1) := by decide +kernel
theorem dX8_read_0 : decode cX8_read 0 = .ok (.iload_n 1, 1) := by decide +kernel
theorem dX8_read_1 : decode cX8_read 1 = .ok (.invokestatic 151, 3) := by decide +kernel
theorem dX8_read_4 : decode cX8_read 4 = .ok (.ifCond .ne 6, 3) := by decide +kernel
theorem dX8_read_7 : decode cX8_read 7 = .ok (.bipush (-2), 2) := by decide +kernel
theorem dX8_read_9 : decode cX8_read 9 = .ok (.ireturn, 1) := by decide +kernel
theorem dX8_read_10 : decode cX8_read 10 = .ok (.aload_n 0, 1) := by decide +kernel
theorem dX8_read_11 : decode cX8_read 11 = .ok (.getfield 73, 3) := by decide +kernel
theorem dX8_read_14 : decode cX8_read 14 = .ok (.iload_n 1, 1) := by decide +kernel
theorem dX8_read_15 : decode cX8_read 15 = .ok (.baload, 1) := by decide +kernel
theorem dX8_read_16 : decode cX8_read 16 = .ok (.ifCond .ne 9, 3) := by decide +kernel
theorem dX8_read_19 : decode cX8_read 19 = .ok (.aload_n 0, 1) := by decide +kernel
theorem dX8_read_20 : decode cX8_read 20 = .ok (.iconst 1, 1) := by decide +kernel
theorem dX8_read_21 : decode cX8_read 21 = .ok (.invokevirtual 154, 3) := by decide +kernel
theorem dX8_read_24 : decode cX8_read 24 = .ok (.ireturn, 1) := by decide +kernel
theorem dX8_read_25 : decode cX8_read 25 = .ok (.iconst 0, 1) := by decide +kernel
theorem dX8_read_26 : decode cX8_read 26 = .ok (.istore_n 2, 1) := by decide +kernel
theorem dX8_read_27 : decode cX8_read 27 = .ok (.iconst 2, 1) := by decide +kernel
theorem dX8_read_28 : decode cX8_read 28 = .ok (.iload_n 2, 1) := by decide +kernel
theorem dX8_read_29 : decode cX8_read 29 = .ok (.imul, 1) := by decide +kernel
theorem dX8_read_30 : decode cX8_read 30 = .ok (.iconst 1, 1) := by decide +kernel
theorem dX8_read_31 : decode cX8_read 31 = .ok (.iadd, 1) := by decide +kernel
theorem dX8_read_32 : decode cX8_read 32 = .ok (.aload_n 0, 1) := by decide +kernel
theorem dX8_read_33 : decode cX8_read 33 = .ok (.getfield 80, 3) := by decide +kernel
theorem dX8_read_36 : decode cX8_read 36 = .ok (.iload_n 1, 1) := by decide +kernel
theorem dX8_read_37 : decode cX8_read 37 = .ok (.iaload, 1) := by decide +kernel
theorem dX8_read_38 : decode cX8_read 38 = .ok (.if_icmp .ge 44, 3) := by decide +kernel
theorem dX8_read_41 : decode cX8_read 41 = .ok (.aload_n 0, 1) := by decide +kernel
theorem dX8_read_42 : decode cX8_read 42 = .ok (.aload_n 0, 1) := by decide +kernel
theorem dX8_read_43 : decode cX8_read 43 = .ok (.getfield 83, 3) := by decide +kernel
theorem dX8_read_46 : decode cX8_read 46 = .ok (.bipush 48, 2) := by decide +kernel
theorem dX8_read_48 : decode cX8_read 48 = .ok (.iload_n 1, 1) := by decide +kernel
theorem dX8_read_49 : decode cX8_read 49 = .ok (.imul, 1) := by decide +kernel
theorem dX8_read_50 : decode cX8_read 50 = .ok (.iconst 2, 1) := by decide +kernel
theorem dX8_read_51 : decode cX8_read 51 = .ok (.iload_n 2, 1) := by decide +kernel
theorem dX8_read_52 : decode cX8_read 52 = .ok (.imul, 1) := by decide +kernel
theorem dX8_read_53 : decode cX8_read 53 = .ok (.iadd, 1) := by decide +kernel
theorem dX8_read_54 : decode cX8_read 54 = .ok (.iaload, 1) := by decide +kernel
theorem dX8_read_55 : decode cX8_read 55 = .ok (.aload_n 0, 1) := by decide +kernel
theorem dX8_read_56 : decode cX8_read 56 = .ok (.getfield 83, 3) := by decide +kernel
theorem dX8_read_59 : decode cX8_read 59 = .ok (.bipush 48, 2) := by decide +kernel
theorem dX8_read_61 : decode cX8_read 61 = .ok (.iload_n 1, 1) := by decide +kernel
theorem dX8_read_62 : decode cX8_read 62 = .ok (.imul, 1) := by decide +kernel
theorem dX8_read_63 : decode cX8_read 63 = .ok (.iconst 2, 1) := by decide +kernel
theorem dX8_read_64 : decode cX8_read 64 = .ok (.iload_n 2, 1) := by decide +kernel
theorem dX8_read_65 : decode cX8_read 65 = .ok (.imul, 1) := by decide +kernel
theorem dX8_read_66 : decode cX8_read 66 = .ok (.iadd, 1) := by decide +kernel
theorem dX8_read_67 : decode cX8_read 67 = .ok (.iconst 1, 1) := by decide +kernel
theorem dX8_read_68 : decode cX8_read 68 = .ok (.iadd, 1) := by decide +kernel
theorem dX8_read_69 : decode cX8_read 69 = .ok (.iaload, 1) := by decide +kernel
theorem dX8_read_70 : decode cX8_read 70 = .ok (.invokevirtual 157, 3) := by decide +kernel
theorem dX8_read_73 : decode cX8_read 73 = .ok (.ifCond .le 9, 3) := by decide +kernel
theorem dX8_read_76 : decode cX8_read 76 = .ok (.iinc 2 1, 3) := by decide +kernel
theorem dX8_read_79 : decode cX8_read 79 = .ok (.goto (-52), 3) := by decide +kernel
theorem dX8_read_82 : decode cX8_read 82 = .ok (.iload_n 2, 1) := by decide +kernel
theorem dX8_read_83 : decode cX8_read 83 = .ok (.ireturn, 1) := by decide +kernel
theorem dX8_fits_0 : decode cX8_fits 0 = .ok (.aload_n 0, 1) := by decide +kernel
theorem dX8_fits_1 : decode cX8_fits 1 = .ok (.getfield 16, 3) := by decide +kernel
theorem dX8_fits_4 : decode cX8_fits 4 = .ok (.iload_n 2, 1) := by decide +kernel
theorem dX8_fits_5 : decode cX8_fits 5 = .ok (.iaload, 1) := by decide +kernel
theorem dX8_fits_6 : decode cX8_fits 6 = .ok (.aload_n 0, 1) := by decide +kernel
theorem dX8_fits_7 : decode cX8_fits 7 = .ok (.getfield 25, 3) := by decide +kernel
theorem dX8_fits_10 : decode cX8_fits 10 = .ok (.iload_n 1, 1) := by decide +kernel
theorem dX8_fits_11 : decode cX8_fits 11 = .ok (.iaload, 1) := by decide +kernel
theorem dX8_fits_12 : decode cX8_fits 12 = .ok (.ixor, 1) := by decide +kernel
theorem dX8_fits_13 : decode cX8_fits 13 = .ok (.aload_n 0, 1) := by decide +kernel
theorem dX8_fits_14 : decode cX8_fits 14 = .ok (.getfield 22, 3) := by decide +kernel
theorem dX8_fits_17 : decode cX8_fits 17 = .ok (.iload_n 1, 1) := by decide +kernel
theorem dX8_fits_18 : decode cX8_fits 18 = .ok (.iaload, 1) := by decide +kernel
theorem dX8_fits_19 : decode cX8_fits 19 = .ok (.iand, 1) := by decide +kernel
theorem dX8_fits_20 : decode cX8_fits 20 = .ok (.ifCond .ne 7, 3) := by decide +kernel
theorem dX8_fits_23 : decode cX8_fits 23 = .ok (.iconst 1, 1) := by decide +kernel
theorem dX8_fits_24 : decode cX8_fits 24 = .ok (.goto 4, 3) := by decide +kernel
theorem dX8_fits_27 : decode cX8_fits 27 = .ok (.iconst 0, 1) := by decide +kernel
theorem dX8_fits_28 : decode cX8_fits 28 = .ok (.ireturn, 1) := by decide +kernel
theorem dX8_givenTo_0 : decode cX8_givenTo 0 = .ok (.iconst (-1), 1) := by decide +kernel
theorem dX8_givenTo_1 : decode cX8_givenTo 1 = .ok (.istore_n 2, 1) := by decide +kernel
theorem dX8_givenTo_2 : decode cX8_givenTo 2 = .ok (.iconst 0, 1) := by decide +kernel
theorem dX8_givenTo_3 : decode cX8_givenTo 3 = .ok (.istore_n 3, 1) := by decide +kernel
theorem dX8_givenTo_4 : decode cX8_givenTo 4 = .ok (.iload_n 3, 1) := by decide +kernel
theorem dX8_givenTo_5 : decode cX8_givenTo 5 = .ok (.aload_n 0, 1) := by decide +kernel
theorem dX8_givenTo_6 : decode cX8_givenTo 6 = .ok (.getfield 106, 3) := by decide +kernel
theorem dX8_givenTo_9 : decode cX8_givenTo 9 = .ok (.if_icmp .ge 76, 3) := by decide +kernel
theorem dX8_givenTo_12 : decode cX8_givenTo 12 = .ok (.aload_n 0, 1) := by decide +kernel
theorem dX8_givenTo_13 : decode cX8_givenTo 13 = .ok (.getfield 43, 3) := by decide +kernel
theorem dX8_givenTo_16 : decode cX8_givenTo 16 = .ok (.iload_n 3, 1) := by decide +kernel
theorem dX8_givenTo_17 : decode cX8_givenTo 17 = .ok (.iaload, 1) := by decide +kernel
theorem dX8_givenTo_18 : decode cX8_givenTo 18 = .ok (.iconst (-1), 1) := by decide +kernel
theorem dX8_givenTo_19 : decode cX8_givenTo 19 = .ok (.if_icmp .eq 26, 3) := by decide +kernel
theorem dX8_givenTo_22 : decode cX8_givenTo 22 = .ok (.aload_n 0, 1) := by decide +kernel
theorem dX8_givenTo_23 : decode cX8_givenTo 23 = .ok (.getfield 46, 3) := by decide +kernel
theorem dX8_givenTo_26 : decode cX8_givenTo 26 = .ok (.iload_n 3, 1) := by decide +kernel
theorem dX8_givenTo_27 : decode cX8_givenTo 27 = .ok (.iaload, 1) := by decide +kernel
theorem dX8_givenTo_28 : decode cX8_givenTo 28 = .ok (.iconst (-1), 1) := by decide +kernel
theorem dX8_givenTo_29 : decode cX8_givenTo 29 = .ok (.if_icmp .ne 16, 3) := by decide +kernel
theorem dX8_givenTo_32 : decode cX8_givenTo 32 = .ok (.aload_n 0, 1) := by decide +kernel
theorem dX8_givenTo_33 : decode cX8_givenTo 33 = .ok (.iload_n 1, 1) := by decide +kernel
theorem dX8_givenTo_34 : decode cX8_givenTo 34 = .ok (.iload_n 3, 1) := by decide +kernel
theorem dX8_givenTo_35 : decode cX8_givenTo 35 = .ok (.invokevirtual 160, 3) := by decide +kernel
theorem dX8_givenTo_38 : decode cX8_givenTo 38 = .ok (.ifCond .eq 7, 3) := by decide +kernel
theorem dX8_givenTo_41 : decode cX8_givenTo 41 = .ok (.iconst 1, 1) := by decide +kernel
theorem dX8_givenTo_42 : decode cX8_givenTo 42 = .ok (.goto 4, 3) := by decide +kernel
theorem dX8_givenTo_45 : decode cX8_givenTo 45 = .ok (.iconst 0, 1) := by decide +kernel
theorem dX8_givenTo_46 : decode cX8_givenTo 46 = .ok (.istore 4, 2) := by decide +kernel
theorem dX8_givenTo_48 : decode cX8_givenTo 48 = .ok (.iload 4, 2) := by decide +kernel
theorem dX8_givenTo_50 : decode cX8_givenTo 50 = .ok (.ifCond .eq 27, 3) := by decide +kernel
theorem dX8_givenTo_53 : decode cX8_givenTo 53 = .ok (.iload_n 2, 1) := by decide +kernel
theorem dX8_givenTo_54 : decode cX8_givenTo 54 = .ok (.iconst (-1), 1) := by decide +kernel
theorem dX8_givenTo_55 : decode cX8_givenTo 55 = .ok (.if_icmp .eq 18, 3) := by decide +kernel
theorem dX8_givenTo_58 : decode cX8_givenTo 58 = .ok (.aload_n 0, 1) := by decide +kernel
theorem dX8_givenTo_59 : decode cX8_givenTo 59 = .ok (.getfield 19, 3) := by decide +kernel
theorem dX8_givenTo_62 : decode cX8_givenTo 62 = .ok (.iload_n 3, 1) := by decide +kernel
theorem dX8_givenTo_63 : decode cX8_givenTo 63 = .ok (.iaload, 1) := by decide +kernel
theorem dX8_givenTo_64 : decode cX8_givenTo 64 = .ok (.aload_n 0, 1) := by decide +kernel
theorem dX8_givenTo_65 : decode cX8_givenTo 65 = .ok (.getfield 19, 3) := by decide +kernel
theorem dX8_givenTo_68 : decode cX8_givenTo 68 = .ok (.iload_n 2, 1) := by decide +kernel
theorem dX8_givenTo_69 : decode cX8_givenTo 69 = .ok (.iaload, 1) := by decide +kernel
theorem dX8_givenTo_70 : decode cX8_givenTo 70 = .ok (.if_icmp .ge 7, 3) := by decide +kernel
theorem dX8_givenTo_73 : decode cX8_givenTo 73 = .ok (.iload_n 3, 1) := by decide +kernel
theorem dX8_givenTo_74 : decode cX8_givenTo 74 = .ok (.goto 4, 3) := by decide +kernel
theorem dX8_givenTo_77 : decode cX8_givenTo 77 = .ok (.iload_n 2, 1) := by decide +kernel
theorem dX8_givenTo_78 : decode cX8_givenTo 78 = .ok (.istore_n 2, 1) := by decide +kernel
theorem dX8_givenTo_79 : decode cX8_givenTo 79 = .ok (.iinc 3 1, 3) := by decide +kernel
theorem dX8_givenTo_82 : decode cX8_givenTo 82 = .ok (.goto (-78), 3) := by decide +kernel
theorem dX8_givenTo_85 : decode cX8_givenTo 85 = .ok (.aload_n 0, 1) := by decide +kernel
theorem dX8_givenTo_86 : decode cX8_givenTo 86 = .ok (.getfield 22, 3) := by decide +kernel
theorem dX8_givenTo_89 : decode cX8_givenTo 89 = .ok (.iload_n 1, 1) := by decide +kernel
theorem dX8_givenTo_90 : decode cX8_givenTo 90 = .ok (.iaload, 1) := by decide +kernel
theorem dX8_givenTo_91 : decode cX8_givenTo 91 = .ok (.invokestatic 164, 3) := by decide +kernel
theorem dX8_givenTo_94 : decode cX8_givenTo 94 = .ok (.aload_n 0, 1) := by decide +kernel
theorem dX8_givenTo_95 : decode cX8_givenTo 95 = .ok (.getfield 89, 3) := by decide +kernel
theorem dX8_givenTo_98 : decode cX8_givenTo 98 = .ok (.if_icmp .lt 7, 3) := by decide +kernel
theorem dX8_givenTo_101 : decode cX8_givenTo 101 = .ok (.iload_n 2, 1) := by decide +kernel
theorem dX8_givenTo_102 : decode cX8_givenTo 102 = .ok (.goto 4, 3) := by decide +kernel
theorem dX8_givenTo_105 : decode cX8_givenTo 105 = .ok (.iconst (-1), 1) := by decide +kernel
theorem dX8_givenTo_106 : decode cX8_givenTo 106 = .ok (.ireturn, 1) := by decide +kernel
theorem dX8_fitsGone_0 : decode cX8_fitsGone 0 = .ok (.iconst 0, 1) := by decide +kernel
theorem dX8_fitsGone_1 : decode cX8_fitsGone 1 = .ok (.istore_n 2, 1) := by decide +kernel
theorem dX8_fitsGone_2 : decode cX8_fitsGone 2 = .ok (.iconst 0, 1) := by decide +kernel
theorem dX8_fitsGone_3 : decode cX8_fitsGone 3 = .ok (.istore_n 3, 1) := by decide +kernel
theorem dX8_fitsGone_4 : decode cX8_fitsGone 4 = .ok (.iload_n 3, 1) := by decide +kernel
theorem dX8_fitsGone_5 : decode cX8_fitsGone 5 = .ok (.aload_n 0, 1) := by decide +kernel
theorem dX8_fitsGone_6 : decode cX8_fitsGone 6 = .ok (.getfield 106, 3) := by decide +kernel
theorem dX8_fitsGone_9 : decode cX8_fitsGone 9 = .ok (.if_icmp .ge 38, 3) := by decide +kernel
theorem dX8_fitsGone_12 : decode cX8_fitsGone 12 = .ok (.iload_n 2, 1) := by decide +kernel
theorem dX8_fitsGone_13 : decode cX8_fitsGone 13 = .ok (.ifCond .ne 22, 3) := by decide +kernel
theorem dX8_fitsGone_16 : decode cX8_fitsGone 16 = .ok (.aload_n 0, 1) := by decide +kernel
theorem dX8_fitsGone_17 : decode cX8_fitsGone 17 = .ok (.getfield 46, 3) := by decide +kernel
theorem dX8_fitsGone_20 : decode cX8_fitsGone 20 = .ok (.iload_n 3, 1) := by decide +kernel
theorem dX8_fitsGone_21 : decode cX8_fitsGone 21 = .ok (.iaload, 1) := by decide +kernel
theorem dX8_fitsGone_22 : decode cX8_fitsGone 22 = .ok (.iconst (-1), 1) := by decide +kernel
theorem dX8_fitsGone_23 : decode cX8_fitsGone 23 = .ok (.if_icmp .eq 16, 3) := by decide +kernel
theorem dX8_fitsGone_26 : decode cX8_fitsGone 26 = .ok (.aload_n 0, 1) := by decide +kernel
theorem dX8_fitsGone_27 : decode cX8_fitsGone 27 = .ok (.iload_n 1, 1) := by decide +kernel
theorem dX8_fitsGone_28 : decode cX8_fitsGone 28 = .ok (.iload_n 3, 1) := by decide +kernel
theorem dX8_fitsGone_29 : decode cX8_fitsGone 29 = .ok (.invokevirtual 160, 3) := by decide +kernel
theorem dX8_fitsGone_32 : decode cX8_fitsGone 32 = .ok (.ifCond .eq 7, 3) := by decide +kernel
theorem dX8_fitsGone_35 : decode cX8_fitsGone 35 = .ok (.iconst 1, 1) := by decide +kernel
theorem dX8_fitsGone_36 : decode cX8_fitsGone 36 = .ok (.goto 4, 3) := by decide +kernel
theorem dX8_fitsGone_39 : decode cX8_fitsGone 39 = .ok (.iconst 0, 1) := by decide +kernel
theorem dX8_fitsGone_40 : decode cX8_fitsGone 40 = .ok (.istore_n 2, 1) := by decide +kernel
theorem dX8_fitsGone_41 : decode cX8_fitsGone 41 = .ok (.iinc 3 1, 3) := by decide +kernel
theorem dX8_fitsGone_44 : decode cX8_fitsGone 44 = .ok (.goto (-40), 3) := by decide +kernel
theorem dX8_fitsGone_47 : decode cX8_fitsGone 47 = .ok (.iload_n 2, 1) := by decide +kernel
theorem dX8_fitsGone_48 : decode cX8_fitsGone 48 = .ok (.ireturn, 1) := by decide +kernel
theorem dX8_comes_0 : decode cX8_comes 0 = .ok (.aload_n 0, 1) := by decide +kernel
theorem dX8_comes_1 : decode cX8_comes 1 = .ok (.getfield 40, 3) := by decide +kernel
theorem dX8_comes_4 : decode cX8_comes 4 = .ok (.iload_n 1, 1) := by decide +kernel
theorem dX8_comes_5 : decode cX8_comes 5 = .ok (.iaload, 1) := by decide +kernel
theorem dX8_comes_6 : decode cX8_comes 6 = .ok (.istore_n 3, 1) := by decide +kernel
theorem dX8_comes_7 : decode cX8_comes 7 = .ok (.iload_n 3, 1) := by decide +kernel
theorem dX8_comes_8 : decode cX8_comes 8 = .ok (.aload_n 0, 1) := by decide +kernel
theorem dX8_comes_9 : decode cX8_comes 9 = .ok (.getfield 109, 3) := by decide +kernel
theorem dX8_comes_12 : decode cX8_comes 12 = .ok (.if_icmp .ge 11, 3) := by decide +kernel
theorem dX8_comes_15 : decode cX8_comes 15 = .ok (.aload_n 0, 1) := by decide +kernel
theorem dX8_comes_16 : decode cX8_comes 16 = .ok (.iload_n 3, 1) := by decide +kernel
theorem dX8_comes_17 : decode cX8_comes 17 = .ok (.invokevirtual 167, 3) := by decide +kernel
theorem dX8_comes_20 : decode cX8_comes 20 = .ok (.goto 4, 3) := by decide +kernel
theorem dX8_comes_23 : decode cX8_comes 23 = .ok (.iconst (-1), 1) := by decide +kernel
theorem dX8_comes_24 : decode cX8_comes 24 = .ok (.istore 4, 2) := by decide +kernel
theorem dX8_comes_26 : decode cX8_comes 26 = .ok (.iload 4, 2) := by decide +kernel
theorem dX8_comes_28 : decode cX8_comes 28 = .ok (.iconst (-1), 1) := by decide +kernel
theorem dX8_comes_29 : decode cX8_comes 29 = .ok (.if_icmp .eq 42, 3) := by decide +kernel
theorem dX8_comes_32 : decode cX8_comes 32 = .ok (.aload_n 0, 1) := by decide +kernel
theorem dX8_comes_33 : decode cX8_comes 33 = .ok (.getfield 46, 3) := by decide +kernel
theorem dX8_comes_36 : decode cX8_comes 36 = .ok (.iload 4, 2) := by decide +kernel
theorem dX8_comes_38 : decode cX8_comes 38 = .ok (.iload_n 2, 1) := by decide +kernel
theorem dX8_comes_39 : decode cX8_comes 39 = .ok (.iastore, 1) := by decide +kernel
theorem dX8_comes_40 : decode cX8_comes 40 = .ok (.aload_n 0, 1) := by decide +kernel
theorem dX8_comes_41 : decode cX8_comes 41 = .ok (.getfield 49, 3) := by decide +kernel
theorem dX8_comes_44 : decode cX8_comes 44 = .ok (.iload 4, 2) := by decide +kernel
theorem dX8_comes_46 : decode cX8_comes 46 = .ok (.iload_n 3, 1) := by decide +kernel
theorem dX8_comes_47 : decode cX8_comes 47 = .ok (.iastore, 1) := by decide +kernel
theorem dX8_comes_48 : decode cX8_comes 48 = .ok (.iload_n 1, 1) := by decide +kernel
theorem dX8_comes_49 : decode cX8_comes 49 = .ok (.bipush 12, 2) := by decide +kernel
theorem dX8_comes_51 : decode cX8_comes 51 = .ok (.if_icmp .ge 49, 3) := by decide +kernel
theorem dX8_comes_54 : decode cX8_comes 54 = .ok (.aload_n 0, 1) := by decide +kernel
theorem dX8_comes_55 : decode cX8_comes 55 = .ok (.dup, 1) := by decide +kernel
theorem dX8_comes_56 : decode cX8_comes 56 = .ok (.getfield 170, 3) := by decide +kernel
theorem dX8_comes_59 : decode cX8_comes 59 = .ok (.iconst 1, 1) := by decide +kernel
theorem dX8_comes_60 : decode cX8_comes 60 = .ok (.iload_n 1, 1) := by decide +kernel
theorem dX8_comes_61 : decode cX8_comes 61 = .ok (.ishl, 1) := by decide +kernel
theorem dX8_comes_62 : decode cX8_comes 62 = .ok (.iconst (-1), 1) := by decide +kernel
theorem dX8_comes_63 : decode cX8_comes 63 = .ok (.ixor, 1) := by decide +kernel
theorem dX8_comes_64 : decode cX8_comes 64 = .ok (.iand, 1) := by decide +kernel
theorem dX8_comes_65 : decode cX8_comes 65 = .ok (.putfield 170, 3) := by decide +kernel
theorem dX8_comes_68 : decode cX8_comes 68 = .ok (.goto 32, 3) := by decide +kernel
theorem dX8_comes_71 : decode cX8_comes 71 = .ok (.iload_n 3, 1) := by decide +kernel
theorem dX8_comes_72 : decode cX8_comes 72 = .ok (.aload_n 0, 1) := by decide +kernel
theorem dX8_comes_73 : decode cX8_comes 73 = .ok (.getfield 109, 3) := by decide +kernel
theorem dX8_comes_76 : decode cX8_comes 76 = .ok (.if_icmp .ge 24, 3) := by decide +kernel
theorem dX8_comes_79 : decode cX8_comes 79 = .ok (.aload_n 0, 1) := by decide +kernel
theorem dX8_comes_80 : decode cX8_comes 80 = .ok (.getfield 173, 3) := by decide +kernel
theorem dX8_comes_83 : decode cX8_comes 83 = .ok (.iconst (-1), 1) := by decide +kernel
theorem dX8_comes_84 : decode cX8_comes 84 = .ok (.if_icmp .ne 16, 3) := by decide +kernel
theorem dX8_comes_87 : decode cX8_comes 87 = .ok (.aload_n 0, 1) := by decide +kernel
theorem dX8_comes_88 : decode cX8_comes 88 = .ok (.iload_n 3, 1) := by decide +kernel
theorem dX8_comes_89 : decode cX8_comes 89 = .ok (.invokevirtual 176, 3) := by decide +kernel
theorem dX8_comes_92 : decode cX8_comes 92 = .ok (.ifCond .eq 8, 3) := by decide +kernel
theorem dX8_comes_95 : decode cX8_comes 95 = .ok (.aload_n 0, 1) := by decide +kernel
theorem dX8_comes_96 : decode cX8_comes 96 = .ok (.iload_n 1, 1) := by decide +kernel
theorem dX8_comes_97 : decode cX8_comes 97 = .ok (.putfield 173, 3) := by decide +kernel
theorem dX8_comes_100 : decode cX8_comes 100 = .ok (.return_, 1) := by decide +kernel
theorem dX8_runs_0 : decode cX8_runs 0 = .ok (.iconst 0, 1) := by decide +kernel
theorem dX8_runs_1 : decode cX8_runs 1 = .ok (.istore 4, 2) := by decide +kernel
theorem dX8_runs_3 : decode cX8_runs 3 = .ok (.iload 4, 2) := by decide +kernel
theorem dX8_runs_5 : decode cX8_runs 5 = .ok (.bipush 8, 2) := by decide +kernel
theorem dX8_runs_7 : decode cX8_runs 7 = .ok (.if_icmp .ge 33, 3) := by decide +kernel
theorem dX8_runs_10 : decode cX8_runs 10 = .ok (.aload_n 0, 1) := by decide +kernel
theorem dX8_runs_11 : decode cX8_runs 11 = .ok (.getfield 43, 3) := by decide +kernel
theorem dX8_runs_14 : decode cX8_runs 14 = .ok (.iload 4, 2) := by decide +kernel
theorem dX8_runs_16 : decode cX8_runs 16 = .ok (.iconst (-1), 1) := by decide +kernel
theorem dX8_runs_17 : decode cX8_runs 17 = .ok (.iastore, 1) := by decide +kernel
theorem dX8_runs_18 : decode cX8_runs 18 = .ok (.aload_n 0, 1) := by decide +kernel
theorem dX8_runs_19 : decode cX8_runs 19 = .ok (.getfield 46, 3) := by decide +kernel
theorem dX8_runs_22 : decode cX8_runs 22 = .ok (.iload 4, 2) := by decide +kernel
theorem dX8_runs_24 : decode cX8_runs 24 = .ok (.iconst (-1), 1) := by decide +kernel
theorem dX8_runs_25 : decode cX8_runs 25 = .ok (.iastore, 1) := by decide +kernel
theorem dX8_runs_26 : decode cX8_runs 26 = .ok (.aload_n 0, 1) := by decide +kernel
theorem dX8_runs_27 : decode cX8_runs 27 = .ok (.getfield 49, 3) := by decide +kernel
theorem dX8_runs_30 : decode cX8_runs 30 = .ok (.iload 4, 2) := by decide +kernel
theorem dX8_runs_32 : decode cX8_runs 32 = .ok (.iconst (-1), 1) := by decide +kernel
theorem dX8_runs_33 : decode cX8_runs 33 = .ok (.iastore, 1) := by decide +kernel
theorem dX8_runs_34 : decode cX8_runs 34 = .ok (.iinc 4 1, 3) := by decide +kernel
theorem dX8_runs_37 : decode cX8_runs 37 = .ok (.goto (-34), 3) := by decide +kernel
theorem dX8_runs_40 : decode cX8_runs 40 = .ok (.aload_n 0, 1) := by decide +kernel
theorem dX8_runs_41 : decode cX8_runs 41 = .ok (.iconst 1, 1) := by decide +kernel
theorem dX8_runs_42 : decode cX8_runs 42 = .ok (.iload_n 3, 1) := by decide +kernel
theorem dX8_runs_43 : decode cX8_runs 43 = .ok (.bipush 12, 2) := by decide +kernel
theorem dX8_runs_45 : decode cX8_runs 45 = .ok (.if_icmp .ge 7, 3) := by decide +kernel
theorem dX8_runs_48 : decode cX8_runs 48 = .ok (.iload_n 3, 1) := by decide +kernel
theorem dX8_runs_49 : decode cX8_runs 49 = .ok (.goto 5, 3) := by decide +kernel
theorem dX8_runs_52 : decode cX8_runs 52 = .ok (.bipush 12, 2) := by decide +kernel
theorem dX8_runs_54 : decode cX8_runs 54 = .ok (.ishl, 1) := by decide +kernel
theorem dX8_runs_55 : decode cX8_runs 55 = .ok (.iconst 1, 1) := by decide +kernel
theorem dX8_runs_56 : decode cX8_runs 56 = .ok (.isub, 1) := by decide +kernel
theorem dX8_runs_57 : decode cX8_runs 57 = .ok (.putfield 170, 3) := by decide +kernel
theorem dX8_runs_60 : decode cX8_runs 60 = .ok (.aload_n 0, 1) := by decide +kernel
theorem dX8_runs_61 : decode cX8_runs 61 = .ok (.iconst (-1), 1) := by decide +kernel
theorem dX8_runs_62 : decode cX8_runs 62 = .ok (.putfield 173, 3) := by decide +kernel
theorem dX8_runs_65 : decode cX8_runs 65 = .ok (.iconst 0, 1) := by decide +kernel
theorem dX8_runs_66 : decode cX8_runs 66 = .ok (.istore 4, 2) := by decide +kernel
theorem dX8_runs_68 : decode cX8_runs 68 = .ok (.iload 4, 2) := by decide +kernel
theorem dX8_runs_70 : decode cX8_runs 70 = .ok (.iload_n 1, 1) := by decide +kernel
theorem dX8_runs_71 : decode cX8_runs 71 = .ok (.if_icmp .gt 281, 3) := by decide +kernel
theorem dX8_runs_74 : decode cX8_runs 74 = .ok (.iconst 0, 1) := by decide +kernel
theorem dX8_runs_75 : decode cX8_runs 75 = .ok (.istore 5, 2) := by decide +kernel
theorem dX8_runs_77 : decode cX8_runs 77 = .ok (.iload 5, 2) := by decide +kernel
theorem dX8_runs_79 : decode cX8_runs 79 = .ok (.iload_n 2, 1) := by decide +kernel
theorem dX8_runs_80 : decode cX8_runs 80 = .ok (.if_icmp .ge 69, 3) := by decide +kernel
theorem dX8_runs_83 : decode cX8_runs 83 = .ok (.aload_n 0, 1) := by decide +kernel
theorem dX8_runs_84 : decode cX8_runs 84 = .ok (.getfield 34, 3) := by decide +kernel
theorem dX8_runs_87 : decode cX8_runs 87 = .ok (.iload 5, 2) := by decide +kernel
theorem dX8_runs_89 : decode cX8_runs 89 = .ok (.iaload, 1) := by decide +kernel
theorem dX8_runs_90 : decode cX8_runs 90 = .ok (.istore 6, 2) := by decide +kernel
theorem dX8_runs_92 : decode cX8_runs 92 = .ok (.aload_n 0, 1) := by decide +kernel
theorem dX8_runs_93 : decode cX8_runs 93 = .ok (.getfield 43, 3) := by decide +kernel
theorem dX8_runs_96 : decode cX8_runs 96 = .ok (.iload 6, 2) := by decide +kernel
theorem dX8_runs_98 : decode cX8_runs 98 = .ok (.aload_n 0, 1) := by decide +kernel
theorem dX8_runs_99 : decode cX8_runs 99 = .ok (.getfield 31, 3) := by decide +kernel
theorem dX8_runs_102 : decode cX8_runs 102 = .ok (.iload 5, 2) := by decide +kernel
theorem dX8_runs_104 : decode cX8_runs 104 = .ok (.iaload, 1) := by decide +kernel
theorem dX8_runs_105 : decode cX8_runs 105 = .ok (.iload 4, 2) := by decide +kernel
theorem dX8_runs_107 : decode cX8_runs 107 = .ok (.if_icmp .ne 28, 3) := by decide +kernel
theorem dX8_runs_110 : decode cX8_runs 110 = .ok (.iload 6, 2) := by decide +kernel
theorem dX8_runs_112 : decode cX8_runs 112 = .ok (.aload_n 0, 1) := by decide +kernel
theorem dX8_runs_113 : decode cX8_runs 113 = .ok (.getfield 106, 3) := by decide +kernel
theorem dX8_runs_116 : decode cX8_runs 116 = .ok (.if_icmp .ge 19, 3) := by decide +kernel
theorem dX8_runs_119 : decode cX8_runs 119 = .ok (.aload_n 0, 1) := by decide +kernel
theorem dX8_runs_120 : decode cX8_runs 120 = .ok (.getfield 43, 3) := by decide +kernel
theorem dX8_runs_123 : decode cX8_runs 123 = .ok (.iload 6, 2) := by decide +kernel
theorem dX8_runs_125 : decode cX8_runs 125 = .ok (.iaload, 1) := by decide +kernel
theorem dX8_runs_126 : decode cX8_runs 126 = .ok (.iconst (-1), 1) := by decide +kernel
theorem dX8_runs_127 : decode cX8_runs 127 = .ok (.if_icmp .ne 8, 3) := by decide +kernel
theorem dX8_runs_130 : decode cX8_runs 130 = .ok (.iload 4, 2) := by decide +kernel
theorem dX8_runs_132 : decode cX8_runs 132 = .ok (.goto 10, 3) := by decide +kernel
theorem dX8_runs_135 : decode cX8_runs 135 = .ok (.aload_n 0, 1) := by decide +kernel
theorem dX8_runs_136 : decode cX8_runs 136 = .ok (.getfield 43, 3) := by decide +kernel
theorem dX8_runs_139 : decode cX8_runs 139 = .ok (.iload 6, 2) := by decide +kernel
theorem dX8_runs_141 : decode cX8_runs 141 = .ok (.iaload, 1) := by decide +kernel
theorem dX8_runs_142 : decode cX8_runs 142 = .ok (.iastore, 1) := by decide +kernel
theorem dX8_runs_143 : decode cX8_runs 143 = .ok (.iinc 5 1, 3) := by decide +kernel
theorem dX8_runs_146 : decode cX8_runs 146 = .ok (.goto (-69), 3) := by decide +kernel
theorem dX8_runs_149 : decode cX8_runs 149 = .ok (.iconst 0, 1) := by decide +kernel
theorem dX8_runs_150 : decode cX8_runs 150 = .ok (.istore 5, 2) := by decide +kernel
theorem dX8_runs_152 : decode cX8_runs 152 = .ok (.iload 5, 2) := by decide +kernel
theorem dX8_runs_154 : decode cX8_runs 154 = .ok (.bipush 10, 2) := by decide +kernel
theorem dX8_runs_156 : decode cX8_runs 156 = .ok (.if_icmp .ge 100, 3) := by decide +kernel
theorem dX8_runs_159 : decode cX8_runs 159 = .ok (.iconst 0, 1) := by decide +kernel
theorem dX8_runs_160 : decode cX8_runs 160 = .ok (.istore 6, 2) := by decide +kernel
theorem dX8_runs_162 : decode cX8_runs 162 = .ok (.iload 6, 2) := by decide +kernel
theorem dX8_runs_164 : decode cX8_runs 164 = .ok (.iload_n 3, 1) := by decide +kernel
theorem dX8_runs_165 : decode cX8_runs 165 = .ok (.if_icmp .ge 85, 3) := by decide +kernel
theorem dX8_runs_168 : decode cX8_runs 168 = .ok (.aload_n 0, 1) := by decide +kernel
theorem dX8_runs_169 : decode cX8_runs 169 = .ok (.getfield 40, 3) := by decide +kernel
theorem dX8_runs_172 : decode cX8_runs 172 = .ok (.iload 6, 2) := by decide +kernel
theorem dX8_runs_174 : decode cX8_runs 174 = .ok (.iaload, 1) := by decide +kernel
theorem dX8_runs_175 : decode cX8_runs 175 = .ok (.aload_n 0, 1) := by decide +kernel
theorem dX8_runs_176 : decode cX8_runs 176 = .ok (.getfield 109, 3) := by decide +kernel
theorem dX8_runs_179 : decode cX8_runs 179 = .ok (.if_icmp .ge 28, 3) := by decide +kernel
theorem dX8_runs_182 : decode cX8_runs 182 = .ok (.aload_n 0, 1) := by decide +kernel
theorem dX8_runs_183 : decode cX8_runs 183 = .ok (.getfield 28, 3) := by decide +kernel
theorem dX8_runs_186 : decode cX8_runs 186 = .ok (.aload_n 0, 1) := by decide +kernel
theorem dX8_runs_187 : decode cX8_runs 187 = .ok (.getfield 40, 3) := by decide +kernel
theorem dX8_runs_190 : decode cX8_runs 190 = .ok (.iload 6, 2) := by decide +kernel
theorem dX8_runs_192 : decode cX8_runs 192 = .ok (.iaload, 1) := by decide +kernel
theorem dX8_runs_193 : decode cX8_runs 193 = .ok (.iaload, 1) := by decide +kernel
theorem dX8_runs_194 : decode cX8_runs 194 = .ok (.iload 5, 2) := by decide +kernel
theorem dX8_runs_196 : decode cX8_runs 196 = .ok (.if_icmp .ne 7, 3) := by decide +kernel
theorem dX8_runs_199 : decode cX8_runs 199 = .ok (.iconst 1, 1) := by decide +kernel
theorem dX8_runs_200 : decode cX8_runs 200 = .ok (.goto 17, 3) := by decide +kernel
theorem dX8_runs_203 : decode cX8_runs 203 = .ok (.iconst 0, 1) := by decide +kernel
theorem dX8_runs_204 : decode cX8_runs 204 = .ok (.goto 13, 3) := by decide +kernel
theorem dX8_runs_207 : decode cX8_runs 207 = .ok (.iload 5, 2) := by decide +kernel
theorem dX8_runs_209 : decode cX8_runs 209 = .ok (.ifCond .ne 7, 3) := by decide +kernel
theorem dX8_runs_212 : decode cX8_runs 212 = .ok (.iconst 1, 1) := by decide +kernel
theorem dX8_runs_213 : decode cX8_runs 213 = .ok (.goto 4, 3) := by decide +kernel
theorem dX8_runs_216 : decode cX8_runs 216 = .ok (.iconst 0, 1) := by decide +kernel
theorem dX8_runs_217 : decode cX8_runs 217 = .ok (.istore 7, 2) := by decide +kernel
theorem dX8_runs_219 : decode cX8_runs 219 = .ok (.aload_n 0, 1) := by decide +kernel
theorem dX8_runs_220 : decode cX8_runs 220 = .ok (.getfield 37, 3) := by decide +kernel
theorem dX8_runs_223 : decode cX8_runs 223 = .ok (.iload 6, 2) := by decide +kernel
theorem dX8_runs_225 : decode cX8_runs 225 = .ok (.iaload, 1) := by decide +kernel
theorem dX8_runs_226 : decode cX8_runs 226 = .ok (.iload 4, 2) := by decide +kernel
theorem dX8_runs_228 : decode cX8_runs 228 = .ok (.if_icmp .ne 16, 3) := by decide +kernel
theorem dX8_runs_231 : decode cX8_runs 231 = .ok (.iload 7, 2) := by decide +kernel
theorem dX8_runs_233 : decode cX8_runs 233 = .ok (.ifCond .eq 11, 3) := by decide +kernel
theorem dX8_runs_236 : decode cX8_runs 236 = .ok (.aload_n 0, 1) := by decide +kernel
theorem dX8_runs_237 : decode cX8_runs 237 = .ok (.iload 6, 2) := by decide +kernel
theorem dX8_runs_239 : decode cX8_runs 239 = .ok (.iload 4, 2) := by decide +kernel
theorem dX8_runs_241 : decode cX8_runs 241 = .ok (.invokevirtual 179, 3) := by decide +kernel
theorem dX8_runs_244 : decode cX8_runs 244 = .ok (.iinc 6 1, 3) := by decide +kernel
theorem dX8_runs_247 : decode cX8_runs 247 = .ok (.goto (-85), 3) := by decide +kernel
theorem dX8_runs_250 : decode cX8_runs 250 = .ok (.iinc 5 1, 3) := by decide +kernel
theorem dX8_runs_253 : decode cX8_runs 253 = .ok (.goto (-101), 3) := by decide +kernel
theorem dX8_runs_256 : decode cX8_runs 256 = .ok (.iconst 0, 1) := by decide +kernel
theorem dX8_runs_257 : decode cX8_runs 257 = .ok (.istore 5, 2) := by decide +kernel
theorem dX8_runs_259 : decode cX8_runs 259 = .ok (.iload 5, 2) := by decide +kernel
theorem dX8_runs_261 : decode cX8_runs 261 = .ok (.aload_n 0, 1) := by decide +kernel
theorem dX8_runs_262 : decode cX8_runs 262 = .ok (.getfield 106, 3) := by decide +kernel
theorem dX8_runs_265 : decode cX8_runs 265 = .ok (.if_icmp .ge 81, 3) := by decide +kernel
theorem dX8_runs_268 : decode cX8_runs 268 = .ok (.aload_n 0, 1) := by decide +kernel
theorem dX8_runs_269 : decode cX8_runs 269 = .ok (.getfield 43, 3) := by decide +kernel
theorem dX8_runs_272 : decode cX8_runs 272 = .ok (.iload 5, 2) := by decide +kernel
theorem dX8_runs_274 : decode cX8_runs 274 = .ok (.iaload, 1) := by decide +kernel
theorem dX8_runs_275 : decode cX8_runs 275 = .ok (.iconst (-1), 1) := by decide +kernel
theorem dX8_runs_276 : decode cX8_runs 276 = .ok (.if_icmp .eq 37, 3) := by decide +kernel
theorem dX8_runs_279 : decode cX8_runs 279 = .ok (.aload_n 0, 1) := by decide +kernel
theorem dX8_runs_280 : decode cX8_runs 280 = .ok (.getfield 46, 3) := by decide +kernel
theorem dX8_runs_283 : decode cX8_runs 283 = .ok (.iload 5, 2) := by decide +kernel
theorem dX8_runs_285 : decode cX8_runs 285 = .ok (.iaload, 1) := by decide +kernel
theorem dX8_runs_286 : decode cX8_runs 286 = .ok (.iconst (-1), 1) := by decide +kernel
theorem dX8_runs_287 : decode cX8_runs 287 = .ok (.if_icmp .ne 26, 3) := by decide +kernel
theorem dX8_runs_290 : decode cX8_runs 290 = .ok (.iload 4, 2) := by decide +kernel
theorem dX8_runs_292 : decode cX8_runs 292 = .ok (.aload_n 0, 1) := by decide +kernel
theorem dX8_runs_293 : decode cX8_runs 293 = .ok (.getfield 43, 3) := by decide +kernel
theorem dX8_runs_296 : decode cX8_runs 296 = .ok (.iload 5, 2) := by decide +kernel
theorem dX8_runs_298 : decode cX8_runs 298 = .ok (.iaload, 1) := by decide +kernel
theorem dX8_runs_299 : decode cX8_runs 299 = .ok (.isub, 1) := by decide +kernel
theorem dX8_runs_300 : decode cX8_runs 300 = .ok (.iconst 1, 1) := by decide +kernel
theorem dX8_runs_301 : decode cX8_runs 301 = .ok (.iadd, 1) := by decide +kernel
theorem dX8_runs_302 : decode cX8_runs 302 = .ok (.aload_n 0, 1) := by decide +kernel
theorem dX8_runs_303 : decode cX8_runs 303 = .ok (.getfield 93, 3) := by decide +kernel
theorem dX8_runs_306 : decode cX8_runs 306 = .ok (.if_icmp .ne 7, 3) := by decide +kernel
theorem dX8_runs_309 : decode cX8_runs 309 = .ok (.iconst 1, 1) := by decide +kernel
theorem dX8_runs_310 : decode cX8_runs 310 = .ok (.goto 4, 3) := by decide +kernel
theorem dX8_runs_313 : decode cX8_runs 313 = .ok (.iconst 0, 1) := by decide +kernel
theorem dX8_runs_314 : decode cX8_runs 314 = .ok (.istore 6, 2) := by decide +kernel
theorem dX8_runs_316 : decode cX8_runs 316 = .ok (.aload_n 0, 1) := by decide +kernel
theorem dX8_runs_317 : decode cX8_runs 317 = .ok (.getfield 46, 3) := by decide +kernel
theorem dX8_runs_320 : decode cX8_runs 320 = .ok (.iload 5, 2) := by decide +kernel
theorem dX8_runs_322 : decode cX8_runs 322 = .ok (.iload 6, 2) := by decide +kernel
theorem dX8_runs_324 : decode cX8_runs 324 = .ok (.ifCond .eq 8, 3) := by decide +kernel
theorem dX8_runs_327 : decode cX8_runs 327 = .ok (.iload 4, 2) := by decide +kernel
theorem dX8_runs_329 : decode cX8_runs 329 = .ok (.goto 10, 3) := by decide +kernel
theorem dX8_runs_332 : decode cX8_runs 332 = .ok (.aload_n 0, 1) := by decide +kernel
theorem dX8_runs_333 : decode cX8_runs 333 = .ok (.getfield 46, 3) := by decide +kernel
theorem dX8_runs_336 : decode cX8_runs 336 = .ok (.iload 5, 2) := by decide +kernel
theorem dX8_runs_338 : decode cX8_runs 338 = .ok (.iaload, 1) := by decide +kernel
theorem dX8_runs_339 : decode cX8_runs 339 = .ok (.iastore, 1) := by decide +kernel
theorem dX8_runs_340 : decode cX8_runs 340 = .ok (.iinc 5 1, 3) := by decide +kernel
theorem dX8_runs_343 : decode cX8_runs 343 = .ok (.goto (-84), 3) := by decide +kernel
theorem dX8_runs_346 : decode cX8_runs 346 = .ok (.iinc 4 1, 3) := by decide +kernel
theorem dX8_runs_349 : decode cX8_runs 349 = .ok (.goto (-281), 3) := by decide +kernel
theorem dX8_runs_352 : decode cX8_runs 352 = .ok (.return_, 1) := by decide +kernel
theorem dX8_runsTo_0 : decode cX8_runsTo 0 = .ok (.aload_n 0, 1) := by decide +kernel
theorem dX8_runsTo_1 : decode cX8_runsTo 1 = .ok (.invokevirtual 123, 3) := by decide +kernel
theorem dX8_runsTo_4 : decode cX8_runsTo 4 = .ok (.aload_n 0, 1) := by decide +kernel
theorem dX8_runsTo_5 : decode cX8_runsTo 5 = .ok (.iload_n 1, 1) := by decide +kernel
theorem dX8_runsTo_6 : decode cX8_runsTo 6 = .ok (.aload_n 0, 1) := by decide +kernel
theorem dX8_runsTo_7 : decode cX8_runsTo 7 = .ok (.getfield 145, 3) := by decide +kernel
theorem dX8_runsTo_10 : decode cX8_runsTo 10 = .ok (.aload_n 0, 1) := by decide +kernel
theorem dX8_runsTo_11 : decode cX8_runsTo 11 = .ok (.getfield 148, 3) := by decide +kernel
theorem dX8_runsTo_14 : decode cX8_runsTo 14 = .ok (.invokevirtual 183, 3) := by decide +kernel
theorem dX8_runsTo_17 : decode cX8_runsTo 17 = .ok (.return_, 1) := by decide +kernel
theorem dX8_bitsNow_0 : decode cX8_bitsNow 0 = .ok (.iconst 0, 1) := by decide +kernel
theorem dX8_bitsNow_1 : decode cX8_bitsNow 1 = .ok (.istore_n 2, 1) := by decide +kernel
theorem dX8_bitsNow_2 : decode cX8_bitsNow 2 = .ok (.iconst 0, 1) := by decide +kernel
theorem dX8_bitsNow_3 : decode cX8_bitsNow 3 = .ok (.istore_n 3, 1) := by decide +kernel
theorem dX8_bitsNow_4 : decode cX8_bitsNow 4 = .ok (.iload_n 3, 1) := by decide +kernel
theorem dX8_bitsNow_5 : decode cX8_bitsNow 5 = .ok (.aload_n 0, 1) := by decide +kernel
theorem dX8_bitsNow_6 : decode cX8_bitsNow 6 = .ok (.getfield 106, 3) := by decide +kernel
theorem dX8_bitsNow_9 : decode cX8_bitsNow 9 = .ok (.if_icmp .ge 70, 3) := by decide +kernel
theorem dX8_bitsNow_12 : decode cX8_bitsNow 12 = .ok (.aload_n 0, 1) := by decide +kernel
theorem dX8_bitsNow_13 : decode cX8_bitsNow 13 = .ok (.getfield 43, 3) := by decide +kernel
theorem dX8_bitsNow_16 : decode cX8_bitsNow 16 = .ok (.iload_n 3, 1) := by decide +kernel
theorem dX8_bitsNow_17 : decode cX8_bitsNow 17 = .ok (.iaload, 1) := by decide +kernel
theorem dX8_bitsNow_18 : decode cX8_bitsNow 18 = .ok (.iconst (-1), 1) := by decide +kernel
theorem dX8_bitsNow_19 : decode cX8_bitsNow 19 = .ok (.if_icmp .ne 7, 3) := by decide +kernel
theorem dX8_bitsNow_22 : decode cX8_bitsNow 22 = .ok (.iconst (-1), 1) := by decide +kernel
theorem dX8_bitsNow_23 : decode cX8_bitsNow 23 = .ok (.goto 32, 3) := by decide +kernel
theorem dX8_bitsNow_26 : decode cX8_bitsNow 26 = .ok (.aload_n 0, 1) := by decide +kernel
theorem dX8_bitsNow_27 : decode cX8_bitsNow 27 = .ok (.getfield 46, 3) := by decide +kernel
theorem dX8_bitsNow_30 : decode cX8_bitsNow 30 = .ok (.iload_n 3, 1) := by decide +kernel
theorem dX8_bitsNow_31 : decode cX8_bitsNow 31 = .ok (.iaload, 1) := by decide +kernel
theorem dX8_bitsNow_32 : decode cX8_bitsNow 32 = .ok (.iconst (-1), 1) := by decide +kernel
theorem dX8_bitsNow_33 : decode cX8_bitsNow 33 = .ok (.if_icmp .ne 7, 3) := by decide +kernel
theorem dX8_bitsNow_36 : decode cX8_bitsNow 36 = .ok (.iconst 0, 1) := by decide +kernel
theorem dX8_bitsNow_37 : decode cX8_bitsNow 37 = .ok (.goto 18, 3) := by decide +kernel
theorem dX8_bitsNow_40 : decode cX8_bitsNow 40 = .ok (.aload_n 0, 1) := by decide +kernel
theorem dX8_bitsNow_41 : decode cX8_bitsNow 41 = .ok (.getfield 49, 3) := by decide +kernel
theorem dX8_bitsNow_44 : decode cX8_bitsNow 44 = .ok (.iload_n 3, 1) := by decide +kernel
theorem dX8_bitsNow_45 : decode cX8_bitsNow 45 = .ok (.iaload, 1) := by decide +kernel
theorem dX8_bitsNow_46 : decode cX8_bitsNow 46 = .ok (.iconst (-1), 1) := by decide +kernel
theorem dX8_bitsNow_47 : decode cX8_bitsNow 47 = .ok (.if_icmp .eq 7, 3) := by decide +kernel
theorem dX8_bitsNow_50 : decode cX8_bitsNow 50 = .ok (.iconst 1, 1) := by decide +kernel
theorem dX8_bitsNow_51 : decode cX8_bitsNow 51 = .ok (.goto 4, 3) := by decide +kernel
theorem dX8_bitsNow_54 : decode cX8_bitsNow 54 = .ok (.iconst 2, 1) := by decide +kernel
theorem dX8_bitsNow_55 : decode cX8_bitsNow 55 = .ok (.istore 4, 2) := by decide +kernel
theorem dX8_bitsNow_57 : decode cX8_bitsNow 57 = .ok (.iload_n 2, 1) := by decide +kernel
theorem dX8_bitsNow_58 : decode cX8_bitsNow 58 = .ok (.iload 4, 2) := by decide +kernel
theorem dX8_bitsNow_60 : decode cX8_bitsNow 60 = .ok (.iload_n 1, 1) := by decide +kernel
theorem dX8_bitsNow_61 : decode cX8_bitsNow 61 = .ok (.if_icmp .ne 9, 3) := by decide +kernel
theorem dX8_bitsNow_64 : decode cX8_bitsNow 64 = .ok (.iconst 1, 1) := by decide +kernel
theorem dX8_bitsNow_65 : decode cX8_bitsNow 65 = .ok (.iload_n 3, 1) := by decide +kernel
theorem dX8_bitsNow_66 : decode cX8_bitsNow 66 = .ok (.ishl, 1) := by decide +kernel
theorem dX8_bitsNow_67 : decode cX8_bitsNow 67 = .ok (.goto 4, 3) := by decide +kernel
theorem dX8_bitsNow_70 : decode cX8_bitsNow 70 = .ok (.iconst 0, 1) := by decide +kernel
theorem dX8_bitsNow_71 : decode cX8_bitsNow 71 = .ok (.ior, 1) := by decide +kernel
theorem dX8_bitsNow_72 : decode cX8_bitsNow 72 = .ok (.istore_n 2, 1) := by decide +kernel
theorem dX8_bitsNow_73 : decode cX8_bitsNow 73 = .ok (.iinc 3 1, 3) := by decide +kernel
theorem dX8_bitsNow_76 : decode cX8_bitsNow 76 = .ok (.goto (-72), 3) := by decide +kernel
theorem dX8_bitsNow_79 : decode cX8_bitsNow 79 = .ok (.iload_n 2, 1) := by decide +kernel
theorem dX8_bitsNow_80 : decode cX8_bitsNow 80 = .ok (.ireturn, 1) := by decide +kernel
theorem dX8_behindOf_0 : decode cX8_behindOf 0 = .ok (.aload_n 0, 1) := by decide +kernel
theorem dX8_behindOf_1 : decode cX8_behindOf 1 = .ok (.iload_n 1, 1) := by decide +kernel
theorem dX8_behindOf_2 : decode cX8_behindOf 2 = .ok (.invokevirtual 187, 3) := by decide +kernel
theorem dX8_behindOf_5 : decode cX8_behindOf 5 = .ok (.aload_n 0, 1) := by decide +kernel
theorem dX8_behindOf_6 : decode cX8_behindOf 6 = .ok (.iload_n 2, 1) := by decide +kernel
theorem dX8_behindOf_7 : decode cX8_behindOf 7 = .ok (.invokevirtual 191, 3) := by decide +kernel
theorem dX8_behindOf_10 : decode cX8_behindOf 10 = .ok (.ireturn, 1) := by decide +kernel
theorem dX8_behind_0 : decode cX8_behind 0 = .ok (.iload_n 1, 1) := by decide +kernel
theorem dX8_behind_1 : decode cX8_behind 1 = .ok (.invokestatic 139, 3) := by decide +kernel
theorem dX8_behind_4 : decode cX8_behind 4 = .ok (.ifCond .eq 21, 3) := by decide +kernel
theorem dX8_behind_7 : decode cX8_behind 7 = .ok (.iload_n 2, 1) := by decide +kernel
theorem dX8_behind_8 : decode cX8_behind 8 = .ok (.iconst 0, 1) := by decide +kernel
theorem dX8_behind_9 : decode cX8_behind 9 = .ok (.iconst 2, 1) := by decide +kernel
theorem dX8_behind_10 : decode cX8_behind 10 = .ok (.invokestatic 98, 3) := by decide +kernel
theorem dX8_behind_13 : decode cX8_behind 13 = .ok (.ifCond .eq 12, 3) := by decide +kernel
theorem dX8_behind_16 : decode cX8_behind 16 = .ok (.aload_n 0, 1) := by decide +kernel
theorem dX8_behind_17 : decode cX8_behind 17 = .ok (.iload_n 1, 1) := by decide +kernel
theorem dX8_behind_18 : decode cX8_behind 18 = .ok (.iload_n 2, 1) := by decide +kernel
theorem dX8_behind_19 : decode cX8_behind 19 = .ok (.invokevirtual 194, 3) := by decide +kernel
theorem dX8_behind_22 : decode cX8_behind 22 = .ok (.goto 5, 3) := by decide +kernel
theorem dX8_behind_25 : decode cX8_behind 25 = .ok (.bipush (-2), 2) := by decide +kernel
theorem dX8_behind_27 : decode cX8_behind 27 = .ok (.ireturn, 1) := by decide +kernel
theorem dX8_goneOf_0 : decode cX8_goneOf 0 = .ok (.aload_n 0, 1) := by decide +kernel
theorem dX8_goneOf_1 : decode cX8_goneOf 1 = .ok (.bipush 39, 2) := by decide +kernel
theorem dX8_goneOf_3 : decode cX8_goneOf 3 = .ok (.invokevirtual 187, 3) := by decide +kernel
theorem dX8_goneOf_6 : decode cX8_goneOf 6 = .ok (.iload_n 2, 1) := by decide +kernel
theorem dX8_goneOf_7 : decode cX8_goneOf 7 = .ok (.ifCond .ne 12, 3) := by decide +kernel
theorem dX8_goneOf_10 : decode cX8_goneOf 10 = .ok (.aload_n 0, 1) := by decide +kernel
theorem dX8_goneOf_11 : decode cX8_goneOf 11 = .ok (.getfield 49, 3) := by decide +kernel
theorem dX8_goneOf_14 : decode cX8_goneOf 14 = .ok (.iload_n 1, 1) := by decide +kernel
theorem dX8_goneOf_15 : decode cX8_goneOf 15 = .ok (.iaload, 1) := by decide +kernel
theorem dX8_goneOf_16 : decode cX8_goneOf 16 = .ok (.goto 9, 3) := by decide +kernel
theorem dX8_goneOf_19 : decode cX8_goneOf 19 = .ok (.aload_n 0, 1) := by decide +kernel
theorem dX8_goneOf_20 : decode cX8_goneOf 20 = .ok (.getfield 46, 3) := by decide +kernel
theorem dX8_goneOf_23 : decode cX8_goneOf 23 = .ok (.iload_n 1, 1) := by decide +kernel
theorem dX8_goneOf_24 : decode cX8_goneOf 24 = .ok (.iaload, 1) := by decide +kernel
theorem dX8_goneOf_25 : decode cX8_goneOf 25 = .ok (.ireturn, 1) := by decide +kernel
theorem dX8_gone_0 : decode cX8_gone 0 = .ok (.aload_n 0, 1) := by decide +kernel
theorem dX8_gone_1 : decode cX8_gone 1 = .ok (.iload_n 1, 1) := by decide +kernel
theorem dX8_gone_2 : decode cX8_gone 2 = .ok (.invokevirtual 126, 3) := by decide +kernel
theorem dX8_gone_5 : decode cX8_gone 5 = .ok (.ifCond .eq 21, 3) := by decide +kernel
theorem dX8_gone_8 : decode cX8_gone 8 = .ok (.iload_n 2, 1) := by decide +kernel
theorem dX8_gone_9 : decode cX8_gone 9 = .ok (.iconst 0, 1) := by decide +kernel
theorem dX8_gone_10 : decode cX8_gone 10 = .ok (.iconst 1, 1) := by decide +kernel
theorem dX8_gone_11 : decode cX8_gone 11 = .ok (.invokestatic 98, 3) := by decide +kernel
theorem dX8_gone_14 : decode cX8_gone 14 = .ok (.ifCond .eq 12, 3) := by decide +kernel
theorem dX8_gone_17 : decode cX8_gone 17 = .ok (.aload_n 0, 1) := by decide +kernel
theorem dX8_gone_18 : decode cX8_gone 18 = .ok (.iload_n 1, 1) := by decide +kernel
theorem dX8_gone_19 : decode cX8_gone 19 = .ok (.iload_n 2, 1) := by decide +kernel
theorem dX8_gone_20 : decode cX8_gone 20 = .ok (.invokevirtual 197, 3) := by decide +kernel
theorem dX8_gone_23 : decode cX8_gone 23 = .ok (.goto 5, 3) := by decide +kernel
theorem dX8_gone_26 : decode cX8_gone 26 = .ok (.bipush (-2), 2) := by decide +kernel
theorem dX8_gone_28 : decode cX8_gone 28 = .ok (.ireturn, 1) := by decide +kernel
theorem dX8_emptyNow_0 : decode cX8_emptyNow 0 = .ok (.aload_n 0, 1) := by decide +kernel
theorem dX8_emptyNow_1 : decode cX8_emptyNow 1 = .ok (.bipush 39, 2) := by decide +kernel
theorem dX8_emptyNow_3 : decode cX8_emptyNow 3 = .ok (.invokevirtual 187, 3) := by decide +kernel
theorem dX8_emptyNow_6 : decode cX8_emptyNow 6 = .ok (.aload_n 0, 1) := by decide +kernel
theorem dX8_emptyNow_7 : decode cX8_emptyNow 7 = .ok (.getfield 170, 3) := by decide +kernel
theorem dX8_emptyNow_10 : decode cX8_emptyNow 10 = .ok (.ireturn, 1) := by decide +kernel
theorem dX8_empty_0 : decode cX8_empty 0 = .ok (.aload_n 0, 1) := by decide +kernel
theorem dX8_empty_1 : decode cX8_empty 1 = .ok (.invokevirtual 200, 3) := by decide +kernel
theorem dX8_empty_4 : decode cX8_empty 4 = .ok (.ireturn, 1) := by decide +kernel
theorem dX8_saleNow_0 : decode cX8_saleNow 0 = .ok (.aload_n 0, 1) := by decide +kernel
theorem dX8_saleNow_1 : decode cX8_saleNow 1 = .ok (.bipush 39, 2) := by decide +kernel
theorem dX8_saleNow_3 : decode cX8_saleNow 3 = .ok (.iconst 2, 1) := by decide +kernel
theorem dX8_saleNow_4 : decode cX8_saleNow 4 = .ok (.invokevirtual 194, 3) := by decide +kernel
theorem dX8_saleNow_7 : decode cX8_saleNow 7 = .ok (.istore_n 1, 1) := by decide +kernel
theorem dX8_saleNow_8 : decode cX8_saleNow 8 = .ok (.iconst 0, 1) := by decide +kernel
theorem dX8_saleNow_9 : decode cX8_saleNow 9 = .ok (.istore_n 2, 1) := by decide +kernel
theorem dX8_saleNow_10 : decode cX8_saleNow 10 = .ok (.iconst 0, 1) := by decide +kernel
theorem dX8_saleNow_11 : decode cX8_saleNow 11 = .ok (.istore_n 3, 1) := by decide +kernel
theorem dX8_saleNow_12 : decode cX8_saleNow 12 = .ok (.iload_n 3, 1) := by decide +kernel
theorem dX8_saleNow_13 : decode cX8_saleNow 13 = .ok (.aload_n 0, 1) := by decide +kernel
theorem dX8_saleNow_14 : decode cX8_saleNow 14 = .ok (.getfield 106, 3) := by decide +kernel
theorem dX8_saleNow_17 : decode cX8_saleNow 17 = .ok (.if_icmp .ge 30, 3) := by decide +kernel
theorem dX8_saleNow_20 : decode cX8_saleNow 20 = .ok (.iload_n 2, 1) := by decide +kernel
theorem dX8_saleNow_21 : decode cX8_saleNow 21 = .ok (.iload_n 1, 1) := by decide +kernel
theorem dX8_saleNow_22 : decode cX8_saleNow 22 = .ok (.iload_n 3, 1) := by decide +kernel
theorem dX8_saleNow_23 : decode cX8_saleNow 23 = .ok (.invokestatic 204, 3) := by decide +kernel
theorem dX8_saleNow_26 : decode cX8_saleNow 26 = .ok (.ifCond .eq 12, 3) := by decide +kernel
theorem dX8_saleNow_29 : decode cX8_saleNow 29 = .ok (.aload_n 0, 1) := by decide +kernel
theorem dX8_saleNow_30 : decode cX8_saleNow 30 = .ok (.getfield 19, 3) := by decide +kernel
theorem dX8_saleNow_33 : decode cX8_saleNow 33 = .ok (.iload_n 3, 1) := by decide +kernel
theorem dX8_saleNow_34 : decode cX8_saleNow 34 = .ok (.iaload, 1) := by decide +kernel
theorem dX8_saleNow_35 : decode cX8_saleNow 35 = .ok (.goto 4, 3) := by decide +kernel
theorem dX8_saleNow_38 : decode cX8_saleNow 38 = .ok (.iconst 0, 1) := by decide +kernel
theorem dX8_saleNow_39 : decode cX8_saleNow 39 = .ok (.iadd, 1) := by decide +kernel
theorem dX8_saleNow_40 : decode cX8_saleNow 40 = .ok (.istore_n 2, 1) := by decide +kernel
theorem dX8_saleNow_41 : decode cX8_saleNow 41 = .ok (.iinc 3 1, 3) := by decide +kernel
theorem dX8_saleNow_44 : decode cX8_saleNow 44 = .ok (.goto (-32), 3) := by decide +kernel
theorem dX8_saleNow_47 : decode cX8_saleNow 47 = .ok (.iload_n 2, 1) := by decide +kernel
theorem dX8_saleNow_48 : decode cX8_saleNow 48 = .ok (.ireturn, 1) := by decide +kernel
theorem dX8_sale_0 : decode cX8_sale 0 = .ok (.aload_n 0, 1) := by decide +kernel
theorem dX8_sale_1 : decode cX8_sale 1 = .ok (.invokevirtual 207, 3) := by decide +kernel
theorem dX8_sale_4 : decode cX8_sale 4 = .ok (.ireturn, 1) := by decide +kernel
theorem dX8_saintOf_0 : decode cX8_saintOf 0 = .ok (.aload_n 0, 1) := by decide +kernel
theorem dX8_saintOf_1 : decode cX8_saintOf 1 = .ok (.bipush 39, 2) := by decide +kernel
theorem dX8_saintOf_3 : decode cX8_saintOf 3 = .ok (.invokevirtual 187, 3) := by decide +kernel
theorem dX8_saintOf_6 : decode cX8_saintOf 6 = .ok (.aload_n 0, 1) := by decide +kernel
theorem dX8_saintOf_7 : decode cX8_saintOf 7 = .ok (.getfield 173, 3) := by decide +kernel
theorem dX8_saintOf_10 : decode cX8_saintOf 10 = .ok (.ireturn, 1) := by decide +kernel
theorem dX8_saint_0 : decode cX8_saint 0 = .ok (.aload_n 0, 1) := by decide +kernel
theorem dX8_saint_1 : decode cX8_saint 1 = .ok (.invokevirtual 210, 3) := by decide +kernel
theorem dX8_saint_4 : decode cX8_saint 4 = .ok (.ireturn, 1) := by decide +kernel
theorem dX8_fittingOf_0 : decode cX8_fittingOf 0 = .ok (.iconst 0, 1) := by decide +kernel
theorem dX8_fittingOf_1 : decode cX8_fittingOf 1 = .ok (.istore_n 3, 1) := by decide +kernel
theorem dX8_fittingOf_2 : decode cX8_fittingOf 2 = .ok (.iconst 0, 1) := by decide +kernel
theorem dX8_fittingOf_3 : decode cX8_fittingOf 3 = .ok (.istore 4, 2) := by decide +kernel
theorem dX8_fittingOf_5 : decode cX8_fittingOf 5 = .ok (.iload 4, 2) := by decide +kernel
theorem dX8_fittingOf_7 : decode cX8_fittingOf 7 = .ok (.bipush 8, 2) := by decide +kernel
theorem dX8_fittingOf_9 : decode cX8_fittingOf 9 = .ok (.if_icmp .ge 79, 3) := by decide +kernel
theorem dX8_fittingOf_12 : decode cX8_fittingOf 12 = .ok (.iload 4, 2) := by decide +kernel
theorem dX8_fittingOf_14 : decode cX8_fittingOf 14 = .ok (.iload_n 1, 1) := by decide +kernel
theorem dX8_fittingOf_15 : decode cX8_fittingOf 15 = .ok (.ifCond .ne 10, 3) := by decide +kernel
theorem dX8_fittingOf_18 : decode cX8_fittingOf 18 = .ok (.aload_n 0, 1) := by decide +kernel
theorem dX8_fittingOf_19 : decode cX8_fittingOf 19 = .ok (.getfield 106, 3) := by decide +kernel
theorem dX8_fittingOf_22 : decode cX8_fittingOf 22 = .ok (.goto 7, 3) := by decide +kernel
theorem dX8_fittingOf_25 : decode cX8_fittingOf 25 = .ok (.aload_n 0, 1) := by decide +kernel
theorem dX8_fittingOf_26 : decode cX8_fittingOf 26 = .ok (.getfield 109, 3) := by decide +kernel
theorem dX8_fittingOf_29 : decode cX8_fittingOf 29 = .ok (.if_icmp .ge 7, 3) := by decide +kernel
theorem dX8_fittingOf_32 : decode cX8_fittingOf 32 = .ok (.iconst 1, 1) := by decide +kernel
theorem dX8_fittingOf_33 : decode cX8_fittingOf 33 = .ok (.goto 4, 3) := by decide +kernel
theorem dX8_fittingOf_36 : decode cX8_fittingOf 36 = .ok (.iconst 0, 1) := by decide +kernel
theorem dX8_fittingOf_37 : decode cX8_fittingOf 37 = .ok (.istore 5, 2) := by decide +kernel
theorem dX8_fittingOf_39 : decode cX8_fittingOf 39 = .ok (.iload_n 3, 1) := by decide +kernel
theorem dX8_fittingOf_40 : decode cX8_fittingOf 40 = .ok (.iload 5, 2) := by decide +kernel
theorem dX8_fittingOf_42 : decode cX8_fittingOf 42 = .ok (.ifCond .eq 37, 3) := by decide +kernel
theorem dX8_fittingOf_45 : decode cX8_fittingOf 45 = .ok (.iload_n 1, 1) := by decide +kernel
theorem dX8_fittingOf_46 : decode cX8_fittingOf 46 = .ok (.ifCond .ne 16, 3) := by decide +kernel
theorem dX8_fittingOf_49 : decode cX8_fittingOf 49 = .ok (.aload_n 0, 1) := by decide +kernel
theorem dX8_fittingOf_50 : decode cX8_fittingOf 50 = .ok (.iload_n 2, 1) := by decide +kernel
theorem dX8_fittingOf_51 : decode cX8_fittingOf 51 = .ok (.iload 4, 2) := by decide +kernel
theorem dX8_fittingOf_53 : decode cX8_fittingOf 53 = .ok (.invokevirtual 160, 3) := by decide +kernel
theorem dX8_fittingOf_56 : decode cX8_fittingOf 56 = .ok (.ifCond .eq 23, 3) := by decide +kernel
theorem dX8_fittingOf_59 : decode cX8_fittingOf 59 = .ok (.goto 13, 3) := by decide +kernel
theorem dX8_fittingOf_62 : decode cX8_fittingOf 62 = .ok (.aload_n 0, 1) := by decide +kernel
theorem dX8_fittingOf_63 : decode cX8_fittingOf 63 = .ok (.iload 4, 2) := by decide +kernel
theorem dX8_fittingOf_65 : decode cX8_fittingOf 65 = .ok (.iload_n 2, 1) := by decide +kernel
theorem dX8_fittingOf_66 : decode cX8_fittingOf 66 = .ok (.invokevirtual 160, 3) := by decide +kernel
theorem dX8_fittingOf_69 : decode cX8_fittingOf 69 = .ok (.ifCond .eq 10, 3) := by decide +kernel
theorem dX8_fittingOf_72 : decode cX8_fittingOf 72 = .ok (.iconst 1, 1) := by decide +kernel
theorem dX8_fittingOf_73 : decode cX8_fittingOf 73 = .ok (.iload 4, 2) := by decide +kernel
theorem dX8_fittingOf_75 : decode cX8_fittingOf 75 = .ok (.ishl, 1) := by decide +kernel
theorem dX8_fittingOf_76 : decode cX8_fittingOf 76 = .ok (.goto 4, 3) := by decide +kernel
theorem dX8_fittingOf_79 : decode cX8_fittingOf 79 = .ok (.iconst 0, 1) := by decide +kernel
theorem dX8_fittingOf_80 : decode cX8_fittingOf 80 = .ok (.ior, 1) := by decide +kernel
theorem dX8_fittingOf_81 : decode cX8_fittingOf 81 = .ok (.istore_n 3, 1) := by decide +kernel
theorem dX8_fittingOf_82 : decode cX8_fittingOf 82 = .ok (.iinc 4 1, 3) := by decide +kernel
theorem dX8_fittingOf_85 : decode cX8_fittingOf 85 = .ok (.goto (-80), 3) := by decide +kernel
theorem dX8_fittingOf_88 : decode cX8_fittingOf 88 = .ok (.iload_n 3, 1) := by decide +kernel
theorem dX8_fittingOf_89 : decode cX8_fittingOf 89 = .ok (.ireturn, 1) := by decide +kernel
theorem dX8_fitting_0 : decode cX8_fitting 0 = .ok (.iload_n 1, 1) := by decide +kernel
theorem dX8_fitting_1 : decode cX8_fitting 1 = .ok (.ifCond .ne 11, 3) := by decide +kernel
theorem dX8_fitting_4 : decode cX8_fitting 4 = .ok (.aload_n 0, 1) := by decide +kernel
theorem dX8_fitting_5 : decode cX8_fitting 5 = .ok (.iload_n 2, 1) := by decide +kernel
theorem dX8_fitting_6 : decode cX8_fitting 6 = .ok (.invokevirtual 129, 3) := by decide +kernel
theorem dX8_fitting_9 : decode cX8_fitting 9 = .ok (.goto 21, 3) := by decide +kernel
theorem dX8_fitting_12 : decode cX8_fitting 12 = .ok (.iload_n 1, 1) := by decide +kernel
theorem dX8_fitting_13 : decode cX8_fitting 13 = .ok (.iconst 1, 1) := by decide +kernel
theorem dX8_fitting_14 : decode cX8_fitting 14 = .ok (.if_icmp .ne 15, 3) := by decide +kernel
theorem dX8_fitting_17 : decode cX8_fitting 17 = .ok (.aload_n 0, 1) := by decide +kernel
theorem dX8_fitting_18 : decode cX8_fitting 18 = .ok (.iload_n 2, 1) := by decide +kernel
theorem dX8_fitting_19 : decode cX8_fitting 19 = .ok (.invokevirtual 126, 3) := by decide +kernel
theorem dX8_fitting_22 : decode cX8_fitting 22 = .ok (.ifCond .eq 7, 3) := by decide +kernel
theorem dX8_fitting_25 : decode cX8_fitting 25 = .ok (.iconst 1, 1) := by decide +kernel
theorem dX8_fitting_26 : decode cX8_fitting 26 = .ok (.goto 4, 3) := by decide +kernel
theorem dX8_fitting_29 : decode cX8_fitting 29 = .ok (.iconst 0, 1) := by decide +kernel
theorem dX8_fitting_30 : decode cX8_fitting 30 = .ok (.istore_n 3, 1) := by decide +kernel
theorem dX8_fitting_31 : decode cX8_fitting 31 = .ok (.iload_n 3, 1) := by decide +kernel
theorem dX8_fitting_32 : decode cX8_fitting 32 = .ok (.ifCond .eq 12, 3) := by decide +kernel
theorem dX8_fitting_35 : decode cX8_fitting 35 = .ok (.aload_n 0, 1) := by decide +kernel
theorem dX8_fitting_36 : decode cX8_fitting 36 = .ok (.iload_n 1, 1) := by decide +kernel
theorem dX8_fitting_37 : decode cX8_fitting 37 = .ok (.iload_n 2, 1) := by decide +kernel
theorem dX8_fitting_38 : decode cX8_fitting 38 = .ok (.invokevirtual 213, 3) := by decide +kernel
theorem dX8_fitting_41 : decode cX8_fitting 41 = .ok (.goto 5, 3) := by decide +kernel
theorem dX8_fitting_44 : decode cX8_fitting 44 = .ok (.bipush (-2), 2) := by decide +kernel
theorem dX8_fitting_46 : decode cX8_fitting 46 = .ok (.ireturn, 1) := by decide +kernel
theorem dX8_laysMatch_0 : decode cX8_laysMatch 0 = .ok (.aload_n 0, 1) := by decide +kernel
theorem dX8_laysMatch_1 : decode cX8_laysMatch 1 = .ok (.invokevirtual 123, 3) := by decide +kernel
theorem dX8_laysMatch_4 : decode cX8_laysMatch 4 = .ok (.aload_n 0, 1) := by decide +kernel
theorem dX8_laysMatch_5 : decode cX8_laysMatch 5 = .ok (.getfield 106, 3) := by decide +kernel
theorem dX8_laysMatch_8 : decode cX8_laysMatch 8 = .ok (.iconst 1, 1) := by decide +kernel
theorem dX8_laysMatch_9 : decode cX8_laysMatch 9 = .ok (.isub, 1) := by decide +kernel
theorem dX8_laysMatch_10 : decode cX8_laysMatch 10 = .ok (.istore_n 1, 1) := by decide +kernel
theorem dX8_laysMatch_11 : decode cX8_laysMatch 11 = .ok (.iload_n 1, 1) := by decide +kernel
theorem dX8_laysMatch_12 : decode cX8_laysMatch 12 = .ok (.ifCond .lt 162, 3) := by decide +kernel
theorem dX8_laysMatch_15 : decode cX8_laysMatch 15 = .ok (.iconst 0, 1) := by decide +kernel
theorem dX8_laysMatch_16 : decode cX8_laysMatch 16 = .ok (.istore_n 2, 1) := by decide +kernel
theorem dX8_laysMatch_17 : decode cX8_laysMatch 17 = .ok (.iload_n 2, 1) := by decide +kernel
theorem dX8_laysMatch_18 : decode cX8_laysMatch 18 = .ok (.sipush 256, 3) := by decide +kernel
theorem dX8_laysMatch_21 : decode cX8_laysMatch 21 = .ok (.if_icmp .ge 147, 3) := by decide +kernel
theorem dX8_laysMatch_24 : decode cX8_laysMatch 24 = .ok (.iload_n 1, 1) := by decide +kernel
theorem dX8_laysMatch_25 : decode cX8_laysMatch 25 = .ok (.aload_n 0, 1) := by decide +kernel
theorem dX8_laysMatch_26 : decode cX8_laysMatch 26 = .ok (.getfield 106, 3) := by decide +kernel
theorem dX8_laysMatch_29 : decode cX8_laysMatch 29 = .ok (.iconst 1, 1) := by decide +kernel
theorem dX8_laysMatch_30 : decode cX8_laysMatch 30 = .ok (.isub, 1) := by decide +kernel
theorem dX8_laysMatch_31 : decode cX8_laysMatch 31 = .ok (.if_icmp .ne 7, 3) := by decide +kernel
theorem dX8_laysMatch_34 : decode cX8_laysMatch 34 = .ok (.iconst 0, 1) := by decide +kernel
theorem dX8_laysMatch_35 : decode cX8_laysMatch 35 = .ok (.goto 17, 3) := by decide +kernel
theorem dX8_laysMatch_38 : decode cX8_laysMatch 38 = .ok (.aload_n 0, 1) := by decide +kernel
theorem dX8_laysMatch_39 : decode cX8_laysMatch 39 = .ok (.getfield 52, 3) := by decide +kernel
theorem dX8_laysMatch_42 : decode cX8_laysMatch 42 = .ok (.sipush 256, 3) := by decide +kernel
theorem dX8_laysMatch_45 : decode cX8_laysMatch 45 = .ok (.iload_n 1, 1) := by decide +kernel
theorem dX8_laysMatch_46 : decode cX8_laysMatch 46 = .ok (.iconst 1, 1) := by decide +kernel
theorem dX8_laysMatch_47 : decode cX8_laysMatch 47 = .ok (.iadd, 1) := by decide +kernel
theorem dX8_laysMatch_48 : decode cX8_laysMatch 48 = .ok (.imul, 1) := by decide +kernel
theorem dX8_laysMatch_49 : decode cX8_laysMatch 49 = .ok (.iload_n 2, 1) := by decide +kernel
theorem dX8_laysMatch_50 : decode cX8_laysMatch 50 = .ok (.iadd, 1) := by decide +kernel
theorem dX8_laysMatch_51 : decode cX8_laysMatch 51 = .ok (.iaload, 1) := by decide +kernel
theorem dX8_laysMatch_52 : decode cX8_laysMatch 52 = .ok (.istore_n 3, 1) := by decide +kernel
theorem dX8_laysMatch_53 : decode cX8_laysMatch 53 = .ok (.iconst 0, 1) := by decide +kernel
theorem dX8_laysMatch_54 : decode cX8_laysMatch 54 = .ok (.istore 4, 2) := by decide +kernel
theorem dX8_laysMatch_56 : decode cX8_laysMatch 56 = .ok (.iload 4, 2) := by decide +kernel
theorem dX8_laysMatch_58 : decode cX8_laysMatch 58 = .ok (.aload_n 0, 1) := by decide +kernel
theorem dX8_laysMatch_59 : decode cX8_laysMatch 59 = .ok (.getfield 109, 3) := by decide +kernel
theorem dX8_laysMatch_62 : decode cX8_laysMatch 62 = .ok (.if_icmp .ge 87, 3) := by decide +kernel
theorem dX8_laysMatch_65 : decode cX8_laysMatch 65 = .ok (.iload_n 2, 1) := by decide +kernel
theorem dX8_laysMatch_66 : decode cX8_laysMatch 66 = .ok (.iload 4, 2) := by decide +kernel
theorem dX8_laysMatch_68 : decode cX8_laysMatch 68 = .ok (.invokestatic 204, 3) := by decide +kernel
theorem dX8_laysMatch_71 : decode cX8_laysMatch 71 = .ok (.ifCond .ne 72, 3) := by decide +kernel
theorem dX8_laysMatch_74 : decode cX8_laysMatch 74 = .ok (.aload_n 0, 1) := by decide +kernel
theorem dX8_laysMatch_75 : decode cX8_laysMatch 75 = .ok (.iload 4, 2) := by decide +kernel
theorem dX8_laysMatch_77 : decode cX8_laysMatch 77 = .ok (.iload_n 1, 1) := by decide +kernel
theorem dX8_laysMatch_78 : decode cX8_laysMatch 78 = .ok (.invokevirtual 160, 3) := by decide +kernel
theorem dX8_laysMatch_81 : decode cX8_laysMatch 81 = .ok (.ifCond .eq 62, 3) := by decide +kernel
theorem dX8_laysMatch_84 : decode cX8_laysMatch 84 = .ok (.sipush 1000, 3) := by decide +kernel
theorem dX8_laysMatch_87 : decode cX8_laysMatch 87 = .ok (.aload_n 0, 1) := by decide +kernel
theorem dX8_laysMatch_88 : decode cX8_laysMatch 88 = .ok (.getfield 19, 3) := by decide +kernel
theorem dX8_laysMatch_91 : decode cX8_laysMatch 91 = .ok (.iload_n 1, 1) := by decide +kernel
theorem dX8_laysMatch_92 : decode cX8_laysMatch 92 = .ok (.iaload, 1) := by decide +kernel
theorem dX8_laysMatch_93 : decode cX8_laysMatch 93 = .ok (.iadd, 1) := by decide +kernel
theorem dX8_laysMatch_94 : decode cX8_laysMatch 94 = .ok (.iload_n 1, 1) := by decide +kernel
theorem dX8_laysMatch_95 : decode cX8_laysMatch 95 = .ok (.aload_n 0, 1) := by decide +kernel
theorem dX8_laysMatch_96 : decode cX8_laysMatch 96 = .ok (.getfield 106, 3) := by decide +kernel
theorem dX8_laysMatch_99 : decode cX8_laysMatch 99 = .ok (.iconst 1, 1) := by decide +kernel
theorem dX8_laysMatch_100 : decode cX8_laysMatch 100 = .ok (.isub, 1) := by decide +kernel
theorem dX8_laysMatch_101 : decode cX8_laysMatch 101 = .ok (.if_icmp .ne 7, 3) := by decide +kernel
theorem dX8_laysMatch_104 : decode cX8_laysMatch 104 = .ok (.iconst 0, 1) := by decide +kernel
theorem dX8_laysMatch_105 : decode cX8_laysMatch 105 = .ok (.goto 22, 3) := by decide +kernel
theorem dX8_laysMatch_108 : decode cX8_laysMatch 108 = .ok (.aload_n 0, 1) := by decide +kernel
theorem dX8_laysMatch_109 : decode cX8_laysMatch 109 = .ok (.getfield 52, 3) := by decide +kernel
theorem dX8_laysMatch_112 : decode cX8_laysMatch 112 = .ok (.sipush 256, 3) := by decide +kernel
theorem dX8_laysMatch_115 : decode cX8_laysMatch 115 = .ok (.iload_n 1, 1) := by decide +kernel
theorem dX8_laysMatch_116 : decode cX8_laysMatch 116 = .ok (.iconst 1, 1) := by decide +kernel
theorem dX8_laysMatch_117 : decode cX8_laysMatch 117 = .ok (.iadd, 1) := by decide +kernel
theorem dX8_laysMatch_118 : decode cX8_laysMatch 118 = .ok (.imul, 1) := by decide +kernel
theorem dX8_laysMatch_119 : decode cX8_laysMatch 119 = .ok (.iload_n 2, 1) := by decide +kernel
theorem dX8_laysMatch_120 : decode cX8_laysMatch 120 = .ok (.iconst 1, 1) := by decide +kernel
theorem dX8_laysMatch_121 : decode cX8_laysMatch 121 = .ok (.iload 4, 2) := by decide +kernel
theorem dX8_laysMatch_123 : decode cX8_laysMatch 123 = .ok (.ishl, 1) := by decide +kernel
theorem dX8_laysMatch_124 : decode cX8_laysMatch 124 = .ok (.ior, 1) := by decide +kernel
theorem dX8_laysMatch_125 : decode cX8_laysMatch 125 = .ok (.iadd, 1) := by decide +kernel
theorem dX8_laysMatch_126 : decode cX8_laysMatch 126 = .ok (.iaload, 1) := by decide +kernel
theorem dX8_laysMatch_127 : decode cX8_laysMatch 127 = .ok (.iadd, 1) := by decide +kernel
theorem dX8_laysMatch_128 : decode cX8_laysMatch 128 = .ok (.istore 5, 2) := by decide +kernel
theorem dX8_laysMatch_130 : decode cX8_laysMatch 130 = .ok (.iload 5, 2) := by decide +kernel
theorem dX8_laysMatch_132 : decode cX8_laysMatch 132 = .ok (.iload_n 3, 1) := by decide +kernel
theorem dX8_laysMatch_133 : decode cX8_laysMatch 133 = .ok (.if_icmp .le 8, 3) := by decide +kernel
theorem dX8_laysMatch_136 : decode cX8_laysMatch 136 = .ok (.iload 5, 2) := by decide +kernel
theorem dX8_laysMatch_138 : decode cX8_laysMatch 138 = .ok (.goto 4, 3) := by decide +kernel
theorem dX8_laysMatch_141 : decode cX8_laysMatch 141 = .ok (.iload_n 3, 1) := by decide +kernel
theorem dX8_laysMatch_142 : decode cX8_laysMatch 142 = .ok (.istore_n 3, 1) := by decide +kernel
theorem dX8_laysMatch_143 : decode cX8_laysMatch 143 = .ok (.iinc 4 1, 3) := by decide +kernel
theorem dX8_laysMatch_146 : decode cX8_laysMatch 146 = .ok (.goto (-90), 3) := by decide +kernel
theorem dX8_laysMatch_149 : decode cX8_laysMatch 149 = .ok (.aload_n 0, 1) := by decide +kernel
theorem dX8_laysMatch_150 : decode cX8_laysMatch 150 = .ok (.getfield 52, 3) := by decide +kernel
theorem dX8_laysMatch_153 : decode cX8_laysMatch 153 = .ok (.sipush 256, 3) := by decide +kernel
theorem dX8_laysMatch_156 : decode cX8_laysMatch 156 = .ok (.iload_n 1, 1) := by decide +kernel
theorem dX8_laysMatch_157 : decode cX8_laysMatch 157 = .ok (.imul, 1) := by decide +kernel
theorem dX8_laysMatch_158 : decode cX8_laysMatch 158 = .ok (.iload_n 2, 1) := by decide +kernel
theorem dX8_laysMatch_159 : decode cX8_laysMatch 159 = .ok (.iadd, 1) := by decide +kernel
theorem dX8_laysMatch_160 : decode cX8_laysMatch 160 = .ok (.iload_n 3, 1) := by decide +kernel
theorem dX8_laysMatch_161 : decode cX8_laysMatch 161 = .ok (.iastore, 1) := by decide +kernel
theorem dX8_laysMatch_162 : decode cX8_laysMatch 162 = .ok (.iinc 2 1, 3) := by decide +kernel
theorem dX8_laysMatch_165 : decode cX8_laysMatch 165 = .ok (.goto (-148), 3) := by decide +kernel
theorem dX8_laysMatch_168 : decode cX8_laysMatch 168 = .ok (.iinc 1 (-1), 3) := by decide +kernel
theorem dX8_laysMatch_171 : decode cX8_laysMatch 171 = .ok (.goto (-160), 3) := by decide +kernel
theorem dX8_laysMatch_174 : decode cX8_laysMatch 174 = .ok (.iconst 0, 1) := by decide +kernel
theorem dX8_laysMatch_175 : decode cX8_laysMatch 175 = .ok (.istore_n 1, 1) := by decide +kernel
theorem dX8_laysMatch_176 : decode cX8_laysMatch 176 = .ok (.iconst 0, 1) := by decide +kernel
theorem dX8_laysMatch_177 : decode cX8_laysMatch 177 = .ok (.istore_n 2, 1) := by decide +kernel
theorem dX8_laysMatch_178 : decode cX8_laysMatch 178 = .ok (.iload_n 2, 1) := by decide +kernel
theorem dX8_laysMatch_179 : decode cX8_laysMatch 179 = .ok (.bipush 8, 2) := by decide +kernel
theorem dX8_laysMatch_181 : decode cX8_laysMatch 181 = .ok (.if_icmp .ge 161, 3) := by decide +kernel
theorem dX8_laysMatch_184 : decode cX8_laysMatch 184 = .ok (.aload_n 0, 1) := by decide +kernel
theorem dX8_laysMatch_185 : decode cX8_laysMatch 185 = .ok (.getfield 55, 3) := by decide +kernel
theorem dX8_laysMatch_188 : decode cX8_laysMatch 188 = .ok (.iload_n 2, 1) := by decide +kernel
theorem dX8_laysMatch_189 : decode cX8_laysMatch 189 = .ok (.iconst (-1), 1) := by decide +kernel
theorem dX8_laysMatch_190 : decode cX8_laysMatch 190 = .ok (.iastore, 1) := by decide +kernel
theorem dX8_laysMatch_191 : decode cX8_laysMatch 191 = .ok (.aload_n 0, 1) := by decide +kernel
theorem dX8_laysMatch_192 : decode cX8_laysMatch 192 = .ok (.getfield 109, 3) := by decide +kernel
theorem dX8_laysMatch_195 : decode cX8_laysMatch 195 = .ok (.iconst 1, 1) := by decide +kernel
theorem dX8_laysMatch_196 : decode cX8_laysMatch 196 = .ok (.isub, 1) := by decide +kernel
theorem dX8_laysMatch_197 : decode cX8_laysMatch 197 = .ok (.istore_n 3, 1) := by decide +kernel
theorem dX8_laysMatch_198 : decode cX8_laysMatch 198 = .ok (.iload_n 3, 1) := by decide +kernel
theorem dX8_laysMatch_199 : decode cX8_laysMatch 199 = .ok (.ifCond .lt 112, 3) := by decide +kernel
theorem dX8_laysMatch_202 : decode cX8_laysMatch 202 = .ok (.iload_n 2, 1) := by decide +kernel
theorem dX8_laysMatch_203 : decode cX8_laysMatch 203 = .ok (.aload_n 0, 1) := by decide +kernel
theorem dX8_laysMatch_204 : decode cX8_laysMatch 204 = .ok (.getfield 106, 3) := by decide +kernel
theorem dX8_laysMatch_207 : decode cX8_laysMatch 207 = .ok (.if_icmp .ge 104, 3) := by decide +kernel
theorem dX8_laysMatch_210 : decode cX8_laysMatch 210 = .ok (.iload_n 1, 1) := by decide +kernel
theorem dX8_laysMatch_211 : decode cX8_laysMatch 211 = .ok (.iload_n 3, 1) := by decide +kernel
theorem dX8_laysMatch_212 : decode cX8_laysMatch 212 = .ok (.invokestatic 204, 3) := by decide +kernel
theorem dX8_laysMatch_215 : decode cX8_laysMatch 215 = .ok (.ifCond .ne 90, 3) := by decide +kernel
theorem dX8_laysMatch_218 : decode cX8_laysMatch 218 = .ok (.aload_n 0, 1) := by decide +kernel
theorem dX8_laysMatch_219 : decode cX8_laysMatch 219 = .ok (.iload_n 3, 1) := by decide +kernel
theorem dX8_laysMatch_220 : decode cX8_laysMatch 220 = .ok (.iload_n 2, 1) := by decide +kernel
theorem dX8_laysMatch_221 : decode cX8_laysMatch 221 = .ok (.invokevirtual 160, 3) := by decide +kernel
theorem dX8_laysMatch_224 : decode cX8_laysMatch 224 = .ok (.ifCond .eq 81, 3) := by decide +kernel
theorem dX8_laysMatch_227 : decode cX8_laysMatch 227 = .ok (.sipush 1000, 3) := by decide +kernel
theorem dX8_laysMatch_230 : decode cX8_laysMatch 230 = .ok (.aload_n 0, 1) := by decide +kernel
theorem dX8_laysMatch_231 : decode cX8_laysMatch 231 = .ok (.getfield 19, 3) := by decide +kernel
theorem dX8_laysMatch_234 : decode cX8_laysMatch 234 = .ok (.iload_n 2, 1) := by decide +kernel
theorem dX8_laysMatch_235 : decode cX8_laysMatch 235 = .ok (.iaload, 1) := by decide +kernel
theorem dX8_laysMatch_236 : decode cX8_laysMatch 236 = .ok (.iadd, 1) := by decide +kernel
theorem dX8_laysMatch_237 : decode cX8_laysMatch 237 = .ok (.iload_n 2, 1) := by decide +kernel
theorem dX8_laysMatch_238 : decode cX8_laysMatch 238 = .ok (.aload_n 0, 1) := by decide +kernel
theorem dX8_laysMatch_239 : decode cX8_laysMatch 239 = .ok (.getfield 106, 3) := by decide +kernel
theorem dX8_laysMatch_242 : decode cX8_laysMatch 242 = .ok (.iconst 1, 1) := by decide +kernel
theorem dX8_laysMatch_243 : decode cX8_laysMatch 243 = .ok (.isub, 1) := by decide +kernel
theorem dX8_laysMatch_244 : decode cX8_laysMatch 244 = .ok (.if_icmp .ne 7, 3) := by decide +kernel
theorem dX8_laysMatch_247 : decode cX8_laysMatch 247 = .ok (.iconst 0, 1) := by decide +kernel
theorem dX8_laysMatch_248 : decode cX8_laysMatch 248 = .ok (.goto 21, 3) := by decide +kernel
theorem dX8_laysMatch_251 : decode cX8_laysMatch 251 = .ok (.aload_n 0, 1) := by decide +kernel
theorem dX8_laysMatch_252 : decode cX8_laysMatch 252 = .ok (.getfield 52, 3) := by decide +kernel
theorem dX8_laysMatch_255 : decode cX8_laysMatch 255 = .ok (.sipush 256, 3) := by decide +kernel
theorem dX8_laysMatch_258 : decode cX8_laysMatch 258 = .ok (.iload_n 2, 1) := by decide +kernel
theorem dX8_laysMatch_259 : decode cX8_laysMatch 259 = .ok (.iconst 1, 1) := by decide +kernel
theorem dX8_laysMatch_260 : decode cX8_laysMatch 260 = .ok (.iadd, 1) := by decide +kernel
theorem dX8_laysMatch_261 : decode cX8_laysMatch 261 = .ok (.imul, 1) := by decide +kernel
theorem dX8_laysMatch_262 : decode cX8_laysMatch 262 = .ok (.iload_n 1, 1) := by decide +kernel
theorem dX8_laysMatch_263 : decode cX8_laysMatch 263 = .ok (.iconst 1, 1) := by decide +kernel
theorem dX8_laysMatch_264 : decode cX8_laysMatch 264 = .ok (.iload_n 3, 1) := by decide +kernel
theorem dX8_laysMatch_265 : decode cX8_laysMatch 265 = .ok (.ishl, 1) := by decide +kernel
theorem dX8_laysMatch_266 : decode cX8_laysMatch 266 = .ok (.ior, 1) := by decide +kernel
theorem dX8_laysMatch_267 : decode cX8_laysMatch 267 = .ok (.iadd, 1) := by decide +kernel
theorem dX8_laysMatch_268 : decode cX8_laysMatch 268 = .ok (.iaload, 1) := by decide +kernel
theorem dX8_laysMatch_269 : decode cX8_laysMatch 269 = .ok (.iadd, 1) := by decide +kernel
theorem dX8_laysMatch_270 : decode cX8_laysMatch 270 = .ok (.istore 4, 2) := by decide +kernel
theorem dX8_laysMatch_272 : decode cX8_laysMatch 272 = .ok (.aload_n 0, 1) := by decide +kernel
theorem dX8_laysMatch_273 : decode cX8_laysMatch 273 = .ok (.getfield 55, 3) := by decide +kernel
theorem dX8_laysMatch_276 : decode cX8_laysMatch 276 = .ok (.iload_n 2, 1) := by decide +kernel
theorem dX8_laysMatch_277 : decode cX8_laysMatch 277 = .ok (.iload 4, 2) := by decide +kernel
theorem dX8_laysMatch_279 : decode cX8_laysMatch 279 = .ok (.aload_n 0, 1) := by decide +kernel
theorem dX8_laysMatch_280 : decode cX8_laysMatch 280 = .ok (.getfield 52, 3) := by decide +kernel
theorem dX8_laysMatch_283 : decode cX8_laysMatch 283 = .ok (.sipush 256, 3) := by decide +kernel
theorem dX8_laysMatch_286 : decode cX8_laysMatch 286 = .ok (.iload_n 2, 1) := by decide +kernel
theorem dX8_laysMatch_287 : decode cX8_laysMatch 287 = .ok (.imul, 1) := by decide +kernel
theorem dX8_laysMatch_288 : decode cX8_laysMatch 288 = .ok (.iload_n 1, 1) := by decide +kernel
theorem dX8_laysMatch_289 : decode cX8_laysMatch 289 = .ok (.iadd, 1) := by decide +kernel
theorem dX8_laysMatch_290 : decode cX8_laysMatch 290 = .ok (.iaload, 1) := by decide +kernel
theorem dX8_laysMatch_291 : decode cX8_laysMatch 291 = .ok (.if_icmp .ne 7, 3) := by decide +kernel
theorem dX8_laysMatch_294 : decode cX8_laysMatch 294 = .ok (.iload_n 3, 1) := by decide +kernel
theorem dX8_laysMatch_295 : decode cX8_laysMatch 295 = .ok (.goto 9, 3) := by decide +kernel
theorem dX8_laysMatch_298 : decode cX8_laysMatch 298 = .ok (.aload_n 0, 1) := by decide +kernel
theorem dX8_laysMatch_299 : decode cX8_laysMatch 299 = .ok (.getfield 55, 3) := by decide +kernel
theorem dX8_laysMatch_302 : decode cX8_laysMatch 302 = .ok (.iload_n 2, 1) := by decide +kernel
theorem dX8_laysMatch_303 : decode cX8_laysMatch 303 = .ok (.iaload, 1) := by decide +kernel
theorem dX8_laysMatch_304 : decode cX8_laysMatch 304 = .ok (.iastore, 1) := by decide +kernel
theorem dX8_laysMatch_305 : decode cX8_laysMatch 305 = .ok (.iinc 3 (-1), 3) := by decide +kernel
theorem dX8_laysMatch_308 : decode cX8_laysMatch 308 = .ok (.goto (-110), 3) := by decide +kernel
theorem dX8_laysMatch_311 : decode cX8_laysMatch 311 = .ok (.iload_n 1, 1) := by decide +kernel
theorem dX8_laysMatch_312 : decode cX8_laysMatch 312 = .ok (.aload_n 0, 1) := by decide +kernel
theorem dX8_laysMatch_313 : decode cX8_laysMatch 313 = .ok (.getfield 55, 3) := by decide +kernel
theorem dX8_laysMatch_316 : decode cX8_laysMatch 316 = .ok (.iload_n 2, 1) := by decide +kernel
theorem dX8_laysMatch_317 : decode cX8_laysMatch 317 = .ok (.iaload, 1) := by decide +kernel
theorem dX8_laysMatch_318 : decode cX8_laysMatch 318 = .ok (.iconst (-1), 1) := by decide +kernel
theorem dX8_laysMatch_319 : decode cX8_laysMatch 319 = .ok (.if_icmp .ne 7, 3) := by decide +kernel
theorem dX8_laysMatch_322 : decode cX8_laysMatch 322 = .ok (.iconst 0, 1) := by decide +kernel
theorem dX8_laysMatch_323 : decode cX8_laysMatch 323 = .ok (.goto 11, 3) := by decide +kernel
theorem dX8_laysMatch_326 : decode cX8_laysMatch 326 = .ok (.iconst 1, 1) := by decide +kernel
theorem dX8_laysMatch_327 : decode cX8_laysMatch 327 = .ok (.aload_n 0, 1) := by decide +kernel
theorem dX8_laysMatch_328 : decode cX8_laysMatch 328 = .ok (.getfield 55, 3) := by decide +kernel
theorem dX8_laysMatch_331 : decode cX8_laysMatch 331 = .ok (.iload_n 2, 1) := by decide +kernel
theorem dX8_laysMatch_332 : decode cX8_laysMatch 332 = .ok (.iaload, 1) := by decide +kernel
theorem dX8_laysMatch_333 : decode cX8_laysMatch 333 = .ok (.ishl, 1) := by decide +kernel
theorem dX8_laysMatch_334 : decode cX8_laysMatch 334 = .ok (.ior, 1) := by decide +kernel
theorem dX8_laysMatch_335 : decode cX8_laysMatch 335 = .ok (.istore_n 1, 1) := by decide +kernel
theorem dX8_laysMatch_336 : decode cX8_laysMatch 336 = .ok (.iinc 2 1, 3) := by decide +kernel
theorem dX8_laysMatch_339 : decode cX8_laysMatch 339 = .ok (.goto (-161), 3) := by decide +kernel
theorem dX8_laysMatch_342 : decode cX8_laysMatch 342 = .ok (.return_, 1) := by decide +kernel
theorem dX8_matchAt_0 : decode cX8_matchAt 0 = .ok (.aload_n 0, 1) := by decide +kernel
theorem dX8_matchAt_1 : decode cX8_matchAt 1 = .ok (.invokevirtual 216, 3) := by decide +kernel
theorem dX8_matchAt_4 : decode cX8_matchAt 4 = .ok (.aload_n 0, 1) := by decide +kernel
theorem dX8_matchAt_5 : decode cX8_matchAt 5 = .ok (.getfield 106, 3) := by decide +kernel
theorem dX8_matchAt_8 : decode cX8_matchAt 8 = .ok (.ifCond .ne 7, 3) := by decide +kernel
theorem dX8_matchAt_11 : decode cX8_matchAt 11 = .ok (.iconst 0, 1) := by decide +kernel
theorem dX8_matchAt_12 : decode cX8_matchAt 12 = .ok (.goto 9, 3) := by decide +kernel
theorem dX8_matchAt_15 : decode cX8_matchAt 15 = .ok (.aload_n 0, 1) := by decide +kernel
theorem dX8_matchAt_16 : decode cX8_matchAt 16 = .ok (.getfield 52, 3) := by decide +kernel
theorem dX8_matchAt_19 : decode cX8_matchAt 19 = .ok (.iconst 0, 1) := by decide +kernel
theorem dX8_matchAt_20 : decode cX8_matchAt 20 = .ok (.iaload, 1) := by decide +kernel
theorem dX8_matchAt_21 : decode cX8_matchAt 21 = .ok (.istore_n 2, 1) := by decide +kernel
theorem dX8_matchAt_22 : decode cX8_matchAt 22 = .ok (.iload_n 1, 1) := by decide +kernel
theorem dX8_matchAt_23 : decode cX8_matchAt 23 = .ok (.bipush (-2), 2) := by decide +kernel
theorem dX8_matchAt_25 : decode cX8_matchAt 25 = .ok (.if_icmp .ne 11, 3) := by decide +kernel
theorem dX8_matchAt_28 : decode cX8_matchAt 28 = .ok (.iload_n 2, 1) := by decide +kernel
theorem dX8_matchAt_29 : decode cX8_matchAt 29 = .ok (.sipush 1000, 3) := by decide +kernel
theorem dX8_matchAt_32 : decode cX8_matchAt 32 = .ok (.idiv, 1) := by decide +kernel
theorem dX8_matchAt_33 : decode cX8_matchAt 33 = .ok (.goto 22, 3) := by decide +kernel
theorem dX8_matchAt_36 : decode cX8_matchAt 36 = .ok (.iload_n 1, 1) := by decide +kernel
theorem dX8_matchAt_37 : decode cX8_matchAt 37 = .ok (.iconst (-1), 1) := by decide +kernel
theorem dX8_matchAt_38 : decode cX8_matchAt 38 = .ok (.if_icmp .ne 11, 3) := by decide +kernel
theorem dX8_matchAt_41 : decode cX8_matchAt 41 = .ok (.iload_n 2, 1) := by decide +kernel
theorem dX8_matchAt_42 : decode cX8_matchAt 42 = .ok (.sipush 1000, 3) := by decide +kernel
theorem dX8_matchAt_45 : decode cX8_matchAt 45 = .ok (.irem, 1) := by decide +kernel
theorem dX8_matchAt_46 : decode cX8_matchAt 46 = .ok (.goto 9, 3) := by decide +kernel
theorem dX8_matchAt_49 : decode cX8_matchAt 49 = .ok (.aload_n 0, 1) := by decide +kernel
theorem dX8_matchAt_50 : decode cX8_matchAt 50 = .ok (.getfield 55, 3) := by decide +kernel
theorem dX8_matchAt_53 : decode cX8_matchAt 53 = .ok (.iload_n 1, 1) := by decide +kernel
theorem dX8_matchAt_54 : decode cX8_matchAt 54 = .ok (.iaload, 1) := by decide +kernel
theorem dX8_matchAt_55 : decode cX8_matchAt 55 = .ok (.ireturn, 1) := by decide +kernel
theorem dX8_match_0 : decode cX8_match 0 = .ok (.iload_n 1, 1) := by decide +kernel
theorem dX8_match_1 : decode cX8_match 1 = .ok (.bipush (-2), 2) := by decide +kernel
theorem dX8_match_3 : decode cX8_match 3 = .ok (.bipush 7, 2) := by decide +kernel
theorem dX8_match_5 : decode cX8_match 5 = .ok (.invokestatic 98, 3) := by decide +kernel
theorem dX8_match_8 : decode cX8_match 8 = .ok (.ifCond .eq 11, 3) := by decide +kernel
theorem dX8_match_11 : decode cX8_match 11 = .ok (.aload_n 0, 1) := by decide +kernel
theorem dX8_match_12 : decode cX8_match 12 = .ok (.iload_n 1, 1) := by decide +kernel
theorem dX8_match_13 : decode cX8_match 13 = .ok (.invokevirtual 219, 3) := by decide +kernel
theorem dX8_match_16 : decode cX8_match 16 = .ok (.goto 5, 3) := by decide +kernel
theorem dX8_match_19 : decode cX8_match 19 = .ok (.bipush (-2), 2) := by decide +kernel
theorem dX8_match_21 : decode cX8_match 21 = .ok (.ireturn, 1) := by decide +kernel
theorem dX8_askOf_0 : decode cX8_askOf 0 = .ok (.iconst (-1), 1) := by decide +kernel
theorem dX8_askOf_1 : decode cX8_askOf 1 = .ok (.istore_n 2, 1) := by decide +kernel
theorem dX8_askOf_2 : decode cX8_askOf 2 = .ok (.iconst 0, 1) := by decide +kernel
theorem dX8_askOf_3 : decode cX8_askOf 3 = .ok (.istore_n 3, 1) := by decide +kernel
theorem dX8_askOf_4 : decode cX8_askOf 4 = .ok (.iconst 0, 1) := by decide +kernel
theorem dX8_askOf_5 : decode cX8_askOf 5 = .ok (.istore 4, 2) := by decide +kernel
theorem dX8_askOf_7 : decode cX8_askOf 7 = .ok (.iload 4, 2) := by decide +kernel
theorem dX8_askOf_9 : decode cX8_askOf 9 = .ok (.iconst 4, 1) := by decide +kernel
theorem dX8_askOf_10 : decode cX8_askOf 10 = .ok (.if_icmp .ge 175, 3) := by decide +kernel
theorem dX8_askOf_13 : decode cX8_askOf 13 = .ok (.iconst 0, 1) := by decide +kernel
theorem dX8_askOf_14 : decode cX8_askOf 14 = .ok (.istore 5, 2) := by decide +kernel
theorem dX8_askOf_16 : decode cX8_askOf 16 = .ok (.iconst 0, 1) := by decide +kernel
theorem dX8_askOf_17 : decode cX8_askOf 17 = .ok (.istore 6, 2) := by decide +kernel
theorem dX8_askOf_19 : decode cX8_askOf 19 = .ok (.iconst 0, 1) := by decide +kernel
theorem dX8_askOf_20 : decode cX8_askOf 20 = .ok (.istore 7, 2) := by decide +kernel
theorem dX8_askOf_22 : decode cX8_askOf 22 = .ok (.iload 7, 2) := by decide +kernel
theorem dX8_askOf_24 : decode cX8_askOf 24 = .ok (.aload_n 0, 1) := by decide +kernel
theorem dX8_askOf_25 : decode cX8_askOf 25 = .ok (.getfield 106, 3) := by decide +kernel
theorem dX8_askOf_28 : decode cX8_askOf 28 = .ok (.if_icmp .ge 79, 3) := by decide +kernel
theorem dX8_askOf_31 : decode cX8_askOf 31 = .ok (.iload 5, 2) := by decide +kernel
theorem dX8_askOf_33 : decode cX8_askOf 33 = .ok (.aload_n 0, 1) := by decide +kernel
theorem dX8_askOf_34 : decode cX8_askOf 34 = .ok (.iload_n 1, 1) := by decide +kernel
theorem dX8_askOf_35 : decode cX8_askOf 35 = .ok (.iload 7, 2) := by decide +kernel
theorem dX8_askOf_37 : decode cX8_askOf 37 = .ok (.invokevirtual 160, 3) := by decide +kernel
theorem dX8_askOf_40 : decode cX8_askOf 40 = .ok (.ifCond .eq 22, 3) := by decide +kernel
theorem dX8_askOf_43 : decode cX8_askOf 43 = .ok (.aload_n 0, 1) := by decide +kernel
theorem dX8_askOf_44 : decode cX8_askOf 44 = .ok (.getfield 16, 3) := by decide +kernel
theorem dX8_askOf_47 : decode cX8_askOf 47 = .ok (.iload 7, 2) := by decide +kernel
theorem dX8_askOf_49 : decode cX8_askOf 49 = .ok (.iaload, 1) := by decide +kernel
theorem dX8_askOf_50 : decode cX8_askOf 50 = .ok (.iload 4, 2) := by decide +kernel
theorem dX8_askOf_52 : decode cX8_askOf 52 = .ok (.invokestatic 204, 3) := by decide +kernel
theorem dX8_askOf_55 : decode cX8_askOf 55 = .ok (.ifCond .ne 7, 3) := by decide +kernel
theorem dX8_askOf_58 : decode cX8_askOf 58 = .ok (.iconst 1, 1) := by decide +kernel
theorem dX8_askOf_59 : decode cX8_askOf 59 = .ok (.goto 4, 3) := by decide +kernel
theorem dX8_askOf_62 : decode cX8_askOf 62 = .ok (.iconst 0, 1) := by decide +kernel
theorem dX8_askOf_63 : decode cX8_askOf 63 = .ok (.iadd, 1) := by decide +kernel
theorem dX8_askOf_64 : decode cX8_askOf 64 = .ok (.istore 5, 2) := by decide +kernel
theorem dX8_askOf_66 : decode cX8_askOf 66 = .ok (.iload 6, 2) := by decide +kernel
theorem dX8_askOf_68 : decode cX8_askOf 68 = .ok (.aload_n 0, 1) := by decide +kernel
theorem dX8_askOf_69 : decode cX8_askOf 69 = .ok (.iload_n 1, 1) := by decide +kernel
theorem dX8_askOf_70 : decode cX8_askOf 70 = .ok (.iload 7, 2) := by decide +kernel
theorem dX8_askOf_72 : decode cX8_askOf 72 = .ok (.invokevirtual 160, 3) := by decide +kernel
theorem dX8_askOf_75 : decode cX8_askOf 75 = .ok (.ifCond .eq 22, 3) := by decide +kernel
theorem dX8_askOf_78 : decode cX8_askOf 78 = .ok (.aload_n 0, 1) := by decide +kernel
theorem dX8_askOf_79 : decode cX8_askOf 79 = .ok (.getfield 16, 3) := by decide +kernel
theorem dX8_askOf_82 : decode cX8_askOf 82 = .ok (.iload 7, 2) := by decide +kernel
theorem dX8_askOf_84 : decode cX8_askOf 84 = .ok (.iaload, 1) := by decide +kernel
theorem dX8_askOf_85 : decode cX8_askOf 85 = .ok (.iload 4, 2) := by decide +kernel
theorem dX8_askOf_87 : decode cX8_askOf 87 = .ok (.invokestatic 204, 3) := by decide +kernel
theorem dX8_askOf_90 : decode cX8_askOf 90 = .ok (.ifCond .eq 7, 3) := by decide +kernel
theorem dX8_askOf_93 : decode cX8_askOf 93 = .ok (.iconst 1, 1) := by decide +kernel
theorem dX8_askOf_94 : decode cX8_askOf 94 = .ok (.goto 4, 3) := by decide +kernel
theorem dX8_askOf_97 : decode cX8_askOf 97 = .ok (.iconst 0, 1) := by decide +kernel
theorem dX8_askOf_98 : decode cX8_askOf 98 = .ok (.iadd, 1) := by decide +kernel
theorem dX8_askOf_99 : decode cX8_askOf 99 = .ok (.istore 6, 2) := by decide +kernel
theorem dX8_askOf_101 : decode cX8_askOf 101 = .ok (.iinc 7 1, 3) := by decide +kernel
theorem dX8_askOf_104 : decode cX8_askOf 104 = .ok (.goto (-82), 3) := by decide +kernel
theorem dX8_askOf_107 : decode cX8_askOf 107 = .ok (.iload 5, 2) := by decide +kernel
theorem dX8_askOf_109 : decode cX8_askOf 109 = .ok (.iload 6, 2) := by decide +kernel
theorem dX8_askOf_111 : decode cX8_askOf 111 = .ok (.if_icmp .le 8, 3) := by decide +kernel
theorem dX8_askOf_114 : decode cX8_askOf 114 = .ok (.iload 5, 2) := by decide +kernel
theorem dX8_askOf_116 : decode cX8_askOf 116 = .ok (.goto 5, 3) := by decide +kernel
theorem dX8_askOf_119 : decode cX8_askOf 119 = .ok (.iload 6, 2) := by decide +kernel
theorem dX8_askOf_121 : decode cX8_askOf 121 = .ok (.istore 7, 2) := by decide +kernel
theorem dX8_askOf_123 : decode cX8_askOf 123 = .ok (.aload_n 0, 1) := by decide +kernel
theorem dX8_askOf_124 : decode cX8_askOf 124 = .ok (.getfield 22, 3) := by decide +kernel
theorem dX8_askOf_127 : decode cX8_askOf 127 = .ok (.iload_n 1, 1) := by decide +kernel
theorem dX8_askOf_128 : decode cX8_askOf 128 = .ok (.iaload, 1) := by decide +kernel
theorem dX8_askOf_129 : decode cX8_askOf 129 = .ok (.iload 4, 2) := by decide +kernel
theorem dX8_askOf_131 : decode cX8_askOf 131 = .ok (.invokestatic 204, 3) := by decide +kernel
theorem dX8_askOf_134 : decode cX8_askOf 134 = .ok (.ifCond .ne 18, 3) := by decide +kernel
theorem dX8_askOf_137 : decode cX8_askOf 137 = .ok (.iload_n 2, 1) := by decide +kernel
theorem dX8_askOf_138 : decode cX8_askOf 138 = .ok (.iconst (-1), 1) := by decide +kernel
theorem dX8_askOf_139 : decode cX8_askOf 139 = .ok (.if_icmp .eq 9, 3) := by decide +kernel
theorem dX8_askOf_142 : decode cX8_askOf 142 = .ok (.iload 7, 2) := by decide +kernel
theorem dX8_askOf_144 : decode cX8_askOf 144 = .ok (.iload_n 3, 1) := by decide +kernel
theorem dX8_askOf_145 : decode cX8_askOf 145 = .ok (.if_icmp .ge 7, 3) := by decide +kernel
theorem dX8_askOf_148 : decode cX8_askOf 148 = .ok (.iconst 1, 1) := by decide +kernel
theorem dX8_askOf_149 : decode cX8_askOf 149 = .ok (.goto 4, 3) := by decide +kernel
theorem dX8_askOf_152 : decode cX8_askOf 152 = .ok (.iconst 0, 1) := by decide +kernel
theorem dX8_askOf_153 : decode cX8_askOf 153 = .ok (.istore 8, 2) := by decide +kernel
theorem dX8_askOf_155 : decode cX8_askOf 155 = .ok (.iload 8, 2) := by decide +kernel
theorem dX8_askOf_157 : decode cX8_askOf 157 = .ok (.ifCond .eq 8, 3) := by decide +kernel
theorem dX8_askOf_160 : decode cX8_askOf 160 = .ok (.iload 4, 2) := by decide +kernel
theorem dX8_askOf_162 : decode cX8_askOf 162 = .ok (.goto 4, 3) := by decide +kernel
theorem dX8_askOf_165 : decode cX8_askOf 165 = .ok (.iload_n 2, 1) := by decide +kernel
theorem dX8_askOf_166 : decode cX8_askOf 166 = .ok (.istore_n 2, 1) := by decide +kernel
theorem dX8_askOf_167 : decode cX8_askOf 167 = .ok (.iload 8, 2) := by decide +kernel
theorem dX8_askOf_169 : decode cX8_askOf 169 = .ok (.ifCond .eq 8, 3) := by decide +kernel
theorem dX8_askOf_172 : decode cX8_askOf 172 = .ok (.iload 7, 2) := by decide +kernel
theorem dX8_askOf_174 : decode cX8_askOf 174 = .ok (.goto 4, 3) := by decide +kernel
theorem dX8_askOf_177 : decode cX8_askOf 177 = .ok (.iload_n 3, 1) := by decide +kernel
theorem dX8_askOf_178 : decode cX8_askOf 178 = .ok (.istore_n 3, 1) := by decide +kernel
theorem dX8_askOf_179 : decode cX8_askOf 179 = .ok (.iinc 4 1, 3) := by decide +kernel
theorem dX8_askOf_182 : decode cX8_askOf 182 = .ok (.goto (-175), 3) := by decide +kernel
theorem dX8_askOf_185 : decode cX8_askOf 185 = .ok (.iload_n 2, 1) := by decide +kernel
theorem dX8_askOf_186 : decode cX8_askOf 186 = .ok (.ireturn, 1) := by decide +kernel
theorem dX8_ask_0 : decode cX8_ask 0 = .ok (.aload_n 0, 1) := by decide +kernel
theorem dX8_ask_1 : decode cX8_ask 1 = .ok (.iload_n 1, 1) := by decide +kernel
theorem dX8_ask_2 : decode cX8_ask 2 = .ok (.invokevirtual 129, 3) := by decide +kernel
theorem dX8_ask_5 : decode cX8_ask 5 = .ok (.ifCond .eq 11, 3) := by decide +kernel
theorem dX8_ask_8 : decode cX8_ask 8 = .ok (.aload_n 0, 1) := by decide +kernel
theorem dX8_ask_9 : decode cX8_ask 9 = .ok (.iload_n 1, 1) := by decide +kernel
theorem dX8_ask_10 : decode cX8_ask 10 = .ok (.invokevirtual 222, 3) := by decide +kernel
theorem dX8_ask_13 : decode cX8_ask 13 = .ok (.goto 5, 3) := by decide +kernel
theorem dX8_ask_16 : decode cX8_ask 16 = .ok (.bipush (-2), 2) := by decide +kernel
theorem dX8_ask_18 : decode cX8_ask 18 = .ok (.ireturn, 1) := by decide +kernel
theorem dX8_lieOf_0 : decode cX8_lieOf 0 = .ok (.iconst (-1), 1) := by decide +kernel
theorem dX8_lieOf_1 : decode cX8_lieOf 1 = .ok (.istore_n 2, 1) := by decide +kernel
theorem dX8_lieOf_2 : decode cX8_lieOf 2 = .ok (.iconst 0, 1) := by decide +kernel
theorem dX8_lieOf_3 : decode cX8_lieOf 3 = .ok (.istore_n 3, 1) := by decide +kernel
theorem dX8_lieOf_4 : decode cX8_lieOf 4 = .ok (.iload_n 3, 1) := by decide +kernel
theorem dX8_lieOf_5 : decode cX8_lieOf 5 = .ok (.bipush 16, 2) := by decide +kernel
theorem dX8_lieOf_7 : decode cX8_lieOf 7 = .ok (.if_icmp .ge 109, 3) := by decide +kernel
theorem dX8_lieOf_10 : decode cX8_lieOf 10 = .ok (.iload_n 3, 1) := by decide +kernel
theorem dX8_lieOf_11 : decode cX8_lieOf 11 = .ok (.invokestatic 164, 3) := by decide +kernel
theorem dX8_lieOf_14 : decode cX8_lieOf 14 = .ok (.aload_n 0, 1) := by decide +kernel
theorem dX8_lieOf_15 : decode cX8_lieOf 15 = .ok (.getfield 89, 3) := by decide +kernel
theorem dX8_lieOf_18 : decode cX8_lieOf 18 = .ok (.if_icmp .lt 7, 3) := by decide +kernel
theorem dX8_lieOf_21 : decode cX8_lieOf 21 = .ok (.iconst 1, 1) := by decide +kernel
theorem dX8_lieOf_22 : decode cX8_lieOf 22 = .ok (.goto 4, 3) := by decide +kernel
theorem dX8_lieOf_25 : decode cX8_lieOf 25 = .ok (.iconst 0, 1) := by decide +kernel
theorem dX8_lieOf_26 : decode cX8_lieOf 26 = .ok (.istore 4, 2) := by decide +kernel
theorem dX8_lieOf_28 : decode cX8_lieOf 28 = .ok (.iconst 0, 1) := by decide +kernel
theorem dX8_lieOf_29 : decode cX8_lieOf 29 = .ok (.istore 5, 2) := by decide +kernel
theorem dX8_lieOf_31 : decode cX8_lieOf 31 = .ok (.iload 5, 2) := by decide +kernel
theorem dX8_lieOf_33 : decode cX8_lieOf 33 = .ok (.aload_n 0, 1) := by decide +kernel
theorem dX8_lieOf_34 : decode cX8_lieOf 34 = .ok (.getfield 106, 3) := by decide +kernel
theorem dX8_lieOf_37 : decode cX8_lieOf 37 = .ok (.if_icmp .ge 46, 3) := by decide +kernel
theorem dX8_lieOf_40 : decode cX8_lieOf 40 = .ok (.iload 4, 2) := by decide +kernel
theorem dX8_lieOf_42 : decode cX8_lieOf 42 = .ok (.ifCond .eq 32, 3) := by decide +kernel
theorem dX8_lieOf_45 : decode cX8_lieOf 45 = .ok (.iload 5, 2) := by decide +kernel
theorem dX8_lieOf_47 : decode cX8_lieOf 47 = .ok (.iload_n 1, 1) := by decide +kernel
theorem dX8_lieOf_48 : decode cX8_lieOf 48 = .ok (.if_icmp .eq 22, 3) := by decide +kernel
theorem dX8_lieOf_51 : decode cX8_lieOf 51 = .ok (.aload_n 0, 1) := by decide +kernel
theorem dX8_lieOf_52 : decode cX8_lieOf 52 = .ok (.getfield 16, 3) := by decide +kernel
theorem dX8_lieOf_55 : decode cX8_lieOf 55 = .ok (.iload 5, 2) := by decide +kernel
theorem dX8_lieOf_57 : decode cX8_lieOf 57 = .ok (.iaload, 1) := by decide +kernel
theorem dX8_lieOf_58 : decode cX8_lieOf 58 = .ok (.aload_n 0, 1) := by decide +kernel
theorem dX8_lieOf_59 : decode cX8_lieOf 59 = .ok (.getfield 16, 3) := by decide +kernel
theorem dX8_lieOf_62 : decode cX8_lieOf 62 = .ok (.iload_n 1, 1) := by decide +kernel
theorem dX8_lieOf_63 : decode cX8_lieOf 63 = .ok (.iaload, 1) := by decide +kernel
theorem dX8_lieOf_64 : decode cX8_lieOf 64 = .ok (.ixor, 1) := by decide +kernel
theorem dX8_lieOf_65 : decode cX8_lieOf 65 = .ok (.iload_n 3, 1) := by decide +kernel
theorem dX8_lieOf_66 : decode cX8_lieOf 66 = .ok (.iand, 1) := by decide +kernel
theorem dX8_lieOf_67 : decode cX8_lieOf 67 = .ok (.ifCond .eq 7, 3) := by decide +kernel
theorem dX8_lieOf_70 : decode cX8_lieOf 70 = .ok (.iconst 1, 1) := by decide +kernel
theorem dX8_lieOf_71 : decode cX8_lieOf 71 = .ok (.goto 4, 3) := by decide +kernel
theorem dX8_lieOf_74 : decode cX8_lieOf 74 = .ok (.iconst 0, 1) := by decide +kernel
theorem dX8_lieOf_75 : decode cX8_lieOf 75 = .ok (.istore 4, 2) := by decide +kernel
theorem dX8_lieOf_77 : decode cX8_lieOf 77 = .ok (.iinc 5 1, 3) := by decide +kernel
theorem dX8_lieOf_80 : decode cX8_lieOf 80 = .ok (.goto (-49), 3) := by decide +kernel
theorem dX8_lieOf_83 : decode cX8_lieOf 83 = .ok (.iload 4, 2) := by decide +kernel
theorem dX8_lieOf_85 : decode cX8_lieOf 85 = .ok (.ifCond .eq 23, 3) := by decide +kernel
theorem dX8_lieOf_88 : decode cX8_lieOf 88 = .ok (.iload_n 2, 1) := by decide +kernel
theorem dX8_lieOf_89 : decode cX8_lieOf 89 = .ok (.iconst (-1), 1) := by decide +kernel
theorem dX8_lieOf_90 : decode cX8_lieOf 90 = .ok (.if_icmp .eq 14, 3) := by decide +kernel
theorem dX8_lieOf_93 : decode cX8_lieOf 93 = .ok (.iload_n 3, 1) := by decide +kernel
theorem dX8_lieOf_94 : decode cX8_lieOf 94 = .ok (.invokestatic 164, 3) := by decide +kernel
theorem dX8_lieOf_97 : decode cX8_lieOf 97 = .ok (.iload_n 2, 1) := by decide +kernel
theorem dX8_lieOf_98 : decode cX8_lieOf 98 = .ok (.invokestatic 164, 3) := by decide +kernel
theorem dX8_lieOf_101 : decode cX8_lieOf 101 = .ok (.if_icmp .ge 7, 3) := by decide +kernel
theorem dX8_lieOf_104 : decode cX8_lieOf 104 = .ok (.iload_n 3, 1) := by decide +kernel
theorem dX8_lieOf_105 : decode cX8_lieOf 105 = .ok (.goto 4, 3) := by decide +kernel
theorem dX8_lieOf_108 : decode cX8_lieOf 108 = .ok (.iload_n 2, 1) := by decide +kernel
theorem dX8_lieOf_109 : decode cX8_lieOf 109 = .ok (.istore_n 2, 1) := by decide +kernel
theorem dX8_lieOf_110 : decode cX8_lieOf 110 = .ok (.iinc 3 1, 3) := by decide +kernel
theorem dX8_lieOf_113 : decode cX8_lieOf 113 = .ok (.goto (-109), 3) := by decide +kernel
theorem dX8_lieOf_116 : decode cX8_lieOf 116 = .ok (.iload_n 2, 1) := by decide +kernel
theorem dX8_lieOf_117 : decode cX8_lieOf 117 = .ok (.ireturn, 1) := by decide +kernel
theorem dX8_lie_0 : decode cX8_lie 0 = .ok (.aload_n 0, 1) := by decide +kernel
theorem dX8_lie_1 : decode cX8_lie 1 = .ok (.iload_n 1, 1) := by decide +kernel
theorem dX8_lie_2 : decode cX8_lie 2 = .ok (.invokevirtual 126, 3) := by decide +kernel
theorem dX8_lie_5 : decode cX8_lie 5 = .ok (.ifCond .eq 11, 3) := by decide +kernel
theorem dX8_lie_8 : decode cX8_lie 8 = .ok (.aload_n 0, 1) := by decide +kernel
theorem dX8_lie_9 : decode cX8_lie 9 = .ok (.iload_n 1, 1) := by decide +kernel
theorem dX8_lie_10 : decode cX8_lie 10 = .ok (.invokevirtual 225, 3) := by decide +kernel
theorem dX8_lie_13 : decode cX8_lie 13 = .ok (.goto 5, 3) := by decide +kernel
theorem dX8_lie_16 : decode cX8_lie 16 = .ok (.bipush (-2), 2) := by decide +kernel
theorem dX8_lie_18 : decode cX8_lie 18 = .ok (.ireturn, 1) := by decide +kernel
theorem dX8_guessBy_0 : decode cX8_guessBy 0 = .ok (.iconst 0, 1) := by decide +kernel
theorem dX8_guessBy_1 : decode cX8_guessBy 1 = .ok (.istore 4, 2) := by decide +kernel
theorem dX8_guessBy_3 : decode cX8_guessBy 3 = .ok (.iconst 0, 1) := by decide +kernel
theorem dX8_guessBy_4 : decode cX8_guessBy 4 = .ok (.istore 5, 2) := by decide +kernel
theorem dX8_guessBy_6 : decode cX8_guessBy 6 = .ok (.iconst 0, 1) := by decide +kernel
theorem dX8_guessBy_7 : decode cX8_guessBy 7 = .ok (.istore 6, 2) := by decide +kernel
theorem dX8_guessBy_9 : decode cX8_guessBy 9 = .ok (.iload 6, 2) := by decide +kernel
theorem dX8_guessBy_11 : decode cX8_guessBy 11 = .ok (.aload_n 0, 1) := by decide +kernel
theorem dX8_guessBy_12 : decode cX8_guessBy 12 = .ok (.getfield 106, 3) := by decide +kernel
theorem dX8_guessBy_15 : decode cX8_guessBy 15 = .ok (.if_icmp .ge 97, 3) := by decide +kernel
theorem dX8_guessBy_18 : decode cX8_guessBy 18 = .ok (.aload_n 0, 1) := by decide +kernel
theorem dX8_guessBy_19 : decode cX8_guessBy 19 = .ok (.getfield 16, 3) := by decide +kernel
theorem dX8_guessBy_22 : decode cX8_guessBy 22 = .ok (.iload 6, 2) := by decide +kernel
theorem dX8_guessBy_24 : decode cX8_guessBy 24 = .ok (.iaload, 1) := by decide +kernel
theorem dX8_guessBy_25 : decode cX8_guessBy 25 = .ok (.aload_n 0, 1) := by decide +kernel
theorem dX8_guessBy_26 : decode cX8_guessBy 26 = .ok (.getfield 16, 3) := by decide +kernel
theorem dX8_guessBy_29 : decode cX8_guessBy 29 = .ok (.iload_n 1, 1) := by decide +kernel
theorem dX8_guessBy_30 : decode cX8_guessBy 30 = .ok (.iaload, 1) := by decide +kernel
theorem dX8_guessBy_31 : decode cX8_guessBy 31 = .ok (.ixor, 1) := by decide +kernel
theorem dX8_guessBy_32 : decode cX8_guessBy 32 = .ok (.iload_n 2, 1) := by decide +kernel
theorem dX8_guessBy_33 : decode cX8_guessBy 33 = .ok (.iconst (-1), 1) := by decide +kernel
theorem dX8_guessBy_34 : decode cX8_guessBy 34 = .ok (.ixor, 1) := by decide +kernel
theorem dX8_guessBy_35 : decode cX8_guessBy 35 = .ok (.iand, 1) := by decide +kernel
theorem dX8_guessBy_36 : decode cX8_guessBy 36 = .ok (.ifCond .ne 70, 3) := by decide +kernel
theorem dX8_guessBy_39 : decode cX8_guessBy 39 = .ok (.iconst 0, 1) := by decide +kernel
theorem dX8_guessBy_40 : decode cX8_guessBy 40 = .ok (.istore 7, 2) := by decide +kernel
theorem dX8_guessBy_42 : decode cX8_guessBy 42 = .ok (.iconst 0, 1) := by decide +kernel
theorem dX8_guessBy_43 : decode cX8_guessBy 43 = .ok (.istore 8, 2) := by decide +kernel
theorem dX8_guessBy_45 : decode cX8_guessBy 45 = .ok (.iload 8, 2) := by decide +kernel
theorem dX8_guessBy_47 : decode cX8_guessBy 47 = .ok (.aload_n 0, 1) := by decide +kernel
theorem dX8_guessBy_48 : decode cX8_guessBy 48 = .ok (.getfield 106, 3) := by decide +kernel
theorem dX8_guessBy_51 : decode cX8_guessBy 51 = .ok (.if_icmp .ge 36, 3) := by decide +kernel
theorem dX8_guessBy_54 : decode cX8_guessBy 54 = .ok (.iload 7, 2) := by decide +kernel
theorem dX8_guessBy_56 : decode cX8_guessBy 56 = .ok (.aload_n 0, 1) := by decide +kernel
theorem dX8_guessBy_57 : decode cX8_guessBy 57 = .ok (.getfield 16, 3) := by decide +kernel
theorem dX8_guessBy_60 : decode cX8_guessBy 60 = .ok (.iload 8, 2) := by decide +kernel
theorem dX8_guessBy_62 : decode cX8_guessBy 62 = .ok (.iaload, 1) := by decide +kernel
theorem dX8_guessBy_63 : decode cX8_guessBy 63 = .ok (.aload_n 0, 1) := by decide +kernel
theorem dX8_guessBy_64 : decode cX8_guessBy 64 = .ok (.getfield 16, 3) := by decide +kernel
theorem dX8_guessBy_67 : decode cX8_guessBy 67 = .ok (.iload 6, 2) := by decide +kernel
theorem dX8_guessBy_69 : decode cX8_guessBy 69 = .ok (.iaload, 1) := by decide +kernel
theorem dX8_guessBy_70 : decode cX8_guessBy 70 = .ok (.if_icmp .ne 7, 3) := by decide +kernel
theorem dX8_guessBy_73 : decode cX8_guessBy 73 = .ok (.iconst 1, 1) := by decide +kernel
theorem dX8_guessBy_74 : decode cX8_guessBy 74 = .ok (.goto 4, 3) := by decide +kernel
theorem dX8_guessBy_77 : decode cX8_guessBy 77 = .ok (.iconst 0, 1) := by decide +kernel
theorem dX8_guessBy_78 : decode cX8_guessBy 78 = .ok (.iadd, 1) := by decide +kernel
theorem dX8_guessBy_79 : decode cX8_guessBy 79 = .ok (.istore 7, 2) := by decide +kernel
theorem dX8_guessBy_81 : decode cX8_guessBy 81 = .ok (.iinc 8 1, 3) := by decide +kernel
theorem dX8_guessBy_84 : decode cX8_guessBy 84 = .ok (.goto (-39), 3) := by decide +kernel
theorem dX8_guessBy_87 : decode cX8_guessBy 87 = .ok (.iload 7, 2) := by decide +kernel
theorem dX8_guessBy_89 : decode cX8_guessBy 89 = .ok (.iload 5, 2) := by decide +kernel
theorem dX8_guessBy_91 : decode cX8_guessBy 91 = .ok (.if_icmp .le 8, 3) := by decide +kernel
theorem dX8_guessBy_94 : decode cX8_guessBy 94 = .ok (.iload 7, 2) := by decide +kernel
theorem dX8_guessBy_96 : decode cX8_guessBy 96 = .ok (.goto 5, 3) := by decide +kernel
theorem dX8_guessBy_99 : decode cX8_guessBy 99 = .ok (.iload 5, 2) := by decide +kernel
theorem dX8_guessBy_101 : decode cX8_guessBy 101 = .ok (.istore 5, 2) := by decide +kernel
theorem dX8_guessBy_103 : decode cX8_guessBy 103 = .ok (.iinc 4 1, 3) := by decide +kernel
theorem dX8_guessBy_106 : decode cX8_guessBy 106 = .ok (.iinc 6 1, 3) := by decide +kernel
theorem dX8_guessBy_109 : decode cX8_guessBy 109 = .ok (.goto (-100), 3) := by decide +kernel
theorem dX8_guessBy_112 : decode cX8_guessBy 112 = .ok (.iload_n 3, 1) := by decide +kernel
theorem dX8_guessBy_113 : decode cX8_guessBy 113 = .ok (.ifCond .ne 8, 3) := by decide +kernel
theorem dX8_guessBy_116 : decode cX8_guessBy 116 = .ok (.iload 4, 2) := by decide +kernel
theorem dX8_guessBy_118 : decode cX8_guessBy 118 = .ok (.goto 5, 3) := by decide +kernel
theorem dX8_guessBy_121 : decode cX8_guessBy 121 = .ok (.iload 5, 2) := by decide +kernel
theorem dX8_guessBy_123 : decode cX8_guessBy 123 = .ok (.ireturn, 1) := by decide +kernel
theorem dX8_guess_0 : decode cX8_guess 0 = .ok (.aload_n 0, 1) := by decide +kernel
theorem dX8_guess_1 : decode cX8_guess 1 = .ok (.iload_n 1, 1) := by decide +kernel
theorem dX8_guess_2 : decode cX8_guess 2 = .ok (.invokevirtual 126, 3) := by decide +kernel
theorem dX8_guess_5 : decode cX8_guess 5 = .ok (.ifCond .eq 41, 3) := by decide +kernel
theorem dX8_guess_8 : decode cX8_guess 8 = .ok (.iload_n 2, 1) := by decide +kernel
theorem dX8_guess_9 : decode cX8_guess 9 = .ok (.iconst 0, 1) := by decide +kernel
theorem dX8_guess_10 : decode cX8_guess 10 = .ok (.iconst 1, 1) := by decide +kernel
theorem dX8_guess_11 : decode cX8_guess 11 = .ok (.invokestatic 98, 3) := by decide +kernel
theorem dX8_guess_14 : decode cX8_guess 14 = .ok (.ifCond .eq 32, 3) := by decide +kernel
theorem dX8_guess_17 : decode cX8_guess 17 = .ok (.aload_n 0, 1) := by decide +kernel
theorem dX8_guess_18 : decode cX8_guess 18 = .ok (.iload_n 1, 1) := by decide +kernel
theorem dX8_guess_19 : decode cX8_guess 19 = .ok (.aload_n 0, 1) := by decide +kernel
theorem dX8_guess_20 : decode cX8_guess 20 = .ok (.getfield 136, 3) := by decide +kernel
theorem dX8_guess_23 : decode cX8_guess 23 = .ok (.iconst 1, 1) := by decide +kernel
theorem dX8_guess_24 : decode cX8_guess 24 = .ok (.invokevirtual 228, 3) := by decide +kernel
theorem dX8_guess_27 : decode cX8_guess 27 = .ok (.i2l, 1) := by decide +kernel
theorem dX8_guess_28 : decode cX8_guess 28 = .ok (.aload_n 0, 1) := by decide +kernel
theorem dX8_guess_29 : decode cX8_guess 29 = .ok (.iload_n 1, 1) := by decide +kernel
theorem dX8_guess_30 : decode cX8_guess 30 = .ok (.aload_n 0, 1) := by decide +kernel
theorem dX8_guess_31 : decode cX8_guess 31 = .ok (.getfield 136, 3) := by decide +kernel
theorem dX8_guess_34 : decode cX8_guess 34 = .ok (.iconst 0, 1) := by decide +kernel
theorem dX8_guess_35 : decode cX8_guess 35 = .ok (.invokevirtual 228, 3) := by decide +kernel
theorem dX8_guess_38 : decode cX8_guess 38 = .ok (.i2l, 1) := by decide +kernel
theorem dX8_guess_39 : decode cX8_guess 39 = .ok (.iload_n 2, 1) := by decide +kernel
theorem dX8_guess_40 : decode cX8_guess 40 = .ok (.invokestatic 231, 3) := by decide +kernel
theorem dX8_guess_43 : decode cX8_guess 43 = .ok (.goto 8, 3) := by decide +kernel
theorem dX8_guess_46 : decode cX8_guess 46 = .ok (.bipush (-2), 2) := by decide +kernel
theorem dX8_guess_48 : decode cX8_guess 48 = .ok (.invokestatic 235, 3) := by decide +kernel
theorem dX8_guess_51 : decode cX8_guess 51 = .ok (.lreturn, 1) := by decide +kernel
theorem dX8_guardOf_0 : decode cX8_guardOf 0 = .ok (.aload_n 0, 1) := by decide +kernel
theorem dX8_guardOf_1 : decode cX8_guardOf 1 = .ok (.invokevirtual 123, 3) := by decide +kernel
theorem dX8_guardOf_4 : decode cX8_guardOf 4 = .ok (.iconst (-1), 1) := by decide +kernel
theorem dX8_guardOf_5 : decode cX8_guardOf 5 = .ok (.istore_n 2, 1) := by decide +kernel
theorem dX8_guardOf_6 : decode cX8_guardOf 6 = .ok (.iconst 0, 1) := by decide +kernel
theorem dX8_guardOf_7 : decode cX8_guardOf 7 = .ok (.istore_n 3, 1) := by decide +kernel
theorem dX8_guardOf_8 : decode cX8_guardOf 8 = .ok (.iload_n 3, 1) := by decide +kernel
theorem dX8_guardOf_9 : decode cX8_guardOf 9 = .ok (.bipush 16, 2) := by decide +kernel
theorem dX8_guardOf_11 : decode cX8_guardOf 11 = .ok (.if_icmp .ge 93, 3) := by decide +kernel
theorem dX8_guardOf_14 : decode cX8_guardOf 14 = .ok (.iconst 1, 1) := by decide +kernel
theorem dX8_guardOf_15 : decode cX8_guardOf 15 = .ok (.istore 4, 2) := by decide +kernel
theorem dX8_guardOf_17 : decode cX8_guardOf 17 = .ok (.iconst 0, 1) := by decide +kernel
theorem dX8_guardOf_18 : decode cX8_guardOf 18 = .ok (.istore 5, 2) := by decide +kernel
theorem dX8_guardOf_20 : decode cX8_guardOf 20 = .ok (.iload 5, 2) := by decide +kernel
theorem dX8_guardOf_22 : decode cX8_guardOf 22 = .ok (.aload_n 0, 1) := by decide +kernel
theorem dX8_guardOf_23 : decode cX8_guardOf 23 = .ok (.getfield 106, 3) := by decide +kernel
theorem dX8_guardOf_26 : decode cX8_guardOf 26 = .ok (.if_icmp .ge 45, 3) := by decide +kernel
theorem dX8_guardOf_29 : decode cX8_guardOf 29 = .ok (.iload 4, 2) := by decide +kernel
theorem dX8_guardOf_31 : decode cX8_guardOf 31 = .ok (.ifCond .eq 31, 3) := by decide +kernel
theorem dX8_guardOf_34 : decode cX8_guardOf 34 = .ok (.bipush 16, 2) := by decide +kernel
theorem dX8_guardOf_36 : decode cX8_guardOf 36 = .ok (.aload_n 0, 1) := by decide +kernel
theorem dX8_guardOf_37 : decode cX8_guardOf 37 = .ok (.iload 5, 2) := by decide +kernel
theorem dX8_guardOf_39 : decode cX8_guardOf 39 = .ok (.iload_n 3, 1) := by decide +kernel
theorem dX8_guardOf_40 : decode cX8_guardOf 40 = .ok (.iconst 1, 1) := by decide +kernel
theorem dX8_guardOf_41 : decode cX8_guardOf 41 = .ok (.invokevirtual 228, 3) := by decide +kernel
theorem dX8_guardOf_44 : decode cX8_guardOf 44 = .ok (.imul, 1) := by decide +kernel
theorem dX8_guardOf_45 : decode cX8_guardOf 45 = .ok (.iload_n 1, 1) := by decide +kernel
theorem dX8_guardOf_46 : decode cX8_guardOf 46 = .ok (.aload_n 0, 1) := by decide +kernel
theorem dX8_guardOf_47 : decode cX8_guardOf 47 = .ok (.iload 5, 2) := by decide +kernel
theorem dX8_guardOf_49 : decode cX8_guardOf 49 = .ok (.iload_n 3, 1) := by decide +kernel
theorem dX8_guardOf_50 : decode cX8_guardOf 50 = .ok (.iconst 0, 1) := by decide +kernel
theorem dX8_guardOf_51 : decode cX8_guardOf 51 = .ok (.invokevirtual 228, 3) := by decide +kernel
theorem dX8_guardOf_54 : decode cX8_guardOf 54 = .ok (.imul, 1) := by decide +kernel
theorem dX8_guardOf_55 : decode cX8_guardOf 55 = .ok (.if_icmp .gt 7, 3) := by decide +kernel
theorem dX8_guardOf_58 : decode cX8_guardOf 58 = .ok (.iconst 1, 1) := by decide +kernel
theorem dX8_guardOf_59 : decode cX8_guardOf 59 = .ok (.goto 4, 3) := by decide +kernel
theorem dX8_guardOf_62 : decode cX8_guardOf 62 = .ok (.iconst 0, 1) := by decide +kernel
theorem dX8_guardOf_63 : decode cX8_guardOf 63 = .ok (.istore 4, 2) := by decide +kernel
theorem dX8_guardOf_65 : decode cX8_guardOf 65 = .ok (.iinc 5 1, 3) := by decide +kernel
theorem dX8_guardOf_68 : decode cX8_guardOf 68 = .ok (.goto (-48), 3) := by decide +kernel
theorem dX8_guardOf_71 : decode cX8_guardOf 71 = .ok (.iload 4, 2) := by decide +kernel
theorem dX8_guardOf_73 : decode cX8_guardOf 73 = .ok (.ifCond .eq 23, 3) := by decide +kernel
theorem dX8_guardOf_76 : decode cX8_guardOf 76 = .ok (.iload_n 2, 1) := by decide +kernel
theorem dX8_guardOf_77 : decode cX8_guardOf 77 = .ok (.iconst (-1), 1) := by decide +kernel
theorem dX8_guardOf_78 : decode cX8_guardOf 78 = .ok (.if_icmp .eq 14, 3) := by decide +kernel
theorem dX8_guardOf_81 : decode cX8_guardOf 81 = .ok (.iload_n 3, 1) := by decide +kernel
theorem dX8_guardOf_82 : decode cX8_guardOf 82 = .ok (.invokestatic 164, 3) := by decide +kernel
theorem dX8_guardOf_85 : decode cX8_guardOf 85 = .ok (.iload_n 2, 1) := by decide +kernel
theorem dX8_guardOf_86 : decode cX8_guardOf 86 = .ok (.invokestatic 164, 3) := by decide +kernel
theorem dX8_guardOf_89 : decode cX8_guardOf 89 = .ok (.if_icmp .ge 7, 3) := by decide +kernel
theorem dX8_guardOf_92 : decode cX8_guardOf 92 = .ok (.iload_n 3, 1) := by decide +kernel
theorem dX8_guardOf_93 : decode cX8_guardOf 93 = .ok (.goto 4, 3) := by decide +kernel
theorem dX8_guardOf_96 : decode cX8_guardOf 96 = .ok (.iload_n 2, 1) := by decide +kernel
theorem dX8_guardOf_97 : decode cX8_guardOf 97 = .ok (.istore_n 2, 1) := by decide +kernel
theorem dX8_guardOf_98 : decode cX8_guardOf 98 = .ok (.iinc 3 1, 3) := by decide +kernel
theorem dX8_guardOf_101 : decode cX8_guardOf 101 = .ok (.goto (-93), 3) := by decide +kernel
theorem dX8_guardOf_104 : decode cX8_guardOf 104 = .ok (.iload_n 2, 1) := by decide +kernel
theorem dX8_guardOf_105 : decode cX8_guardOf 105 = .ok (.ireturn, 1) := by decide +kernel
theorem dX8_guard_0 : decode cX8_guard 0 = .ok (.iload_n 1, 1) := by decide +kernel
theorem dX8_guard_1 : decode cX8_guard 1 = .ok (.iconst 0, 1) := by decide +kernel
theorem dX8_guard_2 : decode cX8_guard 2 = .ok (.bipush 16, 2) := by decide +kernel
theorem dX8_guard_4 : decode cX8_guard 4 = .ok (.invokestatic 98, 3) := by decide +kernel
theorem dX8_guard_7 : decode cX8_guard 7 = .ok (.ifCond .eq 11, 3) := by decide +kernel
theorem dX8_guard_10 : decode cX8_guard 10 = .ok (.aload_n 0, 1) := by decide +kernel
theorem dX8_guard_11 : decode cX8_guard 11 = .ok (.iload_n 1, 1) := by decide +kernel
theorem dX8_guard_12 : decode cX8_guard 12 = .ok (.invokevirtual 239, 3) := by decide +kernel
theorem dX8_guard_15 : decode cX8_guard 15 = .ok (.goto 5, 3) := by decide +kernel
theorem dX8_guard_18 : decode cX8_guard 18 = .ok (.bipush (-2), 2) := by decide +kernel
theorem dX8_guard_20 : decode cX8_guard 20 = .ok (.ireturn, 1) := by decide +kernel
theorem dX8_shelvesOf_0 : decode cX8_shelvesOf 0 = .ok (.aload_n 0, 1) := by decide +kernel
theorem dX8_shelvesOf_1 : decode cX8_shelvesOf 1 = .ok (.invokevirtual 123, 3) := by decide +kernel
theorem dX8_shelvesOf_4 : decode cX8_shelvesOf 4 = .ok (.aload_n 0, 1) := by decide +kernel
theorem dX8_shelvesOf_5 : decode cX8_shelvesOf 5 = .ok (.getfield 106, 3) := by decide +kernel
theorem dX8_shelvesOf_8 : decode cX8_shelvesOf 8 = .ok (.bipush 6, 2) := by decide +kernel
theorem dX8_shelvesOf_10 : decode cX8_shelvesOf 10 = .ok (.if_icmp .ge 10, 3) := by decide +kernel
theorem dX8_shelvesOf_13 : decode cX8_shelvesOf 13 = .ok (.aload_n 0, 1) := by decide +kernel
theorem dX8_shelvesOf_14 : decode cX8_shelvesOf 14 = .ok (.getfield 106, 3) := by decide +kernel
theorem dX8_shelvesOf_17 : decode cX8_shelvesOf 17 = .ok (.goto 5, 3) := by decide +kernel
theorem dX8_shelvesOf_20 : decode cX8_shelvesOf 20 = .ok (.bipush 6, 2) := by decide +kernel
theorem dX8_shelvesOf_22 : decode cX8_shelvesOf 22 = .ok (.istore_n 2, 1) := by decide +kernel
theorem dX8_shelvesOf_23 : decode cX8_shelvesOf 23 = .ok (.iconst 0, 1) := by decide +kernel
theorem dX8_shelvesOf_24 : decode cX8_shelvesOf 24 = .ok (.istore_n 3, 1) := by decide +kernel
theorem dX8_shelvesOf_25 : decode cX8_shelvesOf 25 = .ok (.iconst (-1), 1) := by decide +kernel
theorem dX8_shelvesOf_26 : decode cX8_shelvesOf 26 = .ok (.istore 4, 2) := by decide +kernel
theorem dX8_shelvesOf_28 : decode cX8_shelvesOf 28 = .ok (.iconst 0, 1) := by decide +kernel
theorem dX8_shelvesOf_29 : decode cX8_shelvesOf 29 = .ok (.istore 5, 2) := by decide +kernel
theorem dX8_shelvesOf_31 : decode cX8_shelvesOf 31 = .ok (.iload 5, 2) := by decide +kernel
theorem dX8_shelvesOf_33 : decode cX8_shelvesOf 33 = .ok (.iload_n 2, 1) := by decide +kernel
theorem dX8_shelvesOf_34 : decode cX8_shelvesOf 34 = .ok (.if_icmp .ge 107, 3) := by decide +kernel
theorem dX8_shelvesOf_37 : decode cX8_shelvesOf 37 = .ok (.iconst 0, 1) := by decide +kernel
theorem dX8_shelvesOf_38 : decode cX8_shelvesOf 38 = .ok (.istore 6, 2) := by decide +kernel
theorem dX8_shelvesOf_40 : decode cX8_shelvesOf 40 = .ok (.aload_n 0, 1) := by decide +kernel
theorem dX8_shelvesOf_41 : decode cX8_shelvesOf 41 = .ok (.iconst 1, 1) := by decide +kernel
theorem dX8_shelvesOf_42 : decode cX8_shelvesOf 42 = .ok (.iload 5, 2) := by decide +kernel
theorem dX8_shelvesOf_44 : decode cX8_shelvesOf 44 = .ok (.invokevirtual 213, 3) := by decide +kernel
theorem dX8_shelvesOf_47 : decode cX8_shelvesOf 47 = .ok (.invokestatic 164, 3) := by decide +kernel
theorem dX8_shelvesOf_50 : decode cX8_shelvesOf 50 = .ok (.istore 7, 2) := by decide +kernel
theorem dX8_shelvesOf_52 : decode cX8_shelvesOf 52 = .ok (.iconst 0, 1) := by decide +kernel
theorem dX8_shelvesOf_53 : decode cX8_shelvesOf 53 = .ok (.istore 8, 2) := by decide +kernel
theorem dX8_shelvesOf_55 : decode cX8_shelvesOf 55 = .ok (.iload 8, 2) := by decide +kernel
theorem dX8_shelvesOf_57 : decode cX8_shelvesOf 57 = .ok (.iload_n 2, 1) := by decide +kernel
theorem dX8_shelvesOf_58 : decode cX8_shelvesOf 58 = .ok (.if_icmp .ge 52, 3) := by decide +kernel
theorem dX8_shelvesOf_61 : decode cX8_shelvesOf 61 = .ok (.aload_n 0, 1) := by decide +kernel
theorem dX8_shelvesOf_62 : decode cX8_shelvesOf 62 = .ok (.iconst 1, 1) := by decide +kernel
theorem dX8_shelvesOf_63 : decode cX8_shelvesOf 63 = .ok (.iload 8, 2) := by decide +kernel
theorem dX8_shelvesOf_65 : decode cX8_shelvesOf 65 = .ok (.invokevirtual 213, 3) := by decide +kernel
theorem dX8_shelvesOf_68 : decode cX8_shelvesOf 68 = .ok (.invokestatic 164, 3) := by decide +kernel
theorem dX8_shelvesOf_71 : decode cX8_shelvesOf 71 = .ok (.istore 9, 2) := by decide +kernel
theorem dX8_shelvesOf_73 : decode cX8_shelvesOf 73 = .ok (.iload 6, 2) := by decide +kernel
theorem dX8_shelvesOf_75 : decode cX8_shelvesOf 75 = .ok (.iload 9, 2) := by decide +kernel
theorem dX8_shelvesOf_77 : decode cX8_shelvesOf 77 = .ok (.iload 7, 2) := by decide +kernel
theorem dX8_shelvesOf_79 : decode cX8_shelvesOf 79 = .ok (.if_icmp .gt 17, 3) := by decide +kernel
theorem dX8_shelvesOf_82 : decode cX8_shelvesOf 82 = .ok (.iload 9, 2) := by decide +kernel
theorem dX8_shelvesOf_84 : decode cX8_shelvesOf 84 = .ok (.iload 7, 2) := by decide +kernel
theorem dX8_shelvesOf_86 : decode cX8_shelvesOf 86 = .ok (.if_icmp .ne 14, 3) := by decide +kernel
theorem dX8_shelvesOf_89 : decode cX8_shelvesOf 89 = .ok (.iload 8, 2) := by decide +kernel
theorem dX8_shelvesOf_91 : decode cX8_shelvesOf 91 = .ok (.iload 5, 2) := by decide +kernel
theorem dX8_shelvesOf_93 : decode cX8_shelvesOf 93 = .ok (.if_icmp .ge 7, 3) := by decide +kernel
theorem dX8_shelvesOf_96 : decode cX8_shelvesOf 96 = .ok (.iconst 1, 1) := by decide +kernel
theorem dX8_shelvesOf_97 : decode cX8_shelvesOf 97 = .ok (.goto 4, 3) := by decide +kernel
theorem dX8_shelvesOf_100 : decode cX8_shelvesOf 100 = .ok (.iconst 0, 1) := by decide +kernel
theorem dX8_shelvesOf_101 : decode cX8_shelvesOf 101 = .ok (.iadd, 1) := by decide +kernel
theorem dX8_shelvesOf_102 : decode cX8_shelvesOf 102 = .ok (.istore 6, 2) := by decide +kernel
theorem dX8_shelvesOf_104 : decode cX8_shelvesOf 104 = .ok (.iinc 8 1, 3) := by decide +kernel
theorem dX8_shelvesOf_107 : decode cX8_shelvesOf 107 = .ok (.goto (-52), 3) := by decide +kernel
theorem dX8_shelvesOf_110 : decode cX8_shelvesOf 110 = .ok (.iload_n 3, 1) := by decide +kernel
theorem dX8_shelvesOf_111 : decode cX8_shelvesOf 111 = .ok (.iload 6, 2) := by decide +kernel
theorem dX8_shelvesOf_113 : decode cX8_shelvesOf 113 = .ok (.iconst 1, 1) := by decide +kernel
theorem dX8_shelvesOf_114 : decode cX8_shelvesOf 114 = .ok (.iadd, 1) := by decide +kernel
theorem dX8_shelvesOf_115 : decode cX8_shelvesOf 115 = .ok (.iload 7, 2) := by decide +kernel
theorem dX8_shelvesOf_117 : decode cX8_shelvesOf 117 = .ok (.imul, 1) := by decide +kernel
theorem dX8_shelvesOf_118 : decode cX8_shelvesOf 118 = .ok (.iadd, 1) := by decide +kernel
theorem dX8_shelvesOf_119 : decode cX8_shelvesOf 119 = .ok (.istore_n 3, 1) := by decide +kernel
theorem dX8_shelvesOf_120 : decode cX8_shelvesOf 120 = .ok (.iload 6, 2) := by decide +kernel
theorem dX8_shelvesOf_122 : decode cX8_shelvesOf 122 = .ok (.iload_n 1, 1) := by decide +kernel
theorem dX8_shelvesOf_123 : decode cX8_shelvesOf 123 = .ok (.if_icmp .ne 8, 3) := by decide +kernel
theorem dX8_shelvesOf_126 : decode cX8_shelvesOf 126 = .ok (.iload 5, 2) := by decide +kernel
theorem dX8_shelvesOf_128 : decode cX8_shelvesOf 128 = .ok (.goto 5, 3) := by decide +kernel
theorem dX8_shelvesOf_131 : decode cX8_shelvesOf 131 = .ok (.iload 4, 2) := by decide +kernel
theorem dX8_shelvesOf_133 : decode cX8_shelvesOf 133 = .ok (.istore 4, 2) := by decide +kernel
theorem dX8_shelvesOf_135 : decode cX8_shelvesOf 135 = .ok (.iinc 5 1, 3) := by decide +kernel
theorem dX8_shelvesOf_138 : decode cX8_shelvesOf 138 = .ok (.goto (-107), 3) := by decide +kernel
theorem dX8_shelvesOf_141 : decode cX8_shelvesOf 141 = .ok (.iload_n 1, 1) := by decide +kernel
theorem dX8_shelvesOf_142 : decode cX8_shelvesOf 142 = .ok (.iconst (-1), 1) := by decide +kernel
theorem dX8_shelvesOf_143 : decode cX8_shelvesOf 143 = .ok (.if_icmp .ne 7, 3) := by decide +kernel
theorem dX8_shelvesOf_146 : decode cX8_shelvesOf 146 = .ok (.iload_n 3, 1) := by decide +kernel
theorem dX8_shelvesOf_147 : decode cX8_shelvesOf 147 = .ok (.goto 5, 3) := by decide +kernel
theorem dX8_shelvesOf_150 : decode cX8_shelvesOf 150 = .ok (.iload 4, 2) := by decide +kernel
theorem dX8_shelvesOf_152 : decode cX8_shelvesOf 152 = .ok (.ireturn, 1) := by decide +kernel
theorem dX8_shelves_0 : decode cX8_shelves 0 = .ok (.iload_n 1, 1) := by decide +kernel
theorem dX8_shelves_1 : decode cX8_shelves 1 = .ok (.iconst (-1), 1) := by decide +kernel
theorem dX8_shelves_2 : decode cX8_shelves 2 = .ok (.iconst 5, 1) := by decide +kernel
theorem dX8_shelves_3 : decode cX8_shelves 3 = .ok (.invokestatic 98, 3) := by decide +kernel
theorem dX8_shelves_6 : decode cX8_shelves 6 = .ok (.ifCond .eq 11, 3) := by decide +kernel
theorem dX8_shelves_9 : decode cX8_shelves 9 = .ok (.aload_n 0, 1) := by decide +kernel
theorem dX8_shelves_10 : decode cX8_shelves 10 = .ok (.iload_n 1, 1) := by decide +kernel
theorem dX8_shelves_11 : decode cX8_shelves 11 = .ok (.invokevirtual 242, 3) := by decide +kernel
theorem dX8_shelves_14 : decode cX8_shelves 14 = .ok (.goto 5, 3) := by decide +kernel
theorem dX8_shelves_17 : decode cX8_shelves 17 = .ok (.bipush (-2), 2) := by decide +kernel
theorem dX8_shelves_19 : decode cX8_shelves 19 = .ok (.ireturn, 1) := by decide +kernel
theorem dX8_arePair_0 : decode cX8_arePair 0 = .ok (.aload_n 0, 1) := by decide +kernel
theorem dX8_arePair_1 : decode cX8_arePair 1 = .ok (.getfield 16, 3) := by decide +kernel
theorem dX8_arePair_4 : decode cX8_arePair 4 = .ok (.iload_n 1, 1) := by decide +kernel
theorem dX8_arePair_5 : decode cX8_arePair 5 = .ok (.iaload, 1) := by decide +kernel
theorem dX8_arePair_6 : decode cX8_arePair 6 = .ok (.aload_n 0, 1) := by decide +kernel
theorem dX8_arePair_7 : decode cX8_arePair 7 = .ok (.getfield 16, 3) := by decide +kernel
theorem dX8_arePair_10 : decode cX8_arePair 10 = .ok (.iload_n 2, 1) := by decide +kernel
theorem dX8_arePair_11 : decode cX8_arePair 11 = .ok (.iaload, 1) := by decide +kernel
theorem dX8_arePair_12 : decode cX8_arePair 12 = .ok (.ixor, 1) := by decide +kernel
theorem dX8_arePair_13 : decode cX8_arePair 13 = .ok (.invokestatic 164, 3) := by decide +kernel
theorem dX8_arePair_16 : decode cX8_arePair 16 = .ok (.iconst 1, 1) := by decide +kernel
theorem dX8_arePair_17 : decode cX8_arePair 17 = .ok (.if_icmp .ne 7, 3) := by decide +kernel
theorem dX8_arePair_20 : decode cX8_arePair 20 = .ok (.iconst 1, 1) := by decide +kernel
theorem dX8_arePair_21 : decode cX8_arePair 21 = .ok (.goto 4, 3) := by decide +kernel
theorem dX8_arePair_24 : decode cX8_arePair 24 = .ok (.iconst 0, 1) := by decide +kernel
theorem dX8_arePair_25 : decode cX8_arePair 25 = .ok (.ireturn, 1) := by decide +kernel
theorem dX8_laysPairs_0 : decode cX8_laysPairs 0 = .ok (.aload_n 0, 1) := by decide +kernel
theorem dX8_laysPairs_1 : decode cX8_laysPairs 1 = .ok (.invokevirtual 123, 3) := by decide +kernel
theorem dX8_laysPairs_4 : decode cX8_laysPairs 4 = .ok (.iconst 0, 1) := by decide +kernel
theorem dX8_laysPairs_5 : decode cX8_laysPairs 5 = .ok (.istore_n 1, 1) := by decide +kernel
theorem dX8_laysPairs_6 : decode cX8_laysPairs 6 = .ok (.iload_n 1, 1) := by decide +kernel
theorem dX8_laysPairs_7 : decode cX8_laysPairs 7 = .ok (.iconst 1, 1) := by decide +kernel
theorem dX8_laysPairs_8 : decode cX8_laysPairs 8 = .ok (.aload_n 0, 1) := by decide +kernel
theorem dX8_laysPairs_9 : decode cX8_laysPairs 9 = .ok (.getfield 106, 3) := by decide +kernel
theorem dX8_laysPairs_12 : decode cX8_laysPairs 12 = .ok (.ishl, 1) := by decide +kernel
theorem dX8_laysPairs_13 : decode cX8_laysPairs 13 = .ok (.if_icmp .ge 136, 3) := by decide +kernel
theorem dX8_laysPairs_16 : decode cX8_laysPairs 16 = .ok (.iconst 0, 1) := by decide +kernel
theorem dX8_laysPairs_17 : decode cX8_laysPairs 17 = .ok (.istore_n 2, 1) := by decide +kernel
theorem dX8_laysPairs_18 : decode cX8_laysPairs 18 = .ok (.iload_n 2, 1) := by decide +kernel
theorem dX8_laysPairs_19 : decode cX8_laysPairs 19 = .ok (.bipush 8, 2) := by decide +kernel
theorem dX8_laysPairs_21 : decode cX8_laysPairs 21 = .ok (.if_icmp .ge 17, 3) := by decide +kernel
theorem dX8_laysPairs_24 : decode cX8_laysPairs 24 = .ok (.iload_n 1, 1) := by decide +kernel
theorem dX8_laysPairs_25 : decode cX8_laysPairs 25 = .ok (.iload_n 2, 1) := by decide +kernel
theorem dX8_laysPairs_26 : decode cX8_laysPairs 26 = .ok (.invokestatic 204, 3) := by decide +kernel
theorem dX8_laysPairs_29 : decode cX8_laysPairs 29 = .ok (.ifCond .ne 9, 3) := by decide +kernel
theorem dX8_laysPairs_32 : decode cX8_laysPairs 32 = .ok (.iinc 2 1, 3) := by decide +kernel
theorem dX8_laysPairs_35 : decode cX8_laysPairs 35 = .ok (.goto (-17), 3) := by decide +kernel
theorem dX8_laysPairs_38 : decode cX8_laysPairs 38 = .ok (.iload_n 1, 1) := by decide +kernel
theorem dX8_laysPairs_39 : decode cX8_laysPairs 39 = .ok (.ifCond .ne 7, 3) := by decide +kernel
theorem dX8_laysPairs_42 : decode cX8_laysPairs 42 = .ok (.iconst 0, 1) := by decide +kernel
theorem dX8_laysPairs_43 : decode cX8_laysPairs 43 = .ok (.goto 15, 3) := by decide +kernel
theorem dX8_laysPairs_46 : decode cX8_laysPairs 46 = .ok (.aload_n 0, 1) := by decide +kernel
theorem dX8_laysPairs_47 : decode cX8_laysPairs 47 = .ok (.getfield 58, 3) := by decide +kernel
theorem dX8_laysPairs_50 : decode cX8_laysPairs 50 = .ok (.iload_n 1, 1) := by decide +kernel
theorem dX8_laysPairs_51 : decode cX8_laysPairs 51 = .ok (.iconst 1, 1) := by decide +kernel
theorem dX8_laysPairs_52 : decode cX8_laysPairs 52 = .ok (.iload_n 2, 1) := by decide +kernel
theorem dX8_laysPairs_53 : decode cX8_laysPairs 53 = .ok (.ishl, 1) := by decide +kernel
theorem dX8_laysPairs_54 : decode cX8_laysPairs 54 = .ok (.iconst (-1), 1) := by decide +kernel
theorem dX8_laysPairs_55 : decode cX8_laysPairs 55 = .ok (.ixor, 1) := by decide +kernel
theorem dX8_laysPairs_56 : decode cX8_laysPairs 56 = .ok (.iand, 1) := by decide +kernel
theorem dX8_laysPairs_57 : decode cX8_laysPairs 57 = .ok (.iaload, 1) := by decide +kernel
theorem dX8_laysPairs_58 : decode cX8_laysPairs 58 = .ok (.istore_n 3, 1) := by decide +kernel
theorem dX8_laysPairs_59 : decode cX8_laysPairs 59 = .ok (.iload_n 2, 1) := by decide +kernel
theorem dX8_laysPairs_60 : decode cX8_laysPairs 60 = .ok (.iconst 1, 1) := by decide +kernel
theorem dX8_laysPairs_61 : decode cX8_laysPairs 61 = .ok (.iadd, 1) := by decide +kernel
theorem dX8_laysPairs_62 : decode cX8_laysPairs 62 = .ok (.istore 4, 2) := by decide +kernel
theorem dX8_laysPairs_64 : decode cX8_laysPairs 64 = .ok (.iload 4, 2) := by decide +kernel
theorem dX8_laysPairs_66 : decode cX8_laysPairs 66 = .ok (.aload_n 0, 1) := by decide +kernel
theorem dX8_laysPairs_67 : decode cX8_laysPairs 67 = .ok (.getfield 106, 3) := by decide +kernel
theorem dX8_laysPairs_70 : decode cX8_laysPairs 70 = .ok (.if_icmp .ge 66, 3) := by decide +kernel
theorem dX8_laysPairs_73 : decode cX8_laysPairs 73 = .ok (.iload_n 1, 1) := by decide +kernel
theorem dX8_laysPairs_74 : decode cX8_laysPairs 74 = .ok (.iload 4, 2) := by decide +kernel
theorem dX8_laysPairs_76 : decode cX8_laysPairs 76 = .ok (.invokestatic 204, 3) := by decide +kernel
theorem dX8_laysPairs_79 : decode cX8_laysPairs 79 = .ok (.ifCond .eq 35, 3) := by decide +kernel
theorem dX8_laysPairs_82 : decode cX8_laysPairs 82 = .ok (.aload_n 0, 1) := by decide +kernel
theorem dX8_laysPairs_83 : decode cX8_laysPairs 83 = .ok (.iload_n 2, 1) := by decide +kernel
theorem dX8_laysPairs_84 : decode cX8_laysPairs 84 = .ok (.iload 4, 2) := by decide +kernel
theorem dX8_laysPairs_86 : decode cX8_laysPairs 86 = .ok (.invokevirtual 245, 3) := by decide +kernel
theorem dX8_laysPairs_89 : decode cX8_laysPairs 89 = .ok (.ifCond .eq 25, 3) := by decide +kernel
theorem dX8_laysPairs_92 : decode cX8_laysPairs 92 = .ok (.iconst 1, 1) := by decide +kernel
theorem dX8_laysPairs_93 : decode cX8_laysPairs 93 = .ok (.aload_n 0, 1) := by decide +kernel
theorem dX8_laysPairs_94 : decode cX8_laysPairs 94 = .ok (.getfield 58, 3) := by decide +kernel
theorem dX8_laysPairs_97 : decode cX8_laysPairs 97 = .ok (.iload_n 1, 1) := by decide +kernel
theorem dX8_laysPairs_98 : decode cX8_laysPairs 98 = .ok (.iconst 1, 1) := by decide +kernel
theorem dX8_laysPairs_99 : decode cX8_laysPairs 99 = .ok (.iload_n 2, 1) := by decide +kernel
theorem dX8_laysPairs_100 : decode cX8_laysPairs 100 = .ok (.ishl, 1) := by decide +kernel
theorem dX8_laysPairs_101 : decode cX8_laysPairs 101 = .ok (.iconst 1, 1) := by decide +kernel
theorem dX8_laysPairs_102 : decode cX8_laysPairs 102 = .ok (.iload 4, 2) := by decide +kernel
theorem dX8_laysPairs_104 : decode cX8_laysPairs 104 = .ok (.ishl, 1) := by decide +kernel
theorem dX8_laysPairs_105 : decode cX8_laysPairs 105 = .ok (.ior, 1) := by decide +kernel
theorem dX8_laysPairs_106 : decode cX8_laysPairs 106 = .ok (.iconst (-1), 1) := by decide +kernel
theorem dX8_laysPairs_107 : decode cX8_laysPairs 107 = .ok (.ixor, 1) := by decide +kernel
theorem dX8_laysPairs_108 : decode cX8_laysPairs 108 = .ok (.iand, 1) := by decide +kernel
theorem dX8_laysPairs_109 : decode cX8_laysPairs 109 = .ok (.iaload, 1) := by decide +kernel
theorem dX8_laysPairs_110 : decode cX8_laysPairs 110 = .ok (.iadd, 1) := by decide +kernel
theorem dX8_laysPairs_111 : decode cX8_laysPairs 111 = .ok (.goto 4, 3) := by decide +kernel
theorem dX8_laysPairs_114 : decode cX8_laysPairs 114 = .ok (.iconst 0, 1) := by decide +kernel
theorem dX8_laysPairs_115 : decode cX8_laysPairs 115 = .ok (.istore 5, 2) := by decide +kernel
theorem dX8_laysPairs_117 : decode cX8_laysPairs 117 = .ok (.iload 5, 2) := by decide +kernel
theorem dX8_laysPairs_119 : decode cX8_laysPairs 119 = .ok (.iload_n 3, 1) := by decide +kernel
theorem dX8_laysPairs_120 : decode cX8_laysPairs 120 = .ok (.if_icmp .le 8, 3) := by decide +kernel
theorem dX8_laysPairs_123 : decode cX8_laysPairs 123 = .ok (.iload 5, 2) := by decide +kernel
theorem dX8_laysPairs_125 : decode cX8_laysPairs 125 = .ok (.goto 4, 3) := by decide +kernel
theorem dX8_laysPairs_128 : decode cX8_laysPairs 128 = .ok (.iload_n 3, 1) := by decide +kernel
theorem dX8_laysPairs_129 : decode cX8_laysPairs 129 = .ok (.istore_n 3, 1) := by decide +kernel
theorem dX8_laysPairs_130 : decode cX8_laysPairs 130 = .ok (.iinc 4 1, 3) := by decide +kernel
theorem dX8_laysPairs_133 : decode cX8_laysPairs 133 = .ok (.goto (-69), 3) := by decide +kernel
theorem dX8_laysPairs_136 : decode cX8_laysPairs 136 = .ok (.aload_n 0, 1) := by decide +kernel
theorem dX8_laysPairs_137 : decode cX8_laysPairs 137 = .ok (.getfield 58, 3) := by decide +kernel
theorem dX8_laysPairs_140 : decode cX8_laysPairs 140 = .ok (.iload_n 1, 1) := by decide +kernel
theorem dX8_laysPairs_141 : decode cX8_laysPairs 141 = .ok (.iload_n 3, 1) := by decide +kernel
theorem dX8_laysPairs_142 : decode cX8_laysPairs 142 = .ok (.iastore, 1) := by decide +kernel
theorem dX8_laysPairs_143 : decode cX8_laysPairs 143 = .ok (.iinc 1 1, 3) := by decide +kernel
theorem dX8_laysPairs_146 : decode cX8_laysPairs 146 = .ok (.goto (-140), 3) := by decide +kernel
theorem dX8_laysPairs_149 : decode cX8_laysPairs 149 = .ok (.iconst 1, 1) := by decide +kernel
theorem dX8_laysPairs_150 : decode cX8_laysPairs 150 = .ok (.aload_n 0, 1) := by decide +kernel
theorem dX8_laysPairs_151 : decode cX8_laysPairs 151 = .ok (.getfield 106, 3) := by decide +kernel
theorem dX8_laysPairs_154 : decode cX8_laysPairs 154 = .ok (.ishl, 1) := by decide +kernel
theorem dX8_laysPairs_155 : decode cX8_laysPairs 155 = .ok (.iconst 1, 1) := by decide +kernel
theorem dX8_laysPairs_156 : decode cX8_laysPairs 156 = .ok (.isub, 1) := by decide +kernel
theorem dX8_laysPairs_157 : decode cX8_laysPairs 157 = .ok (.istore_n 1, 1) := by decide +kernel
theorem dX8_laysPairs_158 : decode cX8_laysPairs 158 = .ok (.iconst 0, 1) := by decide +kernel
theorem dX8_laysPairs_159 : decode cX8_laysPairs 159 = .ok (.istore_n 2, 1) := by decide +kernel
theorem dX8_laysPairs_160 : decode cX8_laysPairs 160 = .ok (.iload_n 2, 1) := by decide +kernel
theorem dX8_laysPairs_161 : decode cX8_laysPairs 161 = .ok (.bipush 8, 2) := by decide +kernel
theorem dX8_laysPairs_163 : decode cX8_laysPairs 163 = .ok (.if_icmp .ge 16, 3) := by decide +kernel
theorem dX8_laysPairs_166 : decode cX8_laysPairs 166 = .ok (.aload_n 0, 1) := by decide +kernel
theorem dX8_laysPairs_167 : decode cX8_laysPairs 167 = .ok (.getfield 61, 3) := by decide +kernel
theorem dX8_laysPairs_170 : decode cX8_laysPairs 170 = .ok (.iload_n 2, 1) := by decide +kernel
theorem dX8_laysPairs_171 : decode cX8_laysPairs 171 = .ok (.iconst (-1), 1) := by decide +kernel
theorem dX8_laysPairs_172 : decode cX8_laysPairs 172 = .ok (.iastore, 1) := by decide +kernel
theorem dX8_laysPairs_173 : decode cX8_laysPairs 173 = .ok (.iinc 2 1, 3) := by decide +kernel
theorem dX8_laysPairs_176 : decode cX8_laysPairs 176 = .ok (.goto (-16), 3) := by decide +kernel
theorem dX8_laysPairs_179 : decode cX8_laysPairs 179 = .ok (.iconst 0, 1) := by decide +kernel
theorem dX8_laysPairs_180 : decode cX8_laysPairs 180 = .ok (.istore_n 2, 1) := by decide +kernel
theorem dX8_laysPairs_181 : decode cX8_laysPairs 181 = .ok (.iload_n 2, 1) := by decide +kernel
theorem dX8_laysPairs_182 : decode cX8_laysPairs 182 = .ok (.aload_n 0, 1) := by decide +kernel
theorem dX8_laysPairs_183 : decode cX8_laysPairs 183 = .ok (.getfield 106, 3) := by decide +kernel
theorem dX8_laysPairs_186 : decode cX8_laysPairs 186 = .ok (.if_icmp .ge 140, 3) := by decide +kernel
theorem dX8_laysPairs_189 : decode cX8_laysPairs 189 = .ok (.iload_n 1, 1) := by decide +kernel
theorem dX8_laysPairs_190 : decode cX8_laysPairs 190 = .ok (.iload_n 2, 1) := by decide +kernel
theorem dX8_laysPairs_191 : decode cX8_laysPairs 191 = .ok (.invokestatic 204, 3) := by decide +kernel
theorem dX8_laysPairs_194 : decode cX8_laysPairs 194 = .ok (.ifCond .eq 126, 3) := by decide +kernel
theorem dX8_laysPairs_197 : decode cX8_laysPairs 197 = .ok (.iconst (-1), 1) := by decide +kernel
theorem dX8_laysPairs_198 : decode cX8_laysPairs 198 = .ok (.istore_n 3, 1) := by decide +kernel
theorem dX8_laysPairs_199 : decode cX8_laysPairs 199 = .ok (.aload_n 0, 1) := by decide +kernel
theorem dX8_laysPairs_200 : decode cX8_laysPairs 200 = .ok (.getfield 106, 3) := by decide +kernel
theorem dX8_laysPairs_203 : decode cX8_laysPairs 203 = .ok (.iconst 1, 1) := by decide +kernel
theorem dX8_laysPairs_204 : decode cX8_laysPairs 204 = .ok (.isub, 1) := by decide +kernel
theorem dX8_laysPairs_205 : decode cX8_laysPairs 205 = .ok (.istore 4, 2) := by decide +kernel
theorem dX8_laysPairs_207 : decode cX8_laysPairs 207 = .ok (.iload 4, 2) := by decide +kernel
theorem dX8_laysPairs_209 : decode cX8_laysPairs 209 = .ok (.iload_n 2, 1) := by decide +kernel
theorem dX8_laysPairs_210 : decode cX8_laysPairs 210 = .ok (.if_icmp .le 75, 3) := by decide +kernel
theorem dX8_laysPairs_213 : decode cX8_laysPairs 213 = .ok (.iload_n 1, 1) := by decide +kernel
theorem dX8_laysPairs_214 : decode cX8_laysPairs 214 = .ok (.iload 4, 2) := by decide +kernel
theorem dX8_laysPairs_216 : decode cX8_laysPairs 216 = .ok (.invokestatic 204, 3) := by decide +kernel
theorem dX8_laysPairs_219 : decode cX8_laysPairs 219 = .ok (.ifCond .eq 45, 3) := by decide +kernel
theorem dX8_laysPairs_222 : decode cX8_laysPairs 222 = .ok (.aload_n 0, 1) := by decide +kernel
theorem dX8_laysPairs_223 : decode cX8_laysPairs 223 = .ok (.iload_n 2, 1) := by decide +kernel
theorem dX8_laysPairs_224 : decode cX8_laysPairs 224 = .ok (.iload 4, 2) := by decide +kernel
theorem dX8_laysPairs_226 : decode cX8_laysPairs 226 = .ok (.invokevirtual 245, 3) := by decide +kernel
theorem dX8_laysPairs_229 : decode cX8_laysPairs 229 = .ok (.ifCond .eq 35, 3) := by decide +kernel
theorem dX8_laysPairs_232 : decode cX8_laysPairs 232 = .ok (.iconst 1, 1) := by decide +kernel
theorem dX8_laysPairs_233 : decode cX8_laysPairs 233 = .ok (.aload_n 0, 1) := by decide +kernel
theorem dX8_laysPairs_234 : decode cX8_laysPairs 234 = .ok (.getfield 58, 3) := by decide +kernel
theorem dX8_laysPairs_237 : decode cX8_laysPairs 237 = .ok (.iload_n 1, 1) := by decide +kernel
theorem dX8_laysPairs_238 : decode cX8_laysPairs 238 = .ok (.iconst 1, 1) := by decide +kernel
theorem dX8_laysPairs_239 : decode cX8_laysPairs 239 = .ok (.iload_n 2, 1) := by decide +kernel
theorem dX8_laysPairs_240 : decode cX8_laysPairs 240 = .ok (.ishl, 1) := by decide +kernel
theorem dX8_laysPairs_241 : decode cX8_laysPairs 241 = .ok (.iconst 1, 1) := by decide +kernel
theorem dX8_laysPairs_242 : decode cX8_laysPairs 242 = .ok (.iload 4, 2) := by decide +kernel
theorem dX8_laysPairs_244 : decode cX8_laysPairs 244 = .ok (.ishl, 1) := by decide +kernel
theorem dX8_laysPairs_245 : decode cX8_laysPairs 245 = .ok (.ior, 1) := by decide +kernel
theorem dX8_laysPairs_246 : decode cX8_laysPairs 246 = .ok (.iconst (-1), 1) := by decide +kernel
theorem dX8_laysPairs_247 : decode cX8_laysPairs 247 = .ok (.ixor, 1) := by decide +kernel
theorem dX8_laysPairs_248 : decode cX8_laysPairs 248 = .ok (.iand, 1) := by decide +kernel
theorem dX8_laysPairs_249 : decode cX8_laysPairs 249 = .ok (.iaload, 1) := by decide +kernel
theorem dX8_laysPairs_250 : decode cX8_laysPairs 250 = .ok (.iadd, 1) := by decide +kernel
theorem dX8_laysPairs_251 : decode cX8_laysPairs 251 = .ok (.aload_n 0, 1) := by decide +kernel
theorem dX8_laysPairs_252 : decode cX8_laysPairs 252 = .ok (.getfield 58, 3) := by decide +kernel
theorem dX8_laysPairs_255 : decode cX8_laysPairs 255 = .ok (.iload_n 1, 1) := by decide +kernel
theorem dX8_laysPairs_256 : decode cX8_laysPairs 256 = .ok (.iaload, 1) := by decide +kernel
theorem dX8_laysPairs_257 : decode cX8_laysPairs 257 = .ok (.if_icmp .ne 7, 3) := by decide +kernel
theorem dX8_laysPairs_260 : decode cX8_laysPairs 260 = .ok (.iconst 1, 1) := by decide +kernel
theorem dX8_laysPairs_261 : decode cX8_laysPairs 261 = .ok (.goto 4, 3) := by decide +kernel
theorem dX8_laysPairs_264 : decode cX8_laysPairs 264 = .ok (.iconst 0, 1) := by decide +kernel
theorem dX8_laysPairs_265 : decode cX8_laysPairs 265 = .ok (.istore 5, 2) := by decide +kernel
theorem dX8_laysPairs_267 : decode cX8_laysPairs 267 = .ok (.iload 5, 2) := by decide +kernel
theorem dX8_laysPairs_269 : decode cX8_laysPairs 269 = .ok (.ifCond .eq 8, 3) := by decide +kernel
theorem dX8_laysPairs_272 : decode cX8_laysPairs 272 = .ok (.iload 4, 2) := by decide +kernel
theorem dX8_laysPairs_274 : decode cX8_laysPairs 274 = .ok (.goto 4, 3) := by decide +kernel
theorem dX8_laysPairs_277 : decode cX8_laysPairs 277 = .ok (.iload_n 3, 1) := by decide +kernel
theorem dX8_laysPairs_278 : decode cX8_laysPairs 278 = .ok (.istore_n 3, 1) := by decide +kernel
theorem dX8_laysPairs_279 : decode cX8_laysPairs 279 = .ok (.iinc 4 (-1), 3) := by decide +kernel
theorem dX8_laysPairs_282 : decode cX8_laysPairs 282 = .ok (.goto (-75), 3) := by decide +kernel
theorem dX8_laysPairs_285 : decode cX8_laysPairs 285 = .ok (.iload_n 3, 1) := by decide +kernel
theorem dX8_laysPairs_286 : decode cX8_laysPairs 286 = .ok (.iconst (-1), 1) := by decide +kernel
theorem dX8_laysPairs_287 : decode cX8_laysPairs 287 = .ok (.if_icmp .eq 25, 3) := by decide +kernel
theorem dX8_laysPairs_290 : decode cX8_laysPairs 290 = .ok (.aload_n 0, 1) := by decide +kernel
theorem dX8_laysPairs_291 : decode cX8_laysPairs 291 = .ok (.getfield 61, 3) := by decide +kernel
theorem dX8_laysPairs_294 : decode cX8_laysPairs 294 = .ok (.iload_n 2, 1) := by decide +kernel
theorem dX8_laysPairs_295 : decode cX8_laysPairs 295 = .ok (.iload_n 3, 1) := by decide +kernel
theorem dX8_laysPairs_296 : decode cX8_laysPairs 296 = .ok (.iastore, 1) := by decide +kernel
theorem dX8_laysPairs_297 : decode cX8_laysPairs 297 = .ok (.aload_n 0, 1) := by decide +kernel
theorem dX8_laysPairs_298 : decode cX8_laysPairs 298 = .ok (.getfield 61, 3) := by decide +kernel
theorem dX8_laysPairs_301 : decode cX8_laysPairs 301 = .ok (.iload_n 3, 1) := by decide +kernel
theorem dX8_laysPairs_302 : decode cX8_laysPairs 302 = .ok (.iload_n 2, 1) := by decide +kernel
theorem dX8_laysPairs_303 : decode cX8_laysPairs 303 = .ok (.iastore, 1) := by decide +kernel
theorem dX8_laysPairs_304 : decode cX8_laysPairs 304 = .ok (.iload_n 1, 1) := by decide +kernel
theorem dX8_laysPairs_305 : decode cX8_laysPairs 305 = .ok (.iconst 1, 1) := by decide +kernel
theorem dX8_laysPairs_306 : decode cX8_laysPairs 306 = .ok (.iload_n 3, 1) := by decide +kernel
theorem dX8_laysPairs_307 : decode cX8_laysPairs 307 = .ok (.ishl, 1) := by decide +kernel
theorem dX8_laysPairs_308 : decode cX8_laysPairs 308 = .ok (.iconst (-1), 1) := by decide +kernel
theorem dX8_laysPairs_309 : decode cX8_laysPairs 309 = .ok (.ixor, 1) := by decide +kernel
theorem dX8_laysPairs_310 : decode cX8_laysPairs 310 = .ok (.iand, 1) := by decide +kernel
theorem dX8_laysPairs_311 : decode cX8_laysPairs 311 = .ok (.istore_n 1, 1) := by decide +kernel
theorem dX8_laysPairs_312 : decode cX8_laysPairs 312 = .ok (.iload_n 1, 1) := by decide +kernel
theorem dX8_laysPairs_313 : decode cX8_laysPairs 313 = .ok (.iconst 1, 1) := by decide +kernel
theorem dX8_laysPairs_314 : decode cX8_laysPairs 314 = .ok (.iload_n 2, 1) := by decide +kernel
theorem dX8_laysPairs_315 : decode cX8_laysPairs 315 = .ok (.ishl, 1) := by decide +kernel
theorem dX8_laysPairs_316 : decode cX8_laysPairs 316 = .ok (.iconst (-1), 1) := by decide +kernel
theorem dX8_laysPairs_317 : decode cX8_laysPairs 317 = .ok (.ixor, 1) := by decide +kernel
theorem dX8_laysPairs_318 : decode cX8_laysPairs 318 = .ok (.iand, 1) := by decide +kernel
theorem dX8_laysPairs_319 : decode cX8_laysPairs 319 = .ok (.istore_n 1, 1) := by decide +kernel
theorem dX8_laysPairs_320 : decode cX8_laysPairs 320 = .ok (.iinc 2 1, 3) := by decide +kernel
theorem dX8_laysPairs_323 : decode cX8_laysPairs 323 = .ok (.goto (-142), 3) := by decide +kernel
theorem dX8_laysPairs_326 : decode cX8_laysPairs 326 = .ok (.return_, 1) := by decide +kernel
theorem dX8_togetherOf_0 : decode cX8_togetherOf 0 = .ok (.aload_n 0, 1) := by decide +kernel
theorem dX8_togetherOf_1 : decode cX8_togetherOf 1 = .ok (.invokevirtual 248, 3) := by decide +kernel
theorem dX8_togetherOf_4 : decode cX8_togetherOf 4 = .ok (.iload_n 1, 1) := by decide +kernel
theorem dX8_togetherOf_5 : decode cX8_togetherOf 5 = .ok (.iconst (-1), 1) := by decide +kernel
theorem dX8_togetherOf_6 : decode cX8_togetherOf 6 = .ok (.if_icmp .ne 19, 3) := by decide +kernel
theorem dX8_togetherOf_9 : decode cX8_togetherOf 9 = .ok (.aload_n 0, 1) := by decide +kernel
theorem dX8_togetherOf_10 : decode cX8_togetherOf 10 = .ok (.getfield 58, 3) := by decide +kernel
theorem dX8_togetherOf_13 : decode cX8_togetherOf 13 = .ok (.iconst 1, 1) := by decide +kernel
theorem dX8_togetherOf_14 : decode cX8_togetherOf 14 = .ok (.aload_n 0, 1) := by decide +kernel
theorem dX8_togetherOf_15 : decode cX8_togetherOf 15 = .ok (.getfield 106, 3) := by decide +kernel
theorem dX8_togetherOf_18 : decode cX8_togetherOf 18 = .ok (.ishl, 1) := by decide +kernel
theorem dX8_togetherOf_19 : decode cX8_togetherOf 19 = .ok (.iconst 1, 1) := by decide +kernel
theorem dX8_togetherOf_20 : decode cX8_togetherOf 20 = .ok (.isub, 1) := by decide +kernel
theorem dX8_togetherOf_21 : decode cX8_togetherOf 21 = .ok (.iaload, 1) := by decide +kernel
theorem dX8_togetherOf_22 : decode cX8_togetherOf 22 = .ok (.goto 9, 3) := by decide +kernel
theorem dX8_togetherOf_25 : decode cX8_togetherOf 25 = .ok (.aload_n 0, 1) := by decide +kernel
theorem dX8_togetherOf_26 : decode cX8_togetherOf 26 = .ok (.getfield 61, 3) := by decide +kernel
theorem dX8_togetherOf_29 : decode cX8_togetherOf 29 = .ok (.iload_n 1, 1) := by decide +kernel
theorem dX8_togetherOf_30 : decode cX8_togetherOf 30 = .ok (.iaload, 1) := by decide +kernel
theorem dX8_togetherOf_31 : decode cX8_togetherOf 31 = .ok (.ireturn, 1) := by decide +kernel
theorem dX8_together_0 : decode cX8_together 0 = .ok (.iload_n 1, 1) := by decide +kernel
theorem dX8_together_1 : decode cX8_together 1 = .ok (.iconst (-1), 1) := by decide +kernel
theorem dX8_together_2 : decode cX8_together 2 = .ok (.bipush 7, 2) := by decide +kernel
theorem dX8_together_4 : decode cX8_together 4 = .ok (.invokestatic 98, 3) := by decide +kernel
theorem dX8_together_7 : decode cX8_together 7 = .ok (.ifCond .eq 11, 3) := by decide +kernel
theorem dX8_together_10 : decode cX8_together 10 = .ok (.aload_n 0, 1) := by decide +kernel
theorem dX8_together_11 : decode cX8_together 11 = .ok (.iload_n 1, 1) := by decide +kernel
theorem dX8_together_12 : decode cX8_together 12 = .ok (.invokevirtual 251, 3) := by decide +kernel
theorem dX8_together_15 : decode cX8_together 15 = .ok (.goto 5, 3) := by decide +kernel
theorem dX8_together_18 : decode cX8_together 18 = .ok (.bipush (-2), 2) := by decide +kernel
theorem dX8_together_20 : decode cX8_together 20 = .ok (.ireturn, 1) := by decide +kernel
theorem dX8_seen_0 : decode cX8_seen 0 = .ok (.iload_n 1, 1) := by decide +kernel
theorem dX8_seen_1 : decode cX8_seen 1 = .ok (.invokestatic 139, 3) := by decide +kernel
theorem dX8_seen_4 : decode cX8_seen 4 = .ok (.ifCond .eq 19, 3) := by decide +kernel
theorem dX8_seen_7 : decode cX8_seen 7 = .ok (.iload_n 2, 1) := by decide +kernel
theorem dX8_seen_8 : decode cX8_seen 8 = .ok (.invokestatic 142, 3) := by decide +kernel
theorem dX8_seen_11 : decode cX8_seen 11 = .ok (.ifCond .eq 12, 3) := by decide +kernel
theorem dX8_seen_14 : decode cX8_seen 14 = .ok (.iload_n 3, 1) := by decide +kernel
theorem dX8_seen_15 : decode cX8_seen 15 = .ok (.iconst 0, 1) := by decide +kernel
theorem dX8_seen_16 : decode cX8_seen 16 = .ok (.iconst 1, 1) := by decide +kernel
theorem dX8_seen_17 : decode cX8_seen 17 = .ok (.invokestatic 98, 3) := by decide +kernel
theorem dX8_seen_20 : decode cX8_seen 20 = .ok (.ifCond .ne 6, 3) := by decide +kernel
theorem dX8_seen_23 : decode cX8_seen 23 = .ok (.bipush (-2), 2) := by decide +kernel
theorem dX8_seen_25 : decode cX8_seen 25 = .ok (.ireturn, 1) := by decide +kernel
theorem dX8_seen_26 : decode cX8_seen 26 = .ok (.aload_n 0, 1) := by decide +kernel
theorem dX8_seen_27 : decode cX8_seen 27 = .ok (.getfield 254, 3) := by decide +kernel
theorem dX8_seen_30 : decode cX8_seen 30 = .ok (.bipush 8, 2) := by decide +kernel
theorem dX8_seen_32 : decode cX8_seen 32 = .ok (.if_icmp .ne 6, 3) := by decide +kernel
theorem dX8_seen_35 : decode cX8_seen 35 = .ok (.bipush (-4), 2) := by decide +kernel
theorem dX8_seen_37 : decode cX8_seen 37 = .ok (.ireturn, 1) := by decide +kernel
theorem dX8_seen_38 : decode cX8_seen 38 = .ok (.aload_n 0, 1) := by decide +kernel
theorem dX8_seen_39 : decode cX8_seen 39 = .ok (.getfield 64, 3) := by decide +kernel
theorem dX8_seen_42 : decode cX8_seen 42 = .ok (.aload_n 0, 1) := by decide +kernel
theorem dX8_seen_43 : decode cX8_seen 43 = .ok (.getfield 254, 3) := by decide +kernel
theorem dX8_seen_46 : decode cX8_seen 46 = .ok (.iload_n 1, 1) := by decide +kernel
theorem dX8_seen_47 : decode cX8_seen 47 = .ok (.iastore, 1) := by decide +kernel
theorem dX8_seen_48 : decode cX8_seen 48 = .ok (.aload_n 0, 1) := by decide +kernel
theorem dX8_seen_49 : decode cX8_seen 49 = .ok (.getfield 67, 3) := by decide +kernel
theorem dX8_seen_52 : decode cX8_seen 52 = .ok (.aload_n 0, 1) := by decide +kernel
theorem dX8_seen_53 : decode cX8_seen 53 = .ok (.getfield 254, 3) := by decide +kernel
theorem dX8_seen_56 : decode cX8_seen 56 = .ok (.iload_n 2, 1) := by decide +kernel
theorem dX8_seen_57 : decode cX8_seen 57 = .ok (.iastore, 1) := by decide +kernel
theorem dX8_seen_58 : decode cX8_seen 58 = .ok (.aload_n 0, 1) := by decide +kernel
theorem dX8_seen_59 : decode cX8_seen 59 = .ok (.getfield 70, 3) := by decide +kernel
theorem dX8_seen_62 : decode cX8_seen 62 = .ok (.aload_n 0, 1) := by decide +kernel
theorem dX8_seen_63 : decode cX8_seen 63 = .ok (.getfield 254, 3) := by decide +kernel
theorem dX8_seen_66 : decode cX8_seen 66 = .ok (.iload_n 3, 1) := by decide +kernel
theorem dX8_seen_67 : decode cX8_seen 67 = .ok (.iastore, 1) := by decide +kernel
theorem dX8_seen_68 : decode cX8_seen 68 = .ok (.aload_n 0, 1) := by decide +kernel
theorem dX8_seen_69 : decode cX8_seen 69 = .ok (.dup, 1) := by decide +kernel
theorem dX8_seen_70 : decode cX8_seen 70 = .ok (.getfield 254, 3) := by decide +kernel
theorem dX8_seen_73 : decode cX8_seen 73 = .ok (.iconst 1, 1) := by decide +kernel
theorem dX8_seen_74 : decode cX8_seen 74 = .ok (.iadd, 1) := by decide +kernel
theorem dX8_seen_75 : decode cX8_seen 75 = .ok (.putfield 254, 3) := by decide +kernel
theorem dX8_seen_78 : decode cX8_seen 78 = .ok (.aload_n 0, 1) := by decide +kernel
theorem dX8_seen_79 : decode cX8_seen 79 = .ok (.getfield 254, 3) := by decide +kernel
theorem dX8_seen_82 : decode cX8_seen 82 = .ok (.ireturn, 1) := by decide +kernel
theorem dX8_forget_0 : decode cX8_forget 0 = .ok (.aload_n 0, 1) := by decide +kernel
theorem dX8_forget_1 : decode cX8_forget 1 = .ok (.getfield 254, 3) := by decide +kernel
theorem dX8_forget_4 : decode cX8_forget 4 = .ok (.istore_n 1, 1) := by decide +kernel
theorem dX8_forget_5 : decode cX8_forget 5 = .ok (.aload_n 0, 1) := by decide +kernel
theorem dX8_forget_6 : decode cX8_forget 6 = .ok (.iconst 0, 1) := by decide +kernel
theorem dX8_forget_7 : decode cX8_forget 7 = .ok (.putfield 254, 3) := by decide +kernel
theorem dX8_forget_10 : decode cX8_forget 10 = .ok (.iload_n 1, 1) := by decide +kernel
theorem dX8_forget_11 : decode cX8_forget 11 = .ok (.ireturn, 1) := by decide +kernel
theorem dX8_whenOf_0 : decode cX8_whenOf 0 = .ok (.aload_n 0, 1) := by decide +kernel
theorem dX8_whenOf_1 : decode cX8_whenOf 1 = .ok (.invokevirtual 123, 3) := by decide +kernel
theorem dX8_whenOf_4 : decode cX8_whenOf 4 = .ok (.iconst 0, 1) := by decide +kernel
theorem dX8_whenOf_5 : decode cX8_whenOf 5 = .ok (.istore_n 2, 1) := by decide +kernel
theorem dX8_whenOf_6 : decode cX8_whenOf 6 = .ok (.aload_n 0, 1) := by decide +kernel
theorem dX8_whenOf_7 : decode cX8_whenOf 7 = .ok (.getfield 34, 3) := by decide +kernel
theorem dX8_whenOf_10 : decode cX8_whenOf 10 = .ok (.aload_n 0, 1) := by decide +kernel
theorem dX8_whenOf_11 : decode cX8_whenOf 11 = .ok (.getfield 145, 3) := by decide +kernel
theorem dX8_whenOf_14 : decode cX8_whenOf 14 = .ok (.iload_n 1, 1) := by decide +kernel
theorem dX8_whenOf_15 : decode cX8_whenOf 15 = .ok (.iastore, 1) := by decide +kernel
theorem dX8_whenOf_16 : decode cX8_whenOf 16 = .ok (.iconst 0, 1) := by decide +kernel
theorem dX8_whenOf_17 : decode cX8_whenOf 17 = .ok (.istore_n 3, 1) := by decide +kernel
theorem dX8_whenOf_18 : decode cX8_whenOf 18 = .ok (.iload_n 3, 1) := by decide +kernel
theorem dX8_whenOf_19 : decode cX8_whenOf 19 = .ok (.bipush 20, 2) := by decide +kernel
theorem dX8_whenOf_21 : decode cX8_whenOf 21 = .ok (.if_icmp .ge 113, 3) := by decide +kernel
theorem dX8_whenOf_24 : decode cX8_whenOf 24 = .ok (.aload_n 0, 1) := by decide +kernel
theorem dX8_whenOf_25 : decode cX8_whenOf 25 = .ok (.getfield 31, 3) := by decide +kernel
theorem dX8_whenOf_28 : decode cX8_whenOf 28 = .ok (.aload_n 0, 1) := by decide +kernel
theorem dX8_whenOf_29 : decode cX8_whenOf 29 = .ok (.getfield 145, 3) := by decide +kernel
theorem dX8_whenOf_32 : decode cX8_whenOf 32 = .ok (.iload_n 3, 1) := by decide +kernel
theorem dX8_whenOf_33 : decode cX8_whenOf 33 = .ok (.iastore, 1) := by decide +kernel
theorem dX8_whenOf_34 : decode cX8_whenOf 34 = .ok (.iconst 1, 1) := by decide +kernel
theorem dX8_whenOf_35 : decode cX8_whenOf 35 = .ok (.istore 4, 2) := by decide +kernel
theorem dX8_whenOf_37 : decode cX8_whenOf 37 = .ok (.iconst 0, 1) := by decide +kernel
theorem dX8_whenOf_38 : decode cX8_whenOf 38 = .ok (.istore 5, 2) := by decide +kernel
theorem dX8_whenOf_40 : decode cX8_whenOf 40 = .ok (.iload 5, 2) := by decide +kernel
theorem dX8_whenOf_42 : decode cX8_whenOf 42 = .ok (.aload_n 0, 1) := by decide +kernel
theorem dX8_whenOf_43 : decode cX8_whenOf 43 = .ok (.getfield 254, 3) := by decide +kernel
theorem dX8_whenOf_46 : decode cX8_whenOf 46 = .ok (.if_icmp .ge 67, 3) := by decide +kernel
theorem dX8_whenOf_49 : decode cX8_whenOf 49 = .ok (.iload 4, 2) := by decide +kernel
theorem dX8_whenOf_51 : decode cX8_whenOf 51 = .ok (.ifCond .eq 62, 3) := by decide +kernel
theorem dX8_whenOf_54 : decode cX8_whenOf 54 = .ok (.aload_n 0, 1) := by decide +kernel
theorem dX8_whenOf_55 : decode cX8_whenOf 55 = .ok (.aload_n 0, 1) := by decide +kernel
theorem dX8_whenOf_56 : decode cX8_whenOf 56 = .ok (.getfield 64, 3) := by decide +kernel
theorem dX8_whenOf_59 : decode cX8_whenOf 59 = .ok (.iload 5, 2) := by decide +kernel
theorem dX8_whenOf_61 : decode cX8_whenOf 61 = .ok (.iaload, 1) := by decide +kernel
theorem dX8_whenOf_62 : decode cX8_whenOf 62 = .ok (.aload_n 0, 1) := by decide +kernel
theorem dX8_whenOf_63 : decode cX8_whenOf 63 = .ok (.getfield 145, 3) := by decide +kernel
theorem dX8_whenOf_66 : decode cX8_whenOf 66 = .ok (.iconst 1, 1) := by decide +kernel
theorem dX8_whenOf_67 : decode cX8_whenOf 67 = .ok (.iadd, 1) := by decide +kernel
theorem dX8_whenOf_68 : decode cX8_whenOf 68 = .ok (.aload_n 0, 1) := by decide +kernel
theorem dX8_whenOf_69 : decode cX8_whenOf 69 = .ok (.getfield 148, 3) := by decide +kernel
theorem dX8_whenOf_72 : decode cX8_whenOf 72 = .ok (.invokevirtual 183, 3) := by decide +kernel
theorem dX8_whenOf_75 : decode cX8_whenOf 75 = .ok (.aload_n 0, 1) := by decide +kernel
theorem dX8_whenOf_76 : decode cX8_whenOf 76 = .ok (.iconst 0, 1) := by decide +kernel
theorem dX8_whenOf_77 : decode cX8_whenOf 77 = .ok (.invokevirtual 191, 3) := by decide +kernel
theorem dX8_whenOf_80 : decode cX8_whenOf 80 = .ok (.aload_n 0, 1) := by decide +kernel
theorem dX8_whenOf_81 : decode cX8_whenOf 81 = .ok (.getfield 67, 3) := by decide +kernel
theorem dX8_whenOf_84 : decode cX8_whenOf 84 = .ok (.iload 5, 2) := by decide +kernel
theorem dX8_whenOf_86 : decode cX8_whenOf 86 = .ok (.iaload, 1) := by decide +kernel
theorem dX8_whenOf_87 : decode cX8_whenOf 87 = .ok (.ishr, 1) := by decide +kernel
theorem dX8_whenOf_88 : decode cX8_whenOf 88 = .ok (.iconst 1, 1) := by decide +kernel
theorem dX8_whenOf_89 : decode cX8_whenOf 89 = .ok (.iand, 1) := by decide +kernel
theorem dX8_whenOf_90 : decode cX8_whenOf 90 = .ok (.aload_n 0, 1) := by decide +kernel
theorem dX8_whenOf_91 : decode cX8_whenOf 91 = .ok (.getfield 70, 3) := by decide +kernel
theorem dX8_whenOf_94 : decode cX8_whenOf 94 = .ok (.iload 5, 2) := by decide +kernel
theorem dX8_whenOf_96 : decode cX8_whenOf 96 = .ok (.iaload, 1) := by decide +kernel
theorem dX8_whenOf_97 : decode cX8_whenOf 97 = .ok (.if_icmp .ne 7, 3) := by decide +kernel
theorem dX8_whenOf_100 : decode cX8_whenOf 100 = .ok (.iconst 1, 1) := by decide +kernel
theorem dX8_whenOf_101 : decode cX8_whenOf 101 = .ok (.goto 4, 3) := by decide +kernel
theorem dX8_whenOf_104 : decode cX8_whenOf 104 = .ok (.iconst 0, 1) := by decide +kernel
theorem dX8_whenOf_105 : decode cX8_whenOf 105 = .ok (.istore 4, 2) := by decide +kernel
theorem dX8_whenOf_107 : decode cX8_whenOf 107 = .ok (.iinc 5 1, 3) := by decide +kernel
theorem dX8_whenOf_110 : decode cX8_whenOf 110 = .ok (.goto (-70), 3) := by decide +kernel
theorem dX8_whenOf_113 : decode cX8_whenOf 113 = .ok (.iload_n 2, 1) := by decide +kernel
theorem dX8_whenOf_114 : decode cX8_whenOf 114 = .ok (.iload 4, 2) := by decide +kernel
theorem dX8_whenOf_116 : decode cX8_whenOf 116 = .ok (.ifCond .eq 9, 3) := by decide +kernel
theorem dX8_whenOf_119 : decode cX8_whenOf 119 = .ok (.iconst 1, 1) := by decide +kernel
theorem dX8_whenOf_120 : decode cX8_whenOf 120 = .ok (.iload_n 3, 1) := by decide +kernel
theorem dX8_whenOf_121 : decode cX8_whenOf 121 = .ok (.ishl, 1) := by decide +kernel
theorem dX8_whenOf_122 : decode cX8_whenOf 122 = .ok (.goto 4, 3) := by decide +kernel
theorem dX8_whenOf_125 : decode cX8_whenOf 125 = .ok (.iconst 0, 1) := by decide +kernel
theorem dX8_whenOf_126 : decode cX8_whenOf 126 = .ok (.ior, 1) := by decide +kernel
theorem dX8_whenOf_127 : decode cX8_whenOf 127 = .ok (.istore_n 2, 1) := by decide +kernel
theorem dX8_whenOf_128 : decode cX8_whenOf 128 = .ok (.iinc 3 1, 3) := by decide +kernel
theorem dX8_whenOf_131 : decode cX8_whenOf 131 = .ok (.goto (-113), 3) := by decide +kernel
theorem dX8_whenOf_134 : decode cX8_whenOf 134 = .ok (.iload_n 2, 1) := by decide +kernel
theorem dX8_whenOf_135 : decode cX8_whenOf 135 = .ok (.ireturn, 1) := by decide +kernel
theorem dX8_when_0 : decode cX8_when 0 = .ok (.aload_n 0, 1) := by decide +kernel
theorem dX8_when_1 : decode cX8_when 1 = .ok (.iload_n 1, 1) := by decide +kernel
theorem dX8_when_2 : decode cX8_when 2 = .ok (.invokevirtual 126, 3) := by decide +kernel
theorem dX8_when_5 : decode cX8_when 5 = .ok (.ifCond .eq 11, 3) := by decide +kernel
theorem dX8_when_8 : decode cX8_when 8 = .ok (.aload_n 0, 1) := by decide +kernel
theorem dX8_when_9 : decode cX8_when 9 = .ok (.iload_n 1, 1) := by decide +kernel
theorem dX8_when_10 : decode cX8_when 10 = .ok (.invokevirtual 257, 3) := by decide +kernel
theorem dX8_when_13 : decode cX8_when 13 = .ok (.goto 5, 3) := by decide +kernel
theorem dX8_when_16 : decode cX8_when 16 = .ok (.bipush (-2), 2) := by decide +kernel
theorem dX8_when_18 : decode cX8_when 18 = .ok (.ireturn, 1) := by decide +kernel
theorem dX8_weeksOf_0 : decode cX8_weeksOf 0 = .ok (.aload_n 0, 1) := by decide +kernel
theorem dX8_weeksOf_1 : decode cX8_weeksOf 1 = .ok (.invokevirtual 123, 3) := by decide +kernel
theorem dX8_weeksOf_4 : decode cX8_weeksOf 4 = .ok (.iload_n 1, 1) := by decide +kernel
theorem dX8_weeksOf_5 : decode cX8_weeksOf 5 = .ok (.istore 4, 2) := by decide +kernel
theorem dX8_weeksOf_7 : decode cX8_weeksOf 7 = .ok (.aload_n 0, 1) := by decide +kernel
theorem dX8_weeksOf_8 : decode cX8_weeksOf 8 = .ok (.getfield 145, 3) := by decide +kernel
theorem dX8_weeksOf_11 : decode cX8_weeksOf 11 = .ok (.istore 5, 2) := by decide +kernel
theorem dX8_weeksOf_13 : decode cX8_weeksOf 13 = .ok (.aload_n 0, 1) := by decide +kernel
theorem dX8_weeksOf_14 : decode cX8_weeksOf 14 = .ok (.getfield 148, 3) := by decide +kernel
theorem dX8_weeksOf_17 : decode cX8_weeksOf 17 = .ok (.istore 6, 2) := by decide +kernel
theorem dX8_weeksOf_19 : decode cX8_weeksOf 19 = .ok (.iconst 0, 1) := by decide +kernel
theorem dX8_weeksOf_20 : decode cX8_weeksOf 20 = .ok (.istore 7, 2) := by decide +kernel
theorem dX8_weeksOf_22 : decode cX8_weeksOf 22 = .ok (.iload 7, 2) := by decide +kernel
theorem dX8_weeksOf_24 : decode cX8_weeksOf 24 = .ok (.iload_n 2, 1) := by decide +kernel
theorem dX8_weeksOf_25 : decode cX8_weeksOf 25 = .ok (.if_icmp .ge 105, 3) := by decide +kernel
theorem dX8_weeksOf_28 : decode cX8_weeksOf 28 = .ok (.aload_n 0, 1) := by decide +kernel
theorem dX8_weeksOf_29 : decode cX8_weeksOf 29 = .ok (.getfield 106, 3) := by decide +kernel
theorem dX8_weeksOf_32 : decode cX8_weeksOf 32 = .ok (.ifCond .le 98, 3) := by decide +kernel
theorem dX8_weeksOf_35 : decode cX8_weeksOf 35 = .ok (.aload_n 0, 1) := by decide +kernel
theorem dX8_weeksOf_36 : decode cX8_weeksOf 36 = .ok (.getfield 109, 3) := by decide +kernel
theorem dX8_weeksOf_39 : decode cX8_weeksOf 39 = .ok (.ifCond .le 91, 3) := by decide +kernel
theorem dX8_weeksOf_42 : decode cX8_weeksOf 42 = .ok (.ldc_w 260, 3) := by decide +kernel
theorem dX8_weeksOf_45 : decode cX8_weeksOf 45 = .ok (.iload 4, 2) := by decide +kernel
theorem dX8_weeksOf_47 : decode cX8_weeksOf 47 = .ok (.imul, 1) := by decide +kernel
theorem dX8_weeksOf_48 : decode cX8_weeksOf 48 = .ok (.sipush 12345, 3) := by decide +kernel
theorem dX8_weeksOf_51 : decode cX8_weeksOf 51 = .ok (.iadd, 1) := by decide +kernel
theorem dX8_weeksOf_52 : decode cX8_weeksOf 52 = .ok (.istore 4, 2) := by decide +kernel
theorem dX8_weeksOf_54 : decode cX8_weeksOf 54 = .ok (.aload_n 0, 1) := by decide +kernel
theorem dX8_weeksOf_55 : decode cX8_weeksOf 55 = .ok (.getfield 31, 3) := by decide +kernel
theorem dX8_weeksOf_58 : decode cX8_weeksOf 58 = .ok (.iload 5, 2) := by decide +kernel
theorem dX8_weeksOf_60 : decode cX8_weeksOf 60 = .ok (.iload 7, 2) := by decide +kernel
theorem dX8_weeksOf_62 : decode cX8_weeksOf 62 = .ok (.iastore, 1) := by decide +kernel
theorem dX8_weeksOf_63 : decode cX8_weeksOf 63 = .ok (.aload_n 0, 1) := by decide +kernel
theorem dX8_weeksOf_64 : decode cX8_weeksOf 64 = .ok (.getfield 34, 3) := by decide +kernel
theorem dX8_weeksOf_67 : decode cX8_weeksOf 67 = .ok (.iload 5, 2) := by decide +kernel
theorem dX8_weeksOf_69 : decode cX8_weeksOf 69 = .ok (.iload 4, 2) := by decide +kernel
theorem dX8_weeksOf_71 : decode cX8_weeksOf 71 = .ok (.bipush 16, 2) := by decide +kernel
theorem dX8_weeksOf_73 : decode cX8_weeksOf 73 = .ok (.iushr, 1) := by decide +kernel
theorem dX8_weeksOf_74 : decode cX8_weeksOf 74 = .ok (.aload_n 0, 1) := by decide +kernel
theorem dX8_weeksOf_75 : decode cX8_weeksOf 75 = .ok (.getfield 106, 3) := by decide +kernel
theorem dX8_weeksOf_78 : decode cX8_weeksOf 78 = .ok (.irem, 1) := by decide +kernel
theorem dX8_weeksOf_79 : decode cX8_weeksOf 79 = .ok (.iastore, 1) := by decide +kernel
theorem dX8_weeksOf_80 : decode cX8_weeksOf 80 = .ok (.iinc 5 1, 3) := by decide +kernel
theorem dX8_weeksOf_83 : decode cX8_weeksOf 83 = .ok (.ldc_w 260, 3) := by decide +kernel
theorem dX8_weeksOf_86 : decode cX8_weeksOf 86 = .ok (.iload 4, 2) := by decide +kernel
theorem dX8_weeksOf_88 : decode cX8_weeksOf 88 = .ok (.imul, 1) := by decide +kernel
theorem dX8_weeksOf_89 : decode cX8_weeksOf 89 = .ok (.sipush 12345, 3) := by decide +kernel
theorem dX8_weeksOf_92 : decode cX8_weeksOf 92 = .ok (.iadd, 1) := by decide +kernel
theorem dX8_weeksOf_93 : decode cX8_weeksOf 93 = .ok (.istore 4, 2) := by decide +kernel
theorem dX8_weeksOf_95 : decode cX8_weeksOf 95 = .ok (.aload_n 0, 1) := by decide +kernel
theorem dX8_weeksOf_96 : decode cX8_weeksOf 96 = .ok (.getfield 37, 3) := by decide +kernel
theorem dX8_weeksOf_99 : decode cX8_weeksOf 99 = .ok (.iload 6, 2) := by decide +kernel
theorem dX8_weeksOf_101 : decode cX8_weeksOf 101 = .ok (.iload 7, 2) := by decide +kernel
theorem dX8_weeksOf_103 : decode cX8_weeksOf 103 = .ok (.iastore, 1) := by decide +kernel
theorem dX8_weeksOf_104 : decode cX8_weeksOf 104 = .ok (.aload_n 0, 1) := by decide +kernel
theorem dX8_weeksOf_105 : decode cX8_weeksOf 105 = .ok (.getfield 40, 3) := by decide +kernel
theorem dX8_weeksOf_108 : decode cX8_weeksOf 108 = .ok (.iload 6, 2) := by decide +kernel
theorem dX8_weeksOf_110 : decode cX8_weeksOf 110 = .ok (.iload 4, 2) := by decide +kernel
theorem dX8_weeksOf_112 : decode cX8_weeksOf 112 = .ok (.bipush 16, 2) := by decide +kernel
theorem dX8_weeksOf_114 : decode cX8_weeksOf 114 = .ok (.iushr, 1) := by decide +kernel
theorem dX8_weeksOf_115 : decode cX8_weeksOf 115 = .ok (.aload_n 0, 1) := by decide +kernel
theorem dX8_weeksOf_116 : decode cX8_weeksOf 116 = .ok (.getfield 109, 3) := by decide +kernel
theorem dX8_weeksOf_119 : decode cX8_weeksOf 119 = .ok (.irem, 1) := by decide +kernel
theorem dX8_weeksOf_120 : decode cX8_weeksOf 120 = .ok (.iastore, 1) := by decide +kernel
theorem dX8_weeksOf_121 : decode cX8_weeksOf 121 = .ok (.iinc 6 1, 3) := by decide +kernel
theorem dX8_weeksOf_124 : decode cX8_weeksOf 124 = .ok (.iinc 7 1, 3) := by decide +kernel
theorem dX8_weeksOf_127 : decode cX8_weeksOf 127 = .ok (.goto (-105), 3) := by decide +kernel
theorem dX8_weeksOf_130 : decode cX8_weeksOf 130 = .ok (.aload_n 0, 1) := by decide +kernel
theorem dX8_weeksOf_131 : decode cX8_weeksOf 131 = .ok (.iload_n 2, 1) := by decide +kernel
theorem dX8_weeksOf_132 : decode cX8_weeksOf 132 = .ok (.iconst 1, 1) := by decide +kernel
theorem dX8_weeksOf_133 : decode cX8_weeksOf 133 = .ok (.isub, 1) := by decide +kernel
theorem dX8_weeksOf_134 : decode cX8_weeksOf 134 = .ok (.iload 5, 2) := by decide +kernel
theorem dX8_weeksOf_136 : decode cX8_weeksOf 136 = .ok (.iload 6, 2) := by decide +kernel
theorem dX8_weeksOf_138 : decode cX8_weeksOf 138 = .ok (.invokevirtual 183, 3) := by decide +kernel
theorem dX8_weeksOf_141 : decode cX8_weeksOf 141 = .ok (.aload_n 0, 1) := by decide +kernel
theorem dX8_weeksOf_142 : decode cX8_weeksOf 142 = .ok (.iload_n 3, 1) := by decide +kernel
theorem dX8_weeksOf_143 : decode cX8_weeksOf 143 = .ok (.iconst 1, 1) := by decide +kernel
theorem dX8_weeksOf_144 : decode cX8_weeksOf 144 = .ok (.iadd, 1) := by decide +kernel
theorem dX8_weeksOf_145 : decode cX8_weeksOf 145 = .ok (.invokevirtual 191, 3) := by decide +kernel
theorem dX8_weeksOf_148 : decode cX8_weeksOf 148 = .ok (.invokestatic 164, 3) := by decide +kernel
theorem dX8_weeksOf_151 : decode cX8_weeksOf 151 = .ok (.ireturn, 1) := by decide +kernel
theorem dX8_weeks_0 : decode cX8_weeks 0 = .ok (.iload_n 2, 1) := by decide +kernel
theorem dX8_weeks_1 : decode cX8_weeks 1 = .ok (.iconst 1, 1) := by decide +kernel
theorem dX8_weeks_2 : decode cX8_weeks 2 = .ok (.bipush 40, 2) := by decide +kernel
theorem dX8_weeks_4 : decode cX8_weeks 4 = .ok (.invokestatic 98, 3) := by decide +kernel
theorem dX8_weeks_7 : decode cX8_weeks 7 = .ok (.ifCond .eq 22, 3) := by decide +kernel
theorem dX8_weeks_10 : decode cX8_weeks 10 = .ok (.iload_n 3, 1) := by decide +kernel
theorem dX8_weeks_11 : decode cX8_weeks 11 = .ok (.iconst 0, 1) := by decide +kernel
theorem dX8_weeks_12 : decode cX8_weeks 12 = .ok (.iconst 1, 1) := by decide +kernel
theorem dX8_weeks_13 : decode cX8_weeks 13 = .ok (.invokestatic 98, 3) := by decide +kernel
theorem dX8_weeks_16 : decode cX8_weeks 16 = .ok (.ifCond .eq 13, 3) := by decide +kernel
theorem dX8_weeks_19 : decode cX8_weeks 19 = .ok (.aload_n 0, 1) := by decide +kernel
theorem dX8_weeks_20 : decode cX8_weeks 20 = .ok (.iload_n 1, 1) := by decide +kernel
theorem dX8_weeks_21 : decode cX8_weeks 21 = .ok (.iload_n 2, 1) := by decide +kernel
theorem dX8_weeks_22 : decode cX8_weeks 22 = .ok (.iload_n 3, 1) := by decide +kernel
theorem dX8_weeks_23 : decode cX8_weeks 23 = .ok (.invokevirtual 261, 3) := by decide +kernel
theorem dX8_weeks_26 : decode cX8_weeks 26 = .ok (.goto 5, 3) := by decide +kernel
theorem dX8_weeks_29 : decode cX8_weeks 29 = .ok (.bipush (-2), 2) := by decide +kernel
theorem dX8_weeks_31 : decode cX8_weeks 31 = .ok (.ireturn, 1) := by decide +kernel
theorem dX8_meets_0 : decode cX8_meets 0 = .ok (.aload_n 0, 1) := by decide +kernel
theorem dX8_meets_1 : decode cX8_meets 1 = .ok (.iload_n 1, 1) := by decide +kernel
theorem dX8_meets_2 : decode cX8_meets 2 = .ok (.putfield 264, 3) := by decide +kernel
theorem dX8_meets_5 : decode cX8_meets 5 = .ok (.bipush (-10), 2) := by decide +kernel
theorem dX8_meets_7 : decode cX8_meets 7 = .ok (.iload_n 1, 1) := by decide +kernel
theorem dX8_meets_8 : decode cX8_meets 8 = .ok (.isub, 1) := by decide +kernel
theorem dX8_meets_9 : decode cX8_meets 9 = .ok (.ireturn, 1) := by decide +kernel
theorem dX8_isSheet_0 : decode cX8_isSheet 0 = .ok (.iload_n 0, 1) := by decide +kernel
theorem dX8_isSheet_1 : decode cX8_isSheet 1 = .ok (.iconst 0, 1) := by decide +kernel
theorem dX8_isSheet_2 : decode cX8_isSheet 2 = .ok (.iconst 3, 1) := by decide +kernel
theorem dX8_isSheet_3 : decode cX8_isSheet 3 = .ok (.invokestatic 98, 3) := by decide +kernel
theorem dX8_isSheet_6 : decode cX8_isSheet 6 = .ok (.ireturn, 1) := by decide +kernel
theorem dX8_sheet_0 : decode cX8_sheet 0 = .ok (.iload_n 1, 1) := by decide +kernel
theorem dX8_sheet_1 : decode cX8_sheet 1 = .ok (.invokestatic 151, 3) := by decide +kernel
theorem dX8_sheet_4 : decode cX8_sheet 4 = .ok (.ifCond .eq 18, 3) := by decide +kernel
theorem dX8_sheet_7 : decode cX8_sheet 7 = .ok (.iload_n 2, 1) := by decide +kernel
theorem dX8_sheet_8 : decode cX8_sheet 8 = .ok (.iconst 0, 1) := by decide +kernel
theorem dX8_sheet_9 : decode cX8_sheet 9 = .ok (.iconst 2, 1) := by decide +kernel
theorem dX8_sheet_10 : decode cX8_sheet 10 = .ok (.invokestatic 98, 3) := by decide +kernel
theorem dX8_sheet_13 : decode cX8_sheet 13 = .ok (.ifCond .eq 9, 3) := by decide +kernel
theorem dX8_sheet_16 : decode cX8_sheet 16 = .ok (.iload_n 3, 1) := by decide +kernel
theorem dX8_sheet_17 : decode cX8_sheet 17 = .ok (.bipush 48, 2) := by decide +kernel
theorem dX8_sheet_19 : decode cX8_sheet 19 = .ok (.if_icmp .le 6, 3) := by decide +kernel
theorem dX8_sheet_22 : decode cX8_sheet 22 = .ok (.bipush (-2), 2) := by decide +kernel
theorem dX8_sheet_24 : decode cX8_sheet 24 = .ok (.ireturn, 1) := by decide +kernel
theorem dX8_sheet_25 : decode cX8_sheet 25 = .ok (.iload_n 3, 1) := by decide +kernel
theorem dX8_sheet_26 : decode cX8_sheet 26 = .ok (.ifCond .ge 9, 3) := by decide +kernel
theorem dX8_sheet_29 : decode cX8_sheet 29 = .ok (.aload_n 0, 1) := by decide +kernel
theorem dX8_sheet_30 : decode cX8_sheet 30 = .ok (.iconst 5, 1) := by decide +kernel
theorem dX8_sheet_31 : decode cX8_sheet 31 = .ok (.invokevirtual 154, 3) := by decide +kernel
theorem dX8_sheet_34 : decode cX8_sheet 34 = .ok (.ireturn, 1) := by decide +kernel
theorem dX8_sheet_35 : decode cX8_sheet 35 = .ok (.aload_n 0, 1) := by decide +kernel
theorem dX8_sheet_36 : decode cX8_sheet 36 = .ok (.getfield 73, 3) := by decide +kernel
theorem dX8_sheet_39 : decode cX8_sheet 39 = .ok (.iload_n 1, 1) := by decide +kernel
theorem dX8_sheet_40 : decode cX8_sheet 40 = .ok (.iconst 1, 1) := by decide +kernel
theorem dX8_sheet_41 : decode cX8_sheet 41 = .ok (.bastore, 1) := by decide +kernel
theorem dX8_sheet_42 : decode cX8_sheet 42 = .ok (.aload_n 0, 1) := by decide +kernel
theorem dX8_sheet_43 : decode cX8_sheet 43 = .ok (.getfield 77, 3) := by decide +kernel
theorem dX8_sheet_46 : decode cX8_sheet 46 = .ok (.iload_n 1, 1) := by decide +kernel
theorem dX8_sheet_47 : decode cX8_sheet 47 = .ok (.iload_n 2, 1) := by decide +kernel
theorem dX8_sheet_48 : decode cX8_sheet 48 = .ok (.iastore, 1) := by decide +kernel
theorem dX8_sheet_49 : decode cX8_sheet 49 = .ok (.aload_n 0, 1) := by decide +kernel
theorem dX8_sheet_50 : decode cX8_sheet 50 = .ok (.getfield 80, 3) := by decide +kernel
theorem dX8_sheet_53 : decode cX8_sheet 53 = .ok (.iload_n 1, 1) := by decide +kernel
theorem dX8_sheet_54 : decode cX8_sheet 54 = .ok (.iload_n 3, 1) := by decide +kernel
theorem dX8_sheet_55 : decode cX8_sheet 55 = .ok (.iastore, 1) := by decide +kernel
theorem dX8_sheet_56 : decode cX8_sheet 56 = .ok (.iconst 0, 1) := by decide +kernel
theorem dX8_sheet_57 : decode cX8_sheet 57 = .ok (.istore 4, 2) := by decide +kernel
theorem dX8_sheet_59 : decode cX8_sheet 59 = .ok (.iload 4, 2) := by decide +kernel
theorem dX8_sheet_61 : decode cX8_sheet 61 = .ok (.bipush 48, 2) := by decide +kernel
theorem dX8_sheet_63 : decode cX8_sheet 63 = .ok (.if_icmp .ge 22, 3) := by decide +kernel
theorem dX8_sheet_66 : decode cX8_sheet 66 = .ok (.aload_n 0, 1) := by decide +kernel
theorem dX8_sheet_67 : decode cX8_sheet 67 = .ok (.getfield 83, 3) := by decide +kernel
theorem dX8_sheet_70 : decode cX8_sheet 70 = .ok (.bipush 48, 2) := by decide +kernel
theorem dX8_sheet_72 : decode cX8_sheet 72 = .ok (.iload_n 1, 1) := by decide +kernel
theorem dX8_sheet_73 : decode cX8_sheet 73 = .ok (.imul, 1) := by decide +kernel
theorem dX8_sheet_74 : decode cX8_sheet 74 = .ok (.iload 4, 2) := by decide +kernel
theorem dX8_sheet_76 : decode cX8_sheet 76 = .ok (.iadd, 1) := by decide +kernel
theorem dX8_sheet_77 : decode cX8_sheet 77 = .ok (.iconst 0, 1) := by decide +kernel
theorem dX8_sheet_78 : decode cX8_sheet 78 = .ok (.iastore, 1) := by decide +kernel
theorem dX8_sheet_79 : decode cX8_sheet 79 = .ok (.iinc 4 1, 3) := by decide +kernel
theorem dX8_sheet_82 : decode cX8_sheet 82 = .ok (.goto (-23), 3) := by decide +kernel
theorem dX8_sheet_85 : decode cX8_sheet 85 = .ok (.iload_n 3, 1) := by decide +kernel
theorem dX8_sheet_86 : decode cX8_sheet 86 = .ok (.ireturn, 1) := by decide +kernel
theorem dX8_lose_0 : decode cX8_lose 0 = .ok (.iload_n 1, 1) := by decide +kernel
theorem dX8_lose_1 : decode cX8_lose 1 = .ok (.invokestatic 151, 3) := by decide +kernel
theorem dX8_lose_4 : decode cX8_lose 4 = .ok (.ifCond .ne 6, 3) := by decide +kernel
theorem dX8_lose_7 : decode cX8_lose 7 = .ok (.bipush (-2), 2) := by decide +kernel
theorem dX8_lose_9 : decode cX8_lose 9 = .ok (.ireturn, 1) := by decide +kernel
theorem dX8_lose_10 : decode cX8_lose 10 = .ok (.aload_n 0, 1) := by decide +kernel
theorem dX8_lose_11 : decode cX8_lose 11 = .ok (.getfield 73, 3) := by decide +kernel
theorem dX8_lose_14 : decode cX8_lose 14 = .ok (.iload_n 1, 1) := by decide +kernel
theorem dX8_lose_15 : decode cX8_lose 15 = .ok (.baload, 1) := by decide +kernel
theorem dX8_lose_16 : decode cX8_lose 16 = .ok (.ifCond .ne 9, 3) := by decide +kernel
theorem dX8_lose_19 : decode cX8_lose 19 = .ok (.aload_n 0, 1) := by decide +kernel
theorem dX8_lose_20 : decode cX8_lose 20 = .ok (.iconst 1, 1) := by decide +kernel
theorem dX8_lose_21 : decode cX8_lose 21 = .ok (.invokevirtual 154, 3) := by decide +kernel
theorem dX8_lose_24 : decode cX8_lose 24 = .ok (.ireturn, 1) := by decide +kernel
theorem dX8_lose_25 : decode cX8_lose 25 = .ok (.aload_n 0, 1) := by decide +kernel
theorem dX8_lose_26 : decode cX8_lose 26 = .ok (.getfield 73, 3) := by decide +kernel
theorem dX8_lose_29 : decode cX8_lose 29 = .ok (.iload_n 1, 1) := by decide +kernel
theorem dX8_lose_30 : decode cX8_lose 30 = .ok (.iconst 0, 1) := by decide +kernel
theorem dX8_lose_31 : decode cX8_lose 31 = .ok (.bastore, 1) := by decide +kernel
theorem dX8_lose_32 : decode cX8_lose 32 = .ok (.aload_n 0, 1) := by decide +kernel
theorem dX8_lose_33 : decode cX8_lose 33 = .ok (.getfield 80, 3) := by decide +kernel
theorem dX8_lose_36 : decode cX8_lose 36 = .ok (.iload_n 1, 1) := by decide +kernel
theorem dX8_lose_37 : decode cX8_lose 37 = .ok (.iaload, 1) := by decide +kernel
theorem dX8_lose_38 : decode cX8_lose 38 = .ok (.ireturn, 1) := by decide +kernel
theorem dX8_lacks_0 : decode cX8_lacks 0 = .ok (.aload_n 0, 1) := by decide +kernel
theorem dX8_lacks_1 : decode cX8_lacks 1 = .ok (.getfield 73, 3) := by decide +kernel
theorem dX8_lacks_4 : decode cX8_lacks 4 = .ok (.iload_n 1, 1) := by decide +kernel
theorem dX8_lacks_5 : decode cX8_lacks 5 = .ok (.baload, 1) := by decide +kernel
theorem dX8_lacks_6 : decode cX8_lacks 6 = .ok (.ifCond .ne 7, 3) := by decide +kernel
theorem dX8_lacks_9 : decode cX8_lacks 9 = .ok (.iconst 1, 1) := by decide +kernel
theorem dX8_lacks_10 : decode cX8_lacks 10 = .ok (.goto 38, 3) := by decide +kernel
theorem dX8_lacks_13 : decode cX8_lacks 13 = .ok (.aload_n 0, 1) := by decide +kernel
theorem dX8_lacks_14 : decode cX8_lacks 14 = .ok (.getfield 77, 3) := by decide +kernel
theorem dX8_lacks_17 : decode cX8_lacks 17 = .ok (.iload_n 1, 1) := by decide +kernel
theorem dX8_lacks_18 : decode cX8_lacks 18 = .ok (.iaload, 1) := by decide +kernel
theorem dX8_lacks_19 : decode cX8_lacks 19 = .ok (.iload_n 2, 1) := by decide +kernel
theorem dX8_lacks_20 : decode cX8_lacks 20 = .ok (.if_icmp .eq 7, 3) := by decide +kernel
theorem dX8_lacks_23 : decode cX8_lacks 23 = .ok (.iconst 3, 1) := by decide +kernel
theorem dX8_lacks_24 : decode cX8_lacks 24 = .ok (.goto 24, 3) := by decide +kernel
theorem dX8_lacks_27 : decode cX8_lacks 27 = .ok (.iload_n 3, 1) := by decide +kernel
theorem dX8_lacks_28 : decode cX8_lacks 28 = .ok (.iconst 0, 1) := by decide +kernel
theorem dX8_lacks_29 : decode cX8_lacks 29 = .ok (.aload_n 0, 1) := by decide +kernel
theorem dX8_lacks_30 : decode cX8_lacks 30 = .ok (.getfield 80, 3) := by decide +kernel
theorem dX8_lacks_33 : decode cX8_lacks 33 = .ok (.iload_n 1, 1) := by decide +kernel
theorem dX8_lacks_34 : decode cX8_lacks 34 = .ok (.iaload, 1) := by decide +kernel
theorem dX8_lacks_35 : decode cX8_lacks 35 = .ok (.iconst 1, 1) := by decide +kernel
theorem dX8_lacks_36 : decode cX8_lacks 36 = .ok (.isub, 1) := by decide +kernel
theorem dX8_lacks_37 : decode cX8_lacks 37 = .ok (.invokestatic 98, 3) := by decide +kernel
theorem dX8_lacks_40 : decode cX8_lacks 40 = .ok (.ifCond .eq 7, 3) := by decide +kernel
theorem dX8_lacks_43 : decode cX8_lacks 43 = .ok (.iconst 0, 1) := by decide +kernel
theorem dX8_lacks_44 : decode cX8_lacks 44 = .ok (.goto 4, 3) := by decide +kernel
theorem dX8_lacks_47 : decode cX8_lacks 47 = .ok (.iconst 2, 1) := by decide +kernel
theorem dX8_lacks_48 : decode cX8_lacks 48 = .ok (.ireturn, 1) := by decide +kernel
theorem dX8_keep_0 : decode cX8_keep 0 = .ok (.aload_n 0, 1) := by decide +kernel
theorem dX8_keep_1 : decode cX8_keep 1 = .ok (.getfield 83, 3) := by decide +kernel
theorem dX8_keep_4 : decode cX8_keep 4 = .ok (.bipush 48, 2) := by decide +kernel
theorem dX8_keep_6 : decode cX8_keep 6 = .ok (.iload_n 1, 1) := by decide +kernel
theorem dX8_keep_7 : decode cX8_keep 7 = .ok (.imul, 1) := by decide +kernel
theorem dX8_keep_8 : decode cX8_keep 8 = .ok (.iload_n 2, 1) := by decide +kernel
theorem dX8_keep_9 : decode cX8_keep 9 = .ok (.iadd, 1) := by decide +kernel
theorem dX8_keep_10 : decode cX8_keep 10 = .ok (.aload_n 0, 1) := by decide +kernel
theorem dX8_keep_11 : decode cX8_keep 11 = .ok (.getfield 77, 3) := by decide +kernel
theorem dX8_keep_14 : decode cX8_keep 14 = .ok (.iload_n 1, 1) := by decide +kernel
theorem dX8_keep_15 : decode cX8_keep 15 = .ok (.iaload, 1) := by decide +kernel
theorem dX8_keep_16 : decode cX8_keep 16 = .ok (.ifCond .ne 8, 3) := by decide +kernel
theorem dX8_keep_19 : decode cX8_keep 19 = .ok (.iload_n 3, 1) := by decide +kernel
theorem dX8_keep_20 : decode cX8_keep 20 = .ok (.i2b, 1) := by decide +kernel
theorem dX8_keep_21 : decode cX8_keep 21 = .ok (.goto 19, 3) := by decide +kernel
theorem dX8_keep_24 : decode cX8_keep 24 = .ok (.aload_n 0, 1) := by decide +kernel
theorem dX8_keep_25 : decode cX8_keep 25 = .ok (.getfield 77, 3) := by decide +kernel
theorem dX8_keep_28 : decode cX8_keep 28 = .ok (.iload_n 1, 1) := by decide +kernel
theorem dX8_keep_29 : decode cX8_keep 29 = .ok (.iaload, 1) := by decide +kernel
theorem dX8_keep_30 : decode cX8_keep 30 = .ok (.iconst 1, 1) := by decide +kernel
theorem dX8_keep_31 : decode cX8_keep 31 = .ok (.if_icmp .ne 8, 3) := by decide +kernel
theorem dX8_keep_34 : decode cX8_keep 34 = .ok (.iload_n 3, 1) := by decide +kernel
theorem dX8_keep_35 : decode cX8_keep 35 = .ok (.i2s, 1) := by decide +kernel
theorem dX8_keep_36 : decode cX8_keep 36 = .ok (.goto 4, 3) := by decide +kernel
theorem dX8_keep_39 : decode cX8_keep 39 = .ok (.iload_n 3, 1) := by decide +kernel
theorem dX8_keep_40 : decode cX8_keep 40 = .ok (.iastore, 1) := by decide +kernel
theorem dX8_keep_41 : decode cX8_keep 41 = .ok (.return_, 1) := by decide +kernel
theorem dX8_put_0 : decode cX8_put 0 = .ok (.iload_n 1, 1) := by decide +kernel
theorem dX8_put_1 : decode cX8_put 1 = .ok (.invokestatic 151, 3) := by decide +kernel
theorem dX8_put_4 : decode cX8_put 4 = .ok (.ifCond .eq 12, 3) := by decide +kernel
theorem dX8_put_7 : decode cX8_put 7 = .ok (.iload_n 2, 1) := by decide +kernel
theorem dX8_put_8 : decode cX8_put 8 = .ok (.iconst 0, 1) := by decide +kernel
theorem dX8_put_9 : decode cX8_put 9 = .ok (.iconst 2, 1) := by decide +kernel
theorem dX8_put_10 : decode cX8_put 10 = .ok (.invokestatic 98, 3) := by decide +kernel
theorem dX8_put_13 : decode cX8_put 13 = .ok (.ifCond .ne 6, 3) := by decide +kernel
theorem dX8_put_16 : decode cX8_put 16 = .ok (.bipush (-2), 2) := by decide +kernel
theorem dX8_put_18 : decode cX8_put 18 = .ok (.ireturn, 1) := by decide +kernel
theorem dX8_put_19 : decode cX8_put 19 = .ok (.aload_n 0, 1) := by decide +kernel
theorem dX8_put_20 : decode cX8_put 20 = .ok (.iload_n 1, 1) := by decide +kernel
theorem dX8_put_21 : decode cX8_put 21 = .ok (.iload_n 2, 1) := by decide +kernel
theorem dX8_put_22 : decode cX8_put 22 = .ok (.iload_n 3, 1) := by decide +kernel
theorem dX8_put_23 : decode cX8_put 23 = .ok (.invokevirtual 267, 3) := by decide +kernel
theorem dX8_put_26 : decode cX8_put 26 = .ok (.istore 5, 2) := by decide +kernel
theorem dX8_put_28 : decode cX8_put 28 = .ok (.iload 5, 2) := by decide +kernel
theorem dX8_put_30 : decode cX8_put 30 = .ok (.ifCond .le 10, 3) := by decide +kernel
theorem dX8_put_33 : decode cX8_put 33 = .ok (.aload_n 0, 1) := by decide +kernel
theorem dX8_put_34 : decode cX8_put 34 = .ok (.iload 5, 2) := by decide +kernel
theorem dX8_put_36 : decode cX8_put 36 = .ok (.invokevirtual 154, 3) := by decide +kernel
theorem dX8_put_39 : decode cX8_put 39 = .ok (.ireturn, 1) := by decide +kernel
theorem dX8_put_40 : decode cX8_put 40 = .ok (.aload_n 0, 1) := by decide +kernel
theorem dX8_put_41 : decode cX8_put 41 = .ok (.iload_n 1, 1) := by decide +kernel
theorem dX8_put_42 : decode cX8_put 42 = .ok (.iload_n 3, 1) := by decide +kernel
theorem dX8_put_43 : decode cX8_put 43 = .ok (.iload 4, 2) := by decide +kernel
theorem dX8_put_45 : decode cX8_put 45 = .ok (.invokevirtual 270, 3) := by decide +kernel
theorem dX8_put_48 : decode cX8_put 48 = .ok (.iconst 1, 1) := by decide +kernel
theorem dX8_put_49 : decode cX8_put 49 = .ok (.ireturn, 1) := by decide +kernel
theorem dX8_get_0 : decode cX8_get 0 = .ok (.iload_n 1, 1) := by decide +kernel
theorem dX8_get_1 : decode cX8_get 1 = .ok (.invokestatic 151, 3) := by decide +kernel
theorem dX8_get_4 : decode cX8_get 4 = .ok (.ifCond .eq 12, 3) := by decide +kernel
theorem dX8_get_7 : decode cX8_get 7 = .ok (.iload_n 2, 1) := by decide +kernel
theorem dX8_get_8 : decode cX8_get 8 = .ok (.iconst 0, 1) := by decide +kernel
theorem dX8_get_9 : decode cX8_get 9 = .ok (.iconst 2, 1) := by decide +kernel
theorem dX8_get_10 : decode cX8_get 10 = .ok (.invokestatic 98, 3) := by decide +kernel
theorem dX8_get_13 : decode cX8_get 13 = .ok (.ifCond .ne 7, 3) := by decide +kernel
theorem dX8_get_16 : decode cX8_get 16 = .ok (.ldc_w 273, 3) := by decide +kernel
theorem dX8_get_19 : decode cX8_get 19 = .ok (.ireturn, 1) := by decide +kernel
theorem dX8_get_20 : decode cX8_get 20 = .ok (.aload_n 0, 1) := by decide +kernel
theorem dX8_get_21 : decode cX8_get 21 = .ok (.iload_n 1, 1) := by decide +kernel
theorem dX8_get_22 : decode cX8_get 22 = .ok (.iload_n 2, 1) := by decide +kernel
theorem dX8_get_23 : decode cX8_get 23 = .ok (.iload_n 3, 1) := by decide +kernel
theorem dX8_get_24 : decode cX8_get 24 = .ok (.invokevirtual 267, 3) := by decide +kernel
theorem dX8_get_27 : decode cX8_get 27 = .ok (.istore 4, 2) := by decide +kernel
theorem dX8_get_29 : decode cX8_get 29 = .ok (.iload 4, 2) := by decide +kernel
theorem dX8_get_31 : decode cX8_get 31 = .ok (.ifCond .le 13, 3) := by decide +kernel
theorem dX8_get_34 : decode cX8_get 34 = .ok (.aload_n 0, 1) := by decide +kernel
theorem dX8_get_35 : decode cX8_get 35 = .ok (.iload 4, 2) := by decide +kernel
theorem dX8_get_37 : decode cX8_get 37 = .ok (.putfield 264, 3) := by decide +kernel
theorem dX8_get_40 : decode cX8_get 40 = .ok (.ldc_w 273, 3) := by decide +kernel
theorem dX8_get_43 : decode cX8_get 43 = .ok (.ireturn, 1) := by decide +kernel
theorem dX8_get_44 : decode cX8_get 44 = .ok (.aload_n 0, 1) := by decide +kernel
theorem dX8_get_45 : decode cX8_get 45 = .ok (.getfield 83, 3) := by decide +kernel
theorem dX8_get_48 : decode cX8_get 48 = .ok (.bipush 48, 2) := by decide +kernel
theorem dX8_get_50 : decode cX8_get 50 = .ok (.iload_n 1, 1) := by decide +kernel
theorem dX8_get_51 : decode cX8_get 51 = .ok (.imul, 1) := by decide +kernel
theorem dX8_get_52 : decode cX8_get 52 = .ok (.iload_n 3, 1) := by decide +kernel
theorem dX8_get_53 : decode cX8_get 53 = .ok (.iadd, 1) := by decide +kernel
theorem dX8_get_54 : decode cX8_get 54 = .ok (.iaload, 1) := by decide +kernel
theorem dX8_get_55 : decode cX8_get 55 = .ok (.ireturn, 1) := by decide +kernel
theorem dX8_copy_0 : decode cX8_copy 0 = .ok (.iload_n 1, 1) := by decide +kernel
theorem dX8_copy_1 : decode cX8_copy 1 = .ok (.invokestatic 151, 3) := by decide +kernel
theorem dX8_copy_4 : decode cX8_copy 4 = .ok (.ifCond .eq 10, 3) := by decide +kernel
theorem dX8_copy_7 : decode cX8_copy 7 = .ok (.iload_n 3, 1) := by decide +kernel
theorem dX8_copy_8 : decode cX8_copy 8 = .ok (.invokestatic 151, 3) := by decide +kernel
theorem dX8_copy_11 : decode cX8_copy 11 = .ok (.ifCond .ne 6, 3) := by decide +kernel
theorem dX8_copy_14 : decode cX8_copy 14 = .ok (.bipush (-2), 2) := by decide +kernel
theorem dX8_copy_16 : decode cX8_copy 16 = .ok (.ireturn, 1) := by decide +kernel
theorem dX8_copy_17 : decode cX8_copy 17 = .ok (.aload_n 0, 1) := by decide +kernel
theorem dX8_copy_18 : decode cX8_copy 18 = .ok (.getfield 73, 3) := by decide +kernel
theorem dX8_copy_21 : decode cX8_copy 21 = .ok (.iload_n 1, 1) := by decide +kernel
theorem dX8_copy_22 : decode cX8_copy 22 = .ok (.baload, 1) := by decide +kernel
theorem dX8_copy_23 : decode cX8_copy 23 = .ok (.ifCond .eq 12, 3) := by decide +kernel
theorem dX8_copy_26 : decode cX8_copy 26 = .ok (.aload_n 0, 1) := by decide +kernel
theorem dX8_copy_27 : decode cX8_copy 27 = .ok (.getfield 73, 3) := by decide +kernel
theorem dX8_copy_30 : decode cX8_copy 30 = .ok (.iload_n 3, 1) := by decide +kernel
theorem dX8_copy_31 : decode cX8_copy 31 = .ok (.baload, 1) := by decide +kernel
theorem dX8_copy_32 : decode cX8_copy 32 = .ok (.ifCond .ne 9, 3) := by decide +kernel
theorem dX8_copy_35 : decode cX8_copy 35 = .ok (.aload_n 0, 1) := by decide +kernel
theorem dX8_copy_36 : decode cX8_copy 36 = .ok (.iconst 1, 1) := by decide +kernel
theorem dX8_copy_37 : decode cX8_copy 37 = .ok (.invokevirtual 154, 3) := by decide +kernel
theorem dX8_copy_40 : decode cX8_copy 40 = .ok (.ireturn, 1) := by decide +kernel
theorem dX8_copy_41 : decode cX8_copy 41 = .ok (.aload_n 0, 1) := by decide +kernel
theorem dX8_copy_42 : decode cX8_copy 42 = .ok (.getfield 77, 3) := by decide +kernel
theorem dX8_copy_45 : decode cX8_copy 45 = .ok (.iload_n 1, 1) := by decide +kernel
theorem dX8_copy_46 : decode cX8_copy 46 = .ok (.iaload, 1) := by decide +kernel
theorem dX8_copy_47 : decode cX8_copy 47 = .ok (.aload_n 0, 1) := by decide +kernel
theorem dX8_copy_48 : decode cX8_copy 48 = .ok (.getfield 77, 3) := by decide +kernel
theorem dX8_copy_51 : decode cX8_copy 51 = .ok (.iload_n 3, 1) := by decide +kernel
theorem dX8_copy_52 : decode cX8_copy 52 = .ok (.iaload, 1) := by decide +kernel
theorem dX8_copy_53 : decode cX8_copy 53 = .ok (.if_icmp .eq 9, 3) := by decide +kernel
theorem dX8_copy_56 : decode cX8_copy 56 = .ok (.aload_n 0, 1) := by decide +kernel
theorem dX8_copy_57 : decode cX8_copy 57 = .ok (.iconst 4, 1) := by decide +kernel
theorem dX8_copy_58 : decode cX8_copy 58 = .ok (.invokevirtual 154, 3) := by decide +kernel
theorem dX8_copy_61 : decode cX8_copy 61 = .ok (.ireturn, 1) := by decide +kernel
theorem dX8_copy_62 : decode cX8_copy 62 = .ok (.iload_n 2, 1) := by decide +kernel
theorem dX8_copy_63 : decode cX8_copy 63 = .ok (.ifCond .lt 48, 3) := by decide +kernel
theorem dX8_copy_66 : decode cX8_copy 66 = .ok (.iload 4, 2) := by decide +kernel
theorem dX8_copy_68 : decode cX8_copy 68 = .ok (.ifCond .lt 43, 3) := by decide +kernel
theorem dX8_copy_71 : decode cX8_copy 71 = .ok (.iload 5, 2) := by decide +kernel
theorem dX8_copy_73 : decode cX8_copy 73 = .ok (.ifCond .lt 38, 3) := by decide +kernel
theorem dX8_copy_76 : decode cX8_copy 76 = .ok (.iload_n 2, 1) := by decide +kernel
theorem dX8_copy_77 : decode cX8_copy 77 = .ok (.i2l, 1) := by decide +kernel
theorem dX8_copy_78 : decode cX8_copy 78 = .ok (.iload 5, 2) := by decide +kernel
theorem dX8_copy_80 : decode cX8_copy 80 = .ok (.i2l, 1) := by decide +kernel
theorem dX8_copy_81 : decode cX8_copy 81 = .ok (.ladd, 1) := by decide +kernel
theorem dX8_copy_82 : decode cX8_copy 82 = .ok (.aload_n 0, 1) := by decide +kernel
theorem dX8_copy_83 : decode cX8_copy 83 = .ok (.getfield 80, 3) := by decide +kernel
theorem dX8_copy_86 : decode cX8_copy 86 = .ok (.iload_n 1, 1) := by decide +kernel
theorem dX8_copy_87 : decode cX8_copy 87 = .ok (.iaload, 1) := by decide +kernel
theorem dX8_copy_88 : decode cX8_copy 88 = .ok (.i2l, 1) := by decide +kernel
theorem dX8_copy_89 : decode cX8_copy 89 = .ok (.lcmp, 1) := by decide +kernel
theorem dX8_copy_90 : decode cX8_copy 90 = .ok (.ifCond .gt 21, 3) := by decide +kernel
theorem dX8_copy_93 : decode cX8_copy 93 = .ok (.iload 4, 2) := by decide +kernel
theorem dX8_copy_95 : decode cX8_copy 95 = .ok (.i2l, 1) := by decide +kernel
theorem dX8_copy_96 : decode cX8_copy 96 = .ok (.iload 5, 2) := by decide +kernel
theorem dX8_copy_98 : decode cX8_copy 98 = .ok (.i2l, 1) := by decide +kernel
theorem dX8_copy_99 : decode cX8_copy 99 = .ok (.ladd, 1) := by decide +kernel
theorem dX8_copy_100 : decode cX8_copy 100 = .ok (.aload_n 0, 1) := by decide +kernel
theorem dX8_copy_101 : decode cX8_copy 101 = .ok (.getfield 80, 3) := by decide +kernel
theorem dX8_copy_104 : decode cX8_copy 104 = .ok (.iload_n 3, 1) := by decide +kernel
theorem dX8_copy_105 : decode cX8_copy 105 = .ok (.iaload, 1) := by decide +kernel
theorem dX8_copy_106 : decode cX8_copy 106 = .ok (.i2l, 1) := by decide +kernel
theorem dX8_copy_107 : decode cX8_copy 107 = .ok (.lcmp, 1) := by decide +kernel
theorem dX8_copy_108 : decode cX8_copy 108 = .ok (.ifCond .le 9, 3) := by decide +kernel
theorem dX8_copy_111 : decode cX8_copy 111 = .ok (.aload_n 0, 1) := by decide +kernel
theorem dX8_copy_112 : decode cX8_copy 112 = .ok (.iconst 2, 1) := by decide +kernel
theorem dX8_copy_113 : decode cX8_copy 113 = .ok (.invokevirtual 154, 3) := by decide +kernel
theorem dX8_copy_116 : decode cX8_copy 116 = .ok (.ireturn, 1) := by decide +kernel
theorem dX8_copy_117 : decode cX8_copy 117 = .ok (.iconst 0, 1) := by decide +kernel
theorem dX8_copy_118 : decode cX8_copy 118 = .ok (.istore 6, 2) := by decide +kernel
theorem dX8_copy_120 : decode cX8_copy 120 = .ok (.iload 6, 2) := by decide +kernel
theorem dX8_copy_122 : decode cX8_copy 122 = .ok (.iload 5, 2) := by decide +kernel
theorem dX8_copy_124 : decode cX8_copy 124 = .ok (.if_icmp .ge 30, 3) := by decide +kernel
theorem dX8_copy_127 : decode cX8_copy 127 = .ok (.aload_n 0, 1) := by decide +kernel
theorem dX8_copy_128 : decode cX8_copy 128 = .ok (.getfield 86, 3) := by decide +kernel
theorem dX8_copy_131 : decode cX8_copy 131 = .ok (.iload 6, 2) := by decide +kernel
theorem dX8_copy_133 : decode cX8_copy 133 = .ok (.aload_n 0, 1) := by decide +kernel
theorem dX8_copy_134 : decode cX8_copy 134 = .ok (.getfield 83, 3) := by decide +kernel
theorem dX8_copy_137 : decode cX8_copy 137 = .ok (.bipush 48, 2) := by decide +kernel
theorem dX8_copy_139 : decode cX8_copy 139 = .ok (.iload_n 1, 1) := by decide +kernel
theorem dX8_copy_140 : decode cX8_copy 140 = .ok (.imul, 1) := by decide +kernel
theorem dX8_copy_141 : decode cX8_copy 141 = .ok (.iload_n 2, 1) := by decide +kernel
theorem dX8_copy_142 : decode cX8_copy 142 = .ok (.iadd, 1) := by decide +kernel
theorem dX8_copy_143 : decode cX8_copy 143 = .ok (.iload 6, 2) := by decide +kernel
theorem dX8_copy_145 : decode cX8_copy 145 = .ok (.iadd, 1) := by decide +kernel
theorem dX8_copy_146 : decode cX8_copy 146 = .ok (.iaload, 1) := by decide +kernel
theorem dX8_copy_147 : decode cX8_copy 147 = .ok (.iastore, 1) := by decide +kernel
theorem dX8_copy_148 : decode cX8_copy 148 = .ok (.iinc 6 1, 3) := by decide +kernel
theorem dX8_copy_151 : decode cX8_copy 151 = .ok (.goto (-31), 3) := by decide +kernel
theorem dX8_copy_154 : decode cX8_copy 154 = .ok (.iconst 0, 1) := by decide +kernel
theorem dX8_copy_155 : decode cX8_copy 155 = .ok (.istore 6, 2) := by decide +kernel
theorem dX8_copy_157 : decode cX8_copy 157 = .ok (.iload 6, 2) := by decide +kernel
theorem dX8_copy_159 : decode cX8_copy 159 = .ok (.iload 5, 2) := by decide +kernel
theorem dX8_copy_161 : decode cX8_copy 161 = .ok (.if_icmp .ge 31, 3) := by decide +kernel
theorem dX8_copy_164 : decode cX8_copy 164 = .ok (.aload_n 0, 1) := by decide +kernel
theorem dX8_copy_165 : decode cX8_copy 165 = .ok (.getfield 83, 3) := by decide +kernel
theorem dX8_copy_168 : decode cX8_copy 168 = .ok (.bipush 48, 2) := by decide +kernel
theorem dX8_copy_170 : decode cX8_copy 170 = .ok (.iload_n 3, 1) := by decide +kernel
theorem dX8_copy_171 : decode cX8_copy 171 = .ok (.imul, 1) := by decide +kernel
theorem dX8_copy_172 : decode cX8_copy 172 = .ok (.iload 4, 2) := by decide +kernel
theorem dX8_copy_174 : decode cX8_copy 174 = .ok (.iadd, 1) := by decide +kernel
theorem dX8_copy_175 : decode cX8_copy 175 = .ok (.iload 6, 2) := by decide +kernel
theorem dX8_copy_177 : decode cX8_copy 177 = .ok (.iadd, 1) := by decide +kernel
theorem dX8_copy_178 : decode cX8_copy 178 = .ok (.aload_n 0, 1) := by decide +kernel
theorem dX8_copy_179 : decode cX8_copy 179 = .ok (.getfield 86, 3) := by decide +kernel
theorem dX8_copy_182 : decode cX8_copy 182 = .ok (.iload 6, 2) := by decide +kernel
theorem dX8_copy_184 : decode cX8_copy 184 = .ok (.iaload, 1) := by decide +kernel
theorem dX8_copy_185 : decode cX8_copy 185 = .ok (.iastore, 1) := by decide +kernel
theorem dX8_copy_186 : decode cX8_copy 186 = .ok (.iinc 6 1, 3) := by decide +kernel
theorem dX8_copy_189 : decode cX8_copy 189 = .ok (.goto (-32), 3) := by decide +kernel
theorem dX8_copy_192 : decode cX8_copy 192 = .ok (.iconst 1, 1) := by decide +kernel
theorem dX8_copy_193 : decode cX8_copy 193 = .ok (.ireturn, 1) := by decide +kernel
theorem dX8_write_0 : decode cX8_write 0 = .ok (.iload_n 1, 1) := by decide +kernel
theorem dX8_write_1 : decode cX8_write 1 = .ok (.invokestatic 151, 3) := by decide +kernel
theorem dX8_write_4 : decode cX8_write 4 = .ok (.ifCond .ne 6, 3) := by decide +kernel
theorem dX8_write_7 : decode cX8_write 7 = .ok (.bipush (-2), 2) := by decide +kernel
theorem dX8_write_9 : decode cX8_write 9 = .ok (.ireturn, 1) := by decide +kernel
theorem dX8_write_10 : decode cX8_write 10 = .ok (.aload_n 0, 1) := by decide +kernel
theorem dX8_write_11 : decode cX8_write 11 = .ok (.getfield 73, 3) := by decide +kernel
theorem dX8_write_14 : decode cX8_write 14 = .ok (.iload_n 1, 1) := by decide +kernel
theorem dX8_write_15 : decode cX8_write 15 = .ok (.baload, 1) := by decide +kernel
theorem dX8_write_16 : decode cX8_write 16 = .ok (.ifCond .ne 9, 3) := by decide +kernel
theorem dX8_write_19 : decode cX8_write 19 = .ok (.aload_n 0, 1) := by decide +kernel
theorem dX8_write_20 : decode cX8_write 20 = .ok (.iconst 1, 1) := by decide +kernel
theorem dX8_write_21 : decode cX8_write 21 = .ok (.invokevirtual 154, 3) := by decide +kernel
theorem dX8_write_24 : decode cX8_write 24 = .ok (.ireturn, 1) := by decide +kernel
theorem dX8_write_25 : decode cX8_write 25 = .ok (.iconst 0, 1) := by decide +kernel
theorem dX8_write_26 : decode cX8_write 26 = .ok (.istore_n 2, 1) := by decide +kernel
theorem dX8_write_27 : decode cX8_write 27 = .ok (.iload_n 2, 1) := by decide +kernel
theorem dX8_write_28 : decode cX8_write 28 = .ok (.aload_n 0, 1) := by decide +kernel
theorem dX8_write_29 : decode cX8_write 29 = .ok (.getfield 80, 3) := by decide +kernel
theorem dX8_write_32 : decode cX8_write 32 = .ok (.iload_n 1, 1) := by decide +kernel
theorem dX8_write_33 : decode cX8_write 33 = .ok (.iaload, 1) := by decide +kernel
theorem dX8_write_34 : decode cX8_write 34 = .ok (.if_icmp .ge 27, 3) := by decide +kernel
theorem dX8_write_37 : decode cX8_write 37 = .ok (.iload_n 2, 1) := by decide +kernel
theorem dX8_write_38 : decode cX8_write 38 = .ok (.bipush 40, 2) := by decide +kernel
theorem dX8_write_40 : decode cX8_write 40 = .ok (.if_icmp .ge 21, 3) := by decide +kernel
theorem dX8_write_43 : decode cX8_write 43 = .ok (.aload_n 0, 1) := by decide +kernel
theorem dX8_write_44 : decode cX8_write 44 = .ok (.iload_n 1, 1) := by decide +kernel
theorem dX8_write_45 : decode cX8_write 45 = .ok (.iload_n 2, 1) := by decide +kernel
theorem dX8_write_46 : decode cX8_write 46 = .ok (.aload_n 0, 1) := by decide +kernel
theorem dX8_write_47 : decode cX8_write 47 = .ok (.iload_n 2, 1) := by decide +kernel
theorem dX8_write_48 : decode cX8_write 48 = .ok (.iconst 0, 1) := by decide +kernel
theorem dX8_write_49 : decode cX8_write 49 = .ok (.invokevirtual 194, 3) := by decide +kernel
theorem dX8_write_52 : decode cX8_write 52 = .ok (.invokevirtual 270, 3) := by decide +kernel
theorem dX8_write_55 : decode cX8_write 55 = .ok (.iinc 2 1, 3) := by decide +kernel
theorem dX8_write_58 : decode cX8_write 58 = .ok (.goto (-31), 3) := by decide +kernel
theorem dX8_write_61 : decode cX8_write 61 = .ok (.iload_n 2, 1) := by decide +kernel
theorem dX8_write_62 : decode cX8_write 62 = .ok (.ireturn, 1) := by decide +kernel
theorem dX8_sumOf_0 : decode cX8_sumOf 0 = .ok (.aload_n 0, 1) := by decide +kernel
theorem dX8_sumOf_1 : decode cX8_sumOf 1 = .ok (.invokevirtual 123, 3) := by decide +kernel
theorem dX8_sumOf_4 : decode cX8_sumOf 4 = .ok (.iconst 0, 1) := by decide +kernel
theorem dX8_sumOf_5 : decode cX8_sumOf 5 = .ok (.istore_n 2, 1) := by decide +kernel
theorem dX8_sumOf_6 : decode cX8_sumOf 6 = .ok (.iconst 0, 1) := by decide +kernel
theorem dX8_sumOf_7 : decode cX8_sumOf 7 = .ok (.istore_n 3, 1) := by decide +kernel
theorem dX8_sumOf_8 : decode cX8_sumOf 8 = .ok (.iload_n 3, 1) := by decide +kernel
theorem dX8_sumOf_9 : decode cX8_sumOf 9 = .ok (.aload_n 0, 1) := by decide +kernel
theorem dX8_sumOf_10 : decode cX8_sumOf 10 = .ok (.getfield 106, 3) := by decide +kernel
theorem dX8_sumOf_13 : decode cX8_sumOf 13 = .ok (.if_icmp .ge 18, 3) := by decide +kernel
theorem dX8_sumOf_16 : decode cX8_sumOf 16 = .ok (.iload_n 2, 1) := by decide +kernel
theorem dX8_sumOf_17 : decode cX8_sumOf 17 = .ok (.aload_n 0, 1) := by decide +kernel
theorem dX8_sumOf_18 : decode cX8_sumOf 18 = .ok (.getfield 19, 3) := by decide +kernel
theorem dX8_sumOf_21 : decode cX8_sumOf 21 = .ok (.iload_n 3, 1) := by decide +kernel
theorem dX8_sumOf_22 : decode cX8_sumOf 22 = .ok (.iaload, 1) := by decide +kernel
theorem dX8_sumOf_23 : decode cX8_sumOf 23 = .ok (.iadd, 1) := by decide +kernel
theorem dX8_sumOf_24 : decode cX8_sumOf 24 = .ok (.istore_n 2, 1) := by decide +kernel
theorem dX8_sumOf_25 : decode cX8_sumOf 25 = .ok (.iinc 3 1, 3) := by decide +kernel
theorem dX8_sumOf_28 : decode cX8_sumOf 28 = .ok (.goto (-20), 3) := by decide +kernel
theorem dX8_sumOf_31 : decode cX8_sumOf 31 = .ok (.iload_n 1, 1) := by decide +kernel
theorem dX8_sumOf_32 : decode cX8_sumOf 32 = .ok (.ifCond .ne 10, 3) := by decide +kernel
theorem dX8_sumOf_35 : decode cX8_sumOf 35 = .ok (.aload_n 0, 1) := by decide +kernel
theorem dX8_sumOf_36 : decode cX8_sumOf 36 = .ok (.getfield 106, 3) := by decide +kernel
theorem dX8_sumOf_39 : decode cX8_sumOf 39 = .ok (.goto 16, 3) := by decide +kernel
theorem dX8_sumOf_42 : decode cX8_sumOf 42 = .ok (.iload_n 1, 1) := by decide +kernel
theorem dX8_sumOf_43 : decode cX8_sumOf 43 = .ok (.iconst 1, 1) := by decide +kernel
theorem dX8_sumOf_44 : decode cX8_sumOf 44 = .ok (.if_icmp .ne 10, 3) := by decide +kernel
theorem dX8_sumOf_47 : decode cX8_sumOf 47 = .ok (.aload_n 0, 1) := by decide +kernel
theorem dX8_sumOf_48 : decode cX8_sumOf 48 = .ok (.getfield 109, 3) := by decide +kernel
theorem dX8_sumOf_51 : decode cX8_sumOf 51 = .ok (.goto 4, 3) := by decide +kernel
theorem dX8_sumOf_54 : decode cX8_sumOf 54 = .ok (.iload_n 2, 1) := by decide +kernel
theorem dX8_sumOf_55 : decode cX8_sumOf 55 = .ok (.ireturn, 1) := by decide +kernel
theorem dX8_count_0 : decode cX8_count 0 = .ok (.iload_n 1, 1) := by decide +kernel
theorem dX8_count_1 : decode cX8_count 1 = .ok (.tableswitch 86 0 8 #[51, 51, 57, 57, 66, 71, 76, 51, 81], 51) := by decide +kernel
theorem dX8_count_52 : decode cX8_count 52 = .ok (.aload_n 0, 1) := by decide +kernel
theorem dX8_count_53 : decode cX8_count 53 = .ok (.iload_n 1, 1) := by decide +kernel
theorem dX8_count_54 : decode cX8_count 54 = .ok (.invokevirtual 274, 3) := by decide +kernel
theorem dX8_count_57 : decode cX8_count 57 = .ok (.ireturn, 1) := by decide +kernel
theorem dX8_count_58 : decode cX8_count 58 = .ok (.aload_n 0, 1) := by decide +kernel
theorem dX8_count_59 : decode cX8_count 59 = .ok (.getfield 7, 3) := by decide +kernel
theorem dX8_count_62 : decode cX8_count 62 = .ok (.iload_n 1, 1) := by decide +kernel
theorem dX8_count_63 : decode cX8_count 63 = .ok (.iconst 2, 1) := by decide +kernel
theorem dX8_count_64 : decode cX8_count 64 = .ok (.isub, 1) := by decide +kernel
theorem dX8_count_65 : decode cX8_count 65 = .ok (.iaload, 1) := by decide +kernel
theorem dX8_count_66 : decode cX8_count 66 = .ok (.ireturn, 1) := by decide +kernel
theorem dX8_count_67 : decode cX8_count 67 = .ok (.aload_n 0, 1) := by decide +kernel
theorem dX8_count_68 : decode cX8_count 68 = .ok (.getfield 145, 3) := by decide +kernel
theorem dX8_count_71 : decode cX8_count 71 = .ok (.ireturn, 1) := by decide +kernel
theorem dX8_count_72 : decode cX8_count 72 = .ok (.aload_n 0, 1) := by decide +kernel
theorem dX8_count_73 : decode cX8_count 73 = .ok (.getfield 148, 3) := by decide +kernel
theorem dX8_count_76 : decode cX8_count 76 = .ok (.ireturn, 1) := by decide +kernel
theorem dX8_count_77 : decode cX8_count 77 = .ok (.aload_n 0, 1) := by decide +kernel
theorem dX8_count_78 : decode cX8_count 78 = .ok (.getfield 254, 3) := by decide +kernel
theorem dX8_count_81 : decode cX8_count 81 = .ok (.ireturn, 1) := by decide +kernel
theorem dX8_count_82 : decode cX8_count 82 = .ok (.aload_n 0, 1) := by decide +kernel
theorem dX8_count_83 : decode cX8_count 83 = .ok (.getfield 264, 3) := by decide +kernel
theorem dX8_count_86 : decode cX8_count 86 = .ok (.ireturn, 1) := by decide +kernel
theorem dX8_count_87 : decode cX8_count 87 = .ok (.bipush (-2), 2) := by decide +kernel
theorem dX8_count_89 : decode cX8_count 89 = .ok (.ireturn, 1) := by decide +kernel
theorem dX8_virtueDigest_0 : decode cX8_virtueDigest 0 = .ok (.lload_n 1, 1) := by decide +kernel
theorem dX8_virtueDigest_1 : decode cX8_virtueDigest 1 = .ok (.lstore 4, 2) := by decide +kernel
theorem dX8_virtueDigest_3 : decode cX8_virtueDigest 3 = .ok (.ldc2_w 277, 3) := by decide +kernel
theorem dX8_virtueDigest_6 : decode cX8_virtueDigest 6 = .ok (.lload 4, 2) := by decide +kernel
theorem dX8_virtueDigest_8 : decode cX8_virtueDigest 8 = .ok (.lmul, 1) := by decide +kernel
theorem dX8_virtueDigest_9 : decode cX8_virtueDigest 9 = .ok (.aload_n 0, 1) := by decide +kernel
theorem dX8_virtueDigest_10 : decode cX8_virtueDigest 10 = .ok (.getfield 16, 3) := by decide +kernel
theorem dX8_virtueDigest_13 : decode cX8_virtueDigest 13 = .ok (.iload_n 3, 1) := by decide +kernel
theorem dX8_virtueDigest_14 : decode cX8_virtueDigest 14 = .ok (.iaload, 1) := by decide +kernel
theorem dX8_virtueDigest_15 : decode cX8_virtueDigest 15 = .ok (.i2l, 1) := by decide +kernel
theorem dX8_virtueDigest_16 : decode cX8_virtueDigest 16 = .ok (.ladd, 1) := by decide +kernel
theorem dX8_virtueDigest_17 : decode cX8_virtueDigest 17 = .ok (.lstore 4, 2) := by decide +kernel
theorem dX8_virtueDigest_19 : decode cX8_virtueDigest 19 = .ok (.ldc2_w 277, 3) := by decide +kernel
theorem dX8_virtueDigest_22 : decode cX8_virtueDigest 22 = .ok (.lload 4, 2) := by decide +kernel
theorem dX8_virtueDigest_24 : decode cX8_virtueDigest 24 = .ok (.lmul, 1) := by decide +kernel
theorem dX8_virtueDigest_25 : decode cX8_virtueDigest 25 = .ok (.aload_n 0, 1) := by decide +kernel
theorem dX8_virtueDigest_26 : decode cX8_virtueDigest 26 = .ok (.getfield 19, 3) := by decide +kernel
theorem dX8_virtueDigest_29 : decode cX8_virtueDigest 29 = .ok (.iload_n 3, 1) := by decide +kernel
theorem dX8_virtueDigest_30 : decode cX8_virtueDigest 30 = .ok (.iaload, 1) := by decide +kernel
theorem dX8_virtueDigest_31 : decode cX8_virtueDigest 31 = .ok (.i2l, 1) := by decide +kernel
theorem dX8_virtueDigest_32 : decode cX8_virtueDigest 32 = .ok (.ladd, 1) := by decide +kernel
theorem dX8_virtueDigest_33 : decode cX8_virtueDigest 33 = .ok (.lstore 4, 2) := by decide +kernel
theorem dX8_virtueDigest_35 : decode cX8_virtueDigest 35 = .ok (.ldc2_w 277, 3) := by decide +kernel
theorem dX8_virtueDigest_38 : decode cX8_virtueDigest 38 = .ok (.lload 4, 2) := by decide +kernel
theorem dX8_virtueDigest_40 : decode cX8_virtueDigest 40 = .ok (.lmul, 1) := by decide +kernel
theorem dX8_virtueDigest_41 : decode cX8_virtueDigest 41 = .ok (.aload_n 0, 1) := by decide +kernel
theorem dX8_virtueDigest_42 : decode cX8_virtueDigest 42 = .ok (.iload_n 3, 1) := by decide +kernel
theorem dX8_virtueDigest_43 : decode cX8_virtueDigest 43 = .ok (.iconst 0, 1) := by decide +kernel
theorem dX8_virtueDigest_44 : decode cX8_virtueDigest 44 = .ok (.invokevirtual 197, 3) := by decide +kernel
theorem dX8_virtueDigest_47 : decode cX8_virtueDigest 47 = .ok (.i2l, 1) := by decide +kernel
theorem dX8_virtueDigest_48 : decode cX8_virtueDigest 48 = .ok (.ladd, 1) := by decide +kernel
theorem dX8_virtueDigest_49 : decode cX8_virtueDigest 49 = .ok (.lstore 4, 2) := by decide +kernel
theorem dX8_virtueDigest_51 : decode cX8_virtueDigest 51 = .ok (.ldc2_w 277, 3) := by decide +kernel
theorem dX8_virtueDigest_54 : decode cX8_virtueDigest 54 = .ok (.lload 4, 2) := by decide +kernel
theorem dX8_virtueDigest_56 : decode cX8_virtueDigest 56 = .ok (.lmul, 1) := by decide +kernel
theorem dX8_virtueDigest_57 : decode cX8_virtueDigest 57 = .ok (.aload_n 0, 1) := by decide +kernel
theorem dX8_virtueDigest_58 : decode cX8_virtueDigest 58 = .ok (.iload_n 3, 1) := by decide +kernel
theorem dX8_virtueDigest_59 : decode cX8_virtueDigest 59 = .ok (.iconst 1, 1) := by decide +kernel
theorem dX8_virtueDigest_60 : decode cX8_virtueDigest 60 = .ok (.invokevirtual 197, 3) := by decide +kernel
theorem dX8_virtueDigest_63 : decode cX8_virtueDigest 63 = .ok (.i2l, 1) := by decide +kernel
theorem dX8_virtueDigest_64 : decode cX8_virtueDigest 64 = .ok (.ladd, 1) := by decide +kernel
theorem dX8_virtueDigest_65 : decode cX8_virtueDigest 65 = .ok (.lstore 4, 2) := by decide +kernel
theorem dX8_virtueDigest_67 : decode cX8_virtueDigest 67 = .ok (.ldc2_w 277, 3) := by decide +kernel
theorem dX8_virtueDigest_70 : decode cX8_virtueDigest 70 = .ok (.lload 4, 2) := by decide +kernel
theorem dX8_virtueDigest_72 : decode cX8_virtueDigest 72 = .ok (.lmul, 1) := by decide +kernel
theorem dX8_virtueDigest_73 : decode cX8_virtueDigest 73 = .ok (.aload_n 0, 1) := by decide +kernel
theorem dX8_virtueDigest_74 : decode cX8_virtueDigest 74 = .ok (.iconst 1, 1) := by decide +kernel
theorem dX8_virtueDigest_75 : decode cX8_virtueDigest 75 = .ok (.iload_n 3, 1) := by decide +kernel
theorem dX8_virtueDigest_76 : decode cX8_virtueDigest 76 = .ok (.invokevirtual 213, 3) := by decide +kernel
theorem dX8_virtueDigest_79 : decode cX8_virtueDigest 79 = .ok (.i2l, 1) := by decide +kernel
theorem dX8_virtueDigest_80 : decode cX8_virtueDigest 80 = .ok (.ladd, 1) := by decide +kernel
theorem dX8_virtueDigest_81 : decode cX8_virtueDigest 81 = .ok (.lstore 4, 2) := by decide +kernel
theorem dX8_virtueDigest_83 : decode cX8_virtueDigest 83 = .ok (.ldc2_w 277, 3) := by decide +kernel
theorem dX8_virtueDigest_86 : decode cX8_virtueDigest 86 = .ok (.lload 4, 2) := by decide +kernel
theorem dX8_virtueDigest_88 : decode cX8_virtueDigest 88 = .ok (.lmul, 1) := by decide +kernel
theorem dX8_virtueDigest_89 : decode cX8_virtueDigest 89 = .ok (.aload_n 0, 1) := by decide +kernel
theorem dX8_virtueDigest_90 : decode cX8_virtueDigest 90 = .ok (.iload_n 3, 1) := by decide +kernel
theorem dX8_virtueDigest_91 : decode cX8_virtueDigest 91 = .ok (.invokevirtual 219, 3) := by decide +kernel
theorem dX8_virtueDigest_94 : decode cX8_virtueDigest 94 = .ok (.i2l, 1) := by decide +kernel
theorem dX8_virtueDigest_95 : decode cX8_virtueDigest 95 = .ok (.ladd, 1) := by decide +kernel
theorem dX8_virtueDigest_96 : decode cX8_virtueDigest 96 = .ok (.lstore 4, 2) := by decide +kernel
theorem dX8_virtueDigest_98 : decode cX8_virtueDigest 98 = .ok (.ldc2_w 277, 3) := by decide +kernel
theorem dX8_virtueDigest_101 : decode cX8_virtueDigest 101 = .ok (.lload 4, 2) := by decide +kernel
theorem dX8_virtueDigest_103 : decode cX8_virtueDigest 103 = .ok (.lmul, 1) := by decide +kernel
theorem dX8_virtueDigest_104 : decode cX8_virtueDigest 104 = .ok (.aload_n 0, 1) := by decide +kernel
theorem dX8_virtueDigest_105 : decode cX8_virtueDigest 105 = .ok (.iload_n 3, 1) := by decide +kernel
theorem dX8_virtueDigest_106 : decode cX8_virtueDigest 106 = .ok (.invokevirtual 225, 3) := by decide +kernel
theorem dX8_virtueDigest_109 : decode cX8_virtueDigest 109 = .ok (.i2l, 1) := by decide +kernel
theorem dX8_virtueDigest_110 : decode cX8_virtueDigest 110 = .ok (.ladd, 1) := by decide +kernel
theorem dX8_virtueDigest_111 : decode cX8_virtueDigest 111 = .ok (.lstore 4, 2) := by decide +kernel
theorem dX8_virtueDigest_113 : decode cX8_virtueDigest 113 = .ok (.ldc2_w 277, 3) := by decide +kernel
theorem dX8_virtueDigest_116 : decode cX8_virtueDigest 116 = .ok (.lload 4, 2) := by decide +kernel
theorem dX8_virtueDigest_118 : decode cX8_virtueDigest 118 = .ok (.lmul, 1) := by decide +kernel
theorem dX8_virtueDigest_119 : decode cX8_virtueDigest 119 = .ok (.aload_n 0, 1) := by decide +kernel
theorem dX8_virtueDigest_120 : decode cX8_virtueDigest 120 = .ok (.iload_n 3, 1) := by decide +kernel
theorem dX8_virtueDigest_121 : decode cX8_virtueDigest 121 = .ok (.iconst 0, 1) := by decide +kernel
theorem dX8_virtueDigest_122 : decode cX8_virtueDigest 122 = .ok (.invokevirtual 279, 3) := by decide +kernel
theorem dX8_virtueDigest_125 : decode cX8_virtueDigest 125 = .ok (.ladd, 1) := by decide +kernel
theorem dX8_virtueDigest_126 : decode cX8_virtueDigest 126 = .ok (.lstore 4, 2) := by decide +kernel
theorem dX8_virtueDigest_128 : decode cX8_virtueDigest 128 = .ok (.ldc2_w 277, 3) := by decide +kernel
theorem dX8_virtueDigest_131 : decode cX8_virtueDigest 131 = .ok (.lload 4, 2) := by decide +kernel
theorem dX8_virtueDigest_133 : decode cX8_virtueDigest 133 = .ok (.lmul, 1) := by decide +kernel
theorem dX8_virtueDigest_134 : decode cX8_virtueDigest 134 = .ok (.aload_n 0, 1) := by decide +kernel
theorem dX8_virtueDigest_135 : decode cX8_virtueDigest 135 = .ok (.iload_n 3, 1) := by decide +kernel
theorem dX8_virtueDigest_136 : decode cX8_virtueDigest 136 = .ok (.iconst 1, 1) := by decide +kernel
theorem dX8_virtueDigest_137 : decode cX8_virtueDigest 137 = .ok (.invokevirtual 279, 3) := by decide +kernel
theorem dX8_virtueDigest_140 : decode cX8_virtueDigest 140 = .ok (.ladd, 1) := by decide +kernel
theorem dX8_virtueDigest_141 : decode cX8_virtueDigest 141 = .ok (.lstore 4, 2) := by decide +kernel
theorem dX8_virtueDigest_143 : decode cX8_virtueDigest 143 = .ok (.ldc2_w 277, 3) := by decide +kernel
theorem dX8_virtueDigest_146 : decode cX8_virtueDigest 146 = .ok (.lload 4, 2) := by decide +kernel
theorem dX8_virtueDigest_148 : decode cX8_virtueDigest 148 = .ok (.lmul, 1) := by decide +kernel
theorem dX8_virtueDigest_149 : decode cX8_virtueDigest 149 = .ok (.aload_n 0, 1) := by decide +kernel
theorem dX8_virtueDigest_150 : decode cX8_virtueDigest 150 = .ok (.iload_n 3, 1) := by decide +kernel
theorem dX8_virtueDigest_151 : decode cX8_virtueDigest 151 = .ok (.invokevirtual 251, 3) := by decide +kernel
theorem dX8_virtueDigest_154 : decode cX8_virtueDigest 154 = .ok (.i2l, 1) := by decide +kernel
theorem dX8_virtueDigest_155 : decode cX8_virtueDigest 155 = .ok (.ladd, 1) := by decide +kernel
theorem dX8_virtueDigest_156 : decode cX8_virtueDigest 156 = .ok (.lstore 4, 2) := by decide +kernel
theorem dX8_virtueDigest_158 : decode cX8_virtueDigest 158 = .ok (.ldc2_w 277, 3) := by decide +kernel
theorem dX8_virtueDigest_161 : decode cX8_virtueDigest 161 = .ok (.lload 4, 2) := by decide +kernel
theorem dX8_virtueDigest_163 : decode cX8_virtueDigest 163 = .ok (.lmul, 1) := by decide +kernel
theorem dX8_virtueDigest_164 : decode cX8_virtueDigest 164 = .ok (.aload_n 0, 1) := by decide +kernel
theorem dX8_virtueDigest_165 : decode cX8_virtueDigest 165 = .ok (.iload_n 3, 1) := by decide +kernel
theorem dX8_virtueDigest_166 : decode cX8_virtueDigest 166 = .ok (.invokevirtual 257, 3) := by decide +kernel
theorem dX8_virtueDigest_169 : decode cX8_virtueDigest 169 = .ok (.i2l, 1) := by decide +kernel
theorem dX8_virtueDigest_170 : decode cX8_virtueDigest 170 = .ok (.ladd, 1) := by decide +kernel
theorem dX8_virtueDigest_171 : decode cX8_virtueDigest 171 = .ok (.lreturn, 1) := by decide +kernel
theorem dX8_weekDigest_0 : decode cX8_weekDigest 0 = .ok (.lload_n 1, 1) := by decide +kernel
theorem dX8_weekDigest_1 : decode cX8_weekDigest 1 = .ok (.lstore 4, 2) := by decide +kernel
theorem dX8_weekDigest_3 : decode cX8_weekDigest 3 = .ok (.iconst 0, 1) := by decide +kernel
theorem dX8_weekDigest_4 : decode cX8_weekDigest 4 = .ok (.istore 6, 2) := by decide +kernel
theorem dX8_weekDigest_6 : decode cX8_weekDigest 6 = .ok (.iload 6, 2) := by decide +kernel
theorem dX8_weekDigest_8 : decode cX8_weekDigest 8 = .ok (.iconst 3, 1) := by decide +kernel
theorem dX8_weekDigest_9 : decode cX8_weekDigest 9 = .ok (.if_icmp .ge 26, 3) := by decide +kernel
theorem dX8_weekDigest_12 : decode cX8_weekDigest 12 = .ok (.ldc2_w 277, 3) := by decide +kernel
theorem dX8_weekDigest_15 : decode cX8_weekDigest 15 = .ok (.lload 4, 2) := by decide +kernel
theorem dX8_weekDigest_17 : decode cX8_weekDigest 17 = .ok (.lmul, 1) := by decide +kernel
theorem dX8_weekDigest_18 : decode cX8_weekDigest 18 = .ok (.aload_n 0, 1) := by decide +kernel
theorem dX8_weekDigest_19 : decode cX8_weekDigest 19 = .ok (.iload_n 3, 1) := by decide +kernel
theorem dX8_weekDigest_20 : decode cX8_weekDigest 20 = .ok (.iload 6, 2) := by decide +kernel
theorem dX8_weekDigest_22 : decode cX8_weekDigest 22 = .ok (.invokevirtual 194, 3) := by decide +kernel
theorem dX8_weekDigest_25 : decode cX8_weekDigest 25 = .ok (.i2l, 1) := by decide +kernel
theorem dX8_weekDigest_26 : decode cX8_weekDigest 26 = .ok (.ladd, 1) := by decide +kernel
theorem dX8_weekDigest_27 : decode cX8_weekDigest 27 = .ok (.lstore 4, 2) := by decide +kernel
theorem dX8_weekDigest_29 : decode cX8_weekDigest 29 = .ok (.iinc 6 1, 3) := by decide +kernel
theorem dX8_weekDigest_32 : decode cX8_weekDigest 32 = .ok (.goto (-26), 3) := by decide +kernel
theorem dX8_weekDigest_35 : decode cX8_weekDigest 35 = .ok (.lload 4, 2) := by decide +kernel
theorem dX8_weekDigest_37 : decode cX8_weekDigest 37 = .ok (.lreturn, 1) := by decide +kernel
theorem dX8_digest_0 : decode cX8_digest 0 = .ok (.ldc2_w 283, 3) := by decide +kernel
theorem dX8_digest_3 : decode cX8_digest 3 = .ok (.lstore_n 1, 1) := by decide +kernel
theorem dX8_digest_4 : decode cX8_digest 4 = .ok (.iconst 0, 1) := by decide +kernel
theorem dX8_digest_5 : decode cX8_digest 5 = .ok (.istore_n 3, 1) := by decide +kernel
theorem dX8_digest_6 : decode cX8_digest 6 = .ok (.iload_n 3, 1) := by decide +kernel
theorem dX8_digest_7 : decode cX8_digest 7 = .ok (.bipush 8, 2) := by decide +kernel
theorem dX8_digest_9 : decode cX8_digest 9 = .ok (.if_icmp .ge 22, 3) := by decide +kernel
theorem dX8_digest_12 : decode cX8_digest 12 = .ok (.ldc2_w 277, 3) := by decide +kernel
theorem dX8_digest_15 : decode cX8_digest 15 = .ok (.lload_n 1, 1) := by decide +kernel
theorem dX8_digest_16 : decode cX8_digest 16 = .ok (.lmul, 1) := by decide +kernel
theorem dX8_digest_17 : decode cX8_digest 17 = .ok (.aload_n 0, 1) := by decide +kernel
theorem dX8_digest_18 : decode cX8_digest 18 = .ok (.iload_n 3, 1) := by decide +kernel
theorem dX8_digest_19 : decode cX8_digest 19 = .ok (.invokevirtual 285, 3) := by decide +kernel
theorem dX8_digest_22 : decode cX8_digest 22 = .ok (.i2l, 1) := by decide +kernel
theorem dX8_digest_23 : decode cX8_digest 23 = .ok (.ladd, 1) := by decide +kernel
theorem dX8_digest_24 : decode cX8_digest 24 = .ok (.lstore_n 1, 1) := by decide +kernel
theorem dX8_digest_25 : decode cX8_digest 25 = .ok (.iinc 3 1, 3) := by decide +kernel
theorem dX8_digest_28 : decode cX8_digest 28 = .ok (.goto (-22), 3) := by decide +kernel
theorem dX8_digest_31 : decode cX8_digest 31 = .ok (.ldc2_w 277, 3) := by decide +kernel
theorem dX8_digest_34 : decode cX8_digest 34 = .ok (.lload_n 1, 1) := by decide +kernel
theorem dX8_digest_35 : decode cX8_digest 35 = .ok (.lmul, 1) := by decide +kernel
theorem dX8_digest_36 : decode cX8_digest 36 = .ok (.aload_n 0, 1) := by decide +kernel
theorem dX8_digest_37 : decode cX8_digest 37 = .ok (.iconst 0, 1) := by decide +kernel
theorem dX8_digest_38 : decode cX8_digest 38 = .ok (.invokevirtual 120, 3) := by decide +kernel
theorem dX8_digest_41 : decode cX8_digest 41 = .ok (.i2l, 1) := by decide +kernel
theorem dX8_digest_42 : decode cX8_digest 42 = .ok (.ladd, 1) := by decide +kernel
theorem dX8_digest_43 : decode cX8_digest 43 = .ok (.lstore_n 1, 1) := by decide +kernel
theorem dX8_digest_44 : decode cX8_digest 44 = .ok (.ldc2_w 277, 3) := by decide +kernel
theorem dX8_digest_47 : decode cX8_digest 47 = .ok (.lload_n 1, 1) := by decide +kernel
theorem dX8_digest_48 : decode cX8_digest 48 = .ok (.lmul, 1) := by decide +kernel
theorem dX8_digest_49 : decode cX8_digest 49 = .ok (.aload_n 0, 1) := by decide +kernel
theorem dX8_digest_50 : decode cX8_digest 50 = .ok (.iconst 1, 1) := by decide +kernel
theorem dX8_digest_51 : decode cX8_digest 51 = .ok (.invokevirtual 120, 3) := by decide +kernel
theorem dX8_digest_54 : decode cX8_digest 54 = .ok (.i2l, 1) := by decide +kernel
theorem dX8_digest_55 : decode cX8_digest 55 = .ok (.ladd, 1) := by decide +kernel
theorem dX8_digest_56 : decode cX8_digest 56 = .ok (.lstore_n 1, 1) := by decide +kernel
theorem dX8_digest_57 : decode cX8_digest 57 = .ok (.iconst 0, 1) := by decide +kernel
theorem dX8_digest_58 : decode cX8_digest 58 = .ok (.istore_n 3, 1) := by decide +kernel
theorem dX8_digest_59 : decode cX8_digest 59 = .ok (.iload_n 3, 1) := by decide +kernel
theorem dX8_digest_60 : decode cX8_digest 60 = .ok (.aload_n 0, 1) := by decide +kernel
theorem dX8_digest_61 : decode cX8_digest 61 = .ok (.getfield 106, 3) := by decide +kernel
theorem dX8_digest_64 : decode cX8_digest 64 = .ok (.if_icmp .ge 16, 3) := by decide +kernel
theorem dX8_digest_67 : decode cX8_digest 67 = .ok (.aload_n 0, 1) := by decide +kernel
theorem dX8_digest_68 : decode cX8_digest 68 = .ok (.lload_n 1, 1) := by decide +kernel
theorem dX8_digest_69 : decode cX8_digest 69 = .ok (.iload_n 3, 1) := by decide +kernel
theorem dX8_digest_70 : decode cX8_digest 70 = .ok (.invokevirtual 288, 3) := by decide +kernel
theorem dX8_digest_73 : decode cX8_digest 73 = .ok (.lstore_n 1, 1) := by decide +kernel
theorem dX8_digest_74 : decode cX8_digest 74 = .ok (.iinc 3 1, 3) := by decide +kernel
theorem dX8_digest_77 : decode cX8_digest 77 = .ok (.goto (-18), 3) := by decide +kernel
theorem dX8_digest_80 : decode cX8_digest 80 = .ok (.iconst 0, 1) := by decide +kernel
theorem dX8_digest_81 : decode cX8_digest 81 = .ok (.istore_n 3, 1) := by decide +kernel
theorem dX8_digest_82 : decode cX8_digest 82 = .ok (.iload_n 3, 1) := by decide +kernel
theorem dX8_digest_83 : decode cX8_digest 83 = .ok (.aload_n 0, 1) := by decide +kernel
theorem dX8_digest_84 : decode cX8_digest 84 = .ok (.getfield 109, 3) := by decide +kernel
theorem dX8_digest_87 : decode cX8_digest 87 = .ok (.if_icmp .ge 66, 3) := by decide +kernel
theorem dX8_digest_90 : decode cX8_digest 90 = .ok (.iconst 0, 1) := by decide +kernel
theorem dX8_digest_91 : decode cX8_digest 91 = .ok (.istore 4, 2) := by decide +kernel
theorem dX8_digest_93 : decode cX8_digest 93 = .ok (.iload 4, 2) := by decide +kernel
theorem dX8_digest_95 : decode cX8_digest 95 = .ok (.iconst 3, 1) := by decide +kernel
theorem dX8_digest_96 : decode cX8_digest 96 = .ok (.if_icmp .ge 24, 3) := by decide +kernel
theorem dX8_digest_99 : decode cX8_digest 99 = .ok (.ldc2_w 277, 3) := by decide +kernel
theorem dX8_digest_102 : decode cX8_digest 102 = .ok (.lload_n 1, 1) := by decide +kernel
theorem dX8_digest_103 : decode cX8_digest 103 = .ok (.lmul, 1) := by decide +kernel
theorem dX8_digest_104 : decode cX8_digest 104 = .ok (.aload_n 0, 1) := by decide +kernel
theorem dX8_digest_105 : decode cX8_digest 105 = .ok (.iload_n 3, 1) := by decide +kernel
theorem dX8_digest_106 : decode cX8_digest 106 = .ok (.iload 4, 2) := by decide +kernel
theorem dX8_digest_108 : decode cX8_digest 108 = .ok (.invokevirtual 132, 3) := by decide +kernel
theorem dX8_digest_111 : decode cX8_digest 111 = .ok (.i2l, 1) := by decide +kernel
theorem dX8_digest_112 : decode cX8_digest 112 = .ok (.ladd, 1) := by decide +kernel
theorem dX8_digest_113 : decode cX8_digest 113 = .ok (.lstore_n 1, 1) := by decide +kernel
theorem dX8_digest_114 : decode cX8_digest 114 = .ok (.iinc 4 1, 3) := by decide +kernel
theorem dX8_digest_117 : decode cX8_digest 117 = .ok (.goto (-24), 3) := by decide +kernel
theorem dX8_digest_120 : decode cX8_digest 120 = .ok (.ldc2_w 277, 3) := by decide +kernel
theorem dX8_digest_123 : decode cX8_digest 123 = .ok (.lload_n 1, 1) := by decide +kernel
theorem dX8_digest_124 : decode cX8_digest 124 = .ok (.lmul, 1) := by decide +kernel
theorem dX8_digest_125 : decode cX8_digest 125 = .ok (.aload_n 0, 1) := by decide +kernel
theorem dX8_digest_126 : decode cX8_digest 126 = .ok (.iconst 0, 1) := by decide +kernel
theorem dX8_digest_127 : decode cX8_digest 127 = .ok (.iload_n 3, 1) := by decide +kernel
theorem dX8_digest_128 : decode cX8_digest 128 = .ok (.invokevirtual 213, 3) := by decide +kernel
theorem dX8_digest_131 : decode cX8_digest 131 = .ok (.i2l, 1) := by decide +kernel
theorem dX8_digest_132 : decode cX8_digest 132 = .ok (.ladd, 1) := by decide +kernel
theorem dX8_digest_133 : decode cX8_digest 133 = .ok (.lstore_n 1, 1) := by decide +kernel
theorem dX8_digest_134 : decode cX8_digest 134 = .ok (.ldc2_w 277, 3) := by decide +kernel
theorem dX8_digest_137 : decode cX8_digest 137 = .ok (.lload_n 1, 1) := by decide +kernel
theorem dX8_digest_138 : decode cX8_digest 138 = .ok (.lmul, 1) := by decide +kernel
theorem dX8_digest_139 : decode cX8_digest 139 = .ok (.aload_n 0, 1) := by decide +kernel
theorem dX8_digest_140 : decode cX8_digest 140 = .ok (.iload_n 3, 1) := by decide +kernel
theorem dX8_digest_141 : decode cX8_digest 141 = .ok (.invokevirtual 222, 3) := by decide +kernel
theorem dX8_digest_144 : decode cX8_digest 144 = .ok (.i2l, 1) := by decide +kernel
theorem dX8_digest_145 : decode cX8_digest 145 = .ok (.ladd, 1) := by decide +kernel
theorem dX8_digest_146 : decode cX8_digest 146 = .ok (.lstore_n 1, 1) := by decide +kernel
theorem dX8_digest_147 : decode cX8_digest 147 = .ok (.iinc 3 1, 3) := by decide +kernel
theorem dX8_digest_150 : decode cX8_digest 150 = .ok (.goto (-68), 3) := by decide +kernel
theorem dX8_digest_153 : decode cX8_digest 153 = .ok (.aload_n 0, 1) := by decide +kernel
theorem dX8_digest_154 : decode cX8_digest 154 = .ok (.lload_n 1, 1) := by decide +kernel
theorem dX8_digest_155 : decode cX8_digest 155 = .ok (.iconst 0, 1) := by decide +kernel
theorem dX8_digest_156 : decode cX8_digest 156 = .ok (.invokevirtual 292, 3) := by decide +kernel
theorem dX8_digest_159 : decode cX8_digest 159 = .ok (.lstore_n 1, 1) := by decide +kernel
theorem dX8_digest_160 : decode cX8_digest 160 = .ok (.aload_n 0, 1) := by decide +kernel
theorem dX8_digest_161 : decode cX8_digest 161 = .ok (.lload_n 1, 1) := by decide +kernel
theorem dX8_digest_162 : decode cX8_digest 162 = .ok (.iconst 1, 1) := by decide +kernel
theorem dX8_digest_163 : decode cX8_digest 163 = .ok (.invokevirtual 292, 3) := by decide +kernel
theorem dX8_digest_166 : decode cX8_digest 166 = .ok (.lstore_n 1, 1) := by decide +kernel
theorem dX8_digest_167 : decode cX8_digest 167 = .ok (.aload_n 0, 1) := by decide +kernel
theorem dX8_digest_168 : decode cX8_digest 168 = .ok (.lload_n 1, 1) := by decide +kernel
theorem dX8_digest_169 : decode cX8_digest 169 = .ok (.iconst 5, 1) := by decide +kernel
theorem dX8_digest_170 : decode cX8_digest 170 = .ok (.invokevirtual 292, 3) := by decide +kernel
theorem dX8_digest_173 : decode cX8_digest 173 = .ok (.lstore_n 1, 1) := by decide +kernel
theorem dX8_digest_174 : decode cX8_digest 174 = .ok (.aload_n 0, 1) := by decide +kernel
theorem dX8_digest_175 : decode cX8_digest 175 = .ok (.lload_n 1, 1) := by decide +kernel
theorem dX8_digest_176 : decode cX8_digest 176 = .ok (.bipush 39, 2) := by decide +kernel
theorem dX8_digest_178 : decode cX8_digest 178 = .ok (.invokevirtual 292, 3) := by decide +kernel
theorem dX8_digest_181 : decode cX8_digest 181 = .ok (.lstore_n 1, 1) := by decide +kernel
theorem dX8_digest_182 : decode cX8_digest 182 = .ok (.ldc2_w 277, 3) := by decide +kernel
theorem dX8_digest_185 : decode cX8_digest 185 = .ok (.lload_n 1, 1) := by decide +kernel
theorem dX8_digest_186 : decode cX8_digest 186 = .ok (.lmul, 1) := by decide +kernel
theorem dX8_digest_187 : decode cX8_digest 187 = .ok (.aload_n 0, 1) := by decide +kernel
theorem dX8_digest_188 : decode cX8_digest 188 = .ok (.invokevirtual 200, 3) := by decide +kernel
theorem dX8_digest_191 : decode cX8_digest 191 = .ok (.i2l, 1) := by decide +kernel
theorem dX8_digest_192 : decode cX8_digest 192 = .ok (.ladd, 1) := by decide +kernel
theorem dX8_digest_193 : decode cX8_digest 193 = .ok (.lstore_n 1, 1) := by decide +kernel
theorem dX8_digest_194 : decode cX8_digest 194 = .ok (.ldc2_w 277, 3) := by decide +kernel
theorem dX8_digest_197 : decode cX8_digest 197 = .ok (.lload_n 1, 1) := by decide +kernel
theorem dX8_digest_198 : decode cX8_digest 198 = .ok (.lmul, 1) := by decide +kernel
theorem dX8_digest_199 : decode cX8_digest 199 = .ok (.aload_n 0, 1) := by decide +kernel
theorem dX8_digest_200 : decode cX8_digest 200 = .ok (.invokevirtual 207, 3) := by decide +kernel
theorem dX8_digest_203 : decode cX8_digest 203 = .ok (.i2l, 1) := by decide +kernel
theorem dX8_digest_204 : decode cX8_digest 204 = .ok (.ladd, 1) := by decide +kernel
theorem dX8_digest_205 : decode cX8_digest 205 = .ok (.lstore_n 1, 1) := by decide +kernel
theorem dX8_digest_206 : decode cX8_digest 206 = .ok (.ldc2_w 277, 3) := by decide +kernel
theorem dX8_digest_209 : decode cX8_digest 209 = .ok (.lload_n 1, 1) := by decide +kernel
theorem dX8_digest_210 : decode cX8_digest 210 = .ok (.lmul, 1) := by decide +kernel
theorem dX8_digest_211 : decode cX8_digest 211 = .ok (.aload_n 0, 1) := by decide +kernel
theorem dX8_digest_212 : decode cX8_digest 212 = .ok (.invokevirtual 210, 3) := by decide +kernel
theorem dX8_digest_215 : decode cX8_digest 215 = .ok (.i2l, 1) := by decide +kernel
theorem dX8_digest_216 : decode cX8_digest 216 = .ok (.ladd, 1) := by decide +kernel
theorem dX8_digest_217 : decode cX8_digest 217 = .ok (.lstore_n 1, 1) := by decide +kernel
theorem dX8_digest_218 : decode cX8_digest 218 = .ok (.ldc2_w 277, 3) := by decide +kernel
theorem dX8_digest_221 : decode cX8_digest 221 = .ok (.lload_n 1, 1) := by decide +kernel
theorem dX8_digest_222 : decode cX8_digest 222 = .ok (.lmul, 1) := by decide +kernel
theorem dX8_digest_223 : decode cX8_digest 223 = .ok (.aload_n 0, 1) := by decide +kernel
theorem dX8_digest_224 : decode cX8_digest 224 = .ok (.bipush (-2), 2) := by decide +kernel
theorem dX8_digest_226 : decode cX8_digest 226 = .ok (.invokevirtual 219, 3) := by decide +kernel
theorem dX8_digest_229 : decode cX8_digest 229 = .ok (.i2l, 1) := by decide +kernel
theorem dX8_digest_230 : decode cX8_digest 230 = .ok (.ladd, 1) := by decide +kernel
theorem dX8_digest_231 : decode cX8_digest 231 = .ok (.lstore_n 1, 1) := by decide +kernel
theorem dX8_digest_232 : decode cX8_digest 232 = .ok (.ldc2_w 277, 3) := by decide +kernel
theorem dX8_digest_235 : decode cX8_digest 235 = .ok (.lload_n 1, 1) := by decide +kernel
theorem dX8_digest_236 : decode cX8_digest 236 = .ok (.lmul, 1) := by decide +kernel
theorem dX8_digest_237 : decode cX8_digest 237 = .ok (.aload_n 0, 1) := by decide +kernel
theorem dX8_digest_238 : decode cX8_digest 238 = .ok (.iconst (-1), 1) := by decide +kernel
theorem dX8_digest_239 : decode cX8_digest 239 = .ok (.invokevirtual 219, 3) := by decide +kernel
theorem dX8_digest_242 : decode cX8_digest 242 = .ok (.i2l, 1) := by decide +kernel
theorem dX8_digest_243 : decode cX8_digest 243 = .ok (.ladd, 1) := by decide +kernel
theorem dX8_digest_244 : decode cX8_digest 244 = .ok (.lstore_n 1, 1) := by decide +kernel
theorem dX8_digest_245 : decode cX8_digest 245 = .ok (.ldc2_w 277, 3) := by decide +kernel
theorem dX8_digest_248 : decode cX8_digest 248 = .ok (.lload_n 1, 1) := by decide +kernel
theorem dX8_digest_249 : decode cX8_digest 249 = .ok (.lmul, 1) := by decide +kernel
theorem dX8_digest_250 : decode cX8_digest 250 = .ok (.aload_n 0, 1) := by decide +kernel
theorem dX8_digest_251 : decode cX8_digest 251 = .ok (.bipush 8, 2) := by decide +kernel
theorem dX8_digest_253 : decode cX8_digest 253 = .ok (.invokevirtual 239, 3) := by decide +kernel
theorem dX8_digest_256 : decode cX8_digest 256 = .ok (.i2l, 1) := by decide +kernel
theorem dX8_digest_257 : decode cX8_digest 257 = .ok (.ladd, 1) := by decide +kernel
theorem dX8_digest_258 : decode cX8_digest 258 = .ok (.lstore_n 1, 1) := by decide +kernel
theorem dX8_digest_259 : decode cX8_digest 259 = .ok (.ldc2_w 277, 3) := by decide +kernel
theorem dX8_digest_262 : decode cX8_digest 262 = .ok (.lload_n 1, 1) := by decide +kernel
theorem dX8_digest_263 : decode cX8_digest 263 = .ok (.lmul, 1) := by decide +kernel
theorem dX8_digest_264 : decode cX8_digest 264 = .ok (.aload_n 0, 1) := by decide +kernel
theorem dX8_digest_265 : decode cX8_digest 265 = .ok (.iconst (-1), 1) := by decide +kernel
theorem dX8_digest_266 : decode cX8_digest 266 = .ok (.invokevirtual 242, 3) := by decide +kernel
theorem dX8_digest_269 : decode cX8_digest 269 = .ok (.i2l, 1) := by decide +kernel
theorem dX8_digest_270 : decode cX8_digest 270 = .ok (.ladd, 1) := by decide +kernel
theorem dX8_digest_271 : decode cX8_digest 271 = .ok (.lstore_n 1, 1) := by decide +kernel
theorem dX8_digest_272 : decode cX8_digest 272 = .ok (.ldc2_w 277, 3) := by decide +kernel
theorem dX8_digest_275 : decode cX8_digest 275 = .ok (.lload_n 1, 1) := by decide +kernel
theorem dX8_digest_276 : decode cX8_digest 276 = .ok (.lmul, 1) := by decide +kernel
theorem dX8_digest_277 : decode cX8_digest 277 = .ok (.aload_n 0, 1) := by decide +kernel
theorem dX8_digest_278 : decode cX8_digest 278 = .ok (.iconst 0, 1) := by decide +kernel
theorem dX8_digest_279 : decode cX8_digest 279 = .ok (.invokevirtual 242, 3) := by decide +kernel
theorem dX8_digest_282 : decode cX8_digest 282 = .ok (.i2l, 1) := by decide +kernel
theorem dX8_digest_283 : decode cX8_digest 283 = .ok (.ladd, 1) := by decide +kernel
theorem dX8_digest_284 : decode cX8_digest 284 = .ok (.lstore_n 1, 1) := by decide +kernel
theorem dX8_digest_285 : decode cX8_digest 285 = .ok (.ldc2_w 277, 3) := by decide +kernel
theorem dX8_digest_288 : decode cX8_digest 288 = .ok (.lload_n 1, 1) := by decide +kernel
theorem dX8_digest_289 : decode cX8_digest 289 = .ok (.lmul, 1) := by decide +kernel
theorem dX8_digest_290 : decode cX8_digest 290 = .ok (.aload_n 0, 1) := by decide +kernel
theorem dX8_digest_291 : decode cX8_digest 291 = .ok (.iconst (-1), 1) := by decide +kernel
theorem dX8_digest_292 : decode cX8_digest 292 = .ok (.invokevirtual 251, 3) := by decide +kernel
theorem dX8_digest_295 : decode cX8_digest 295 = .ok (.i2l, 1) := by decide +kernel
theorem dX8_digest_296 : decode cX8_digest 296 = .ok (.ladd, 1) := by decide +kernel
theorem dX8_digest_297 : decode cX8_digest 297 = .ok (.lstore_n 1, 1) := by decide +kernel
theorem dX8_digest_298 : decode cX8_digest 298 = .ok (.ldc2_w 277, 3) := by decide +kernel
theorem dX8_digest_301 : decode cX8_digest 301 = .ok (.lload_n 1, 1) := by decide +kernel
theorem dX8_digest_302 : decode cX8_digest 302 = .ok (.lmul, 1) := by decide +kernel
theorem dX8_digest_303 : decode cX8_digest 303 = .ok (.aload_n 0, 1) := by decide +kernel
theorem dX8_digest_304 : decode cX8_digest 304 = .ok (.bipush 7, 2) := by decide +kernel
theorem dX8_digest_306 : decode cX8_digest 306 = .ok (.bipush 20, 2) := by decide +kernel
theorem dX8_digest_308 : decode cX8_digest 308 = .ok (.iconst 0, 1) := by decide +kernel
theorem dX8_digest_309 : decode cX8_digest 309 = .ok (.invokevirtual 261, 3) := by decide +kernel
theorem dX8_digest_312 : decode cX8_digest 312 = .ok (.i2l, 1) := by decide +kernel
theorem dX8_digest_313 : decode cX8_digest 313 = .ok (.ladd, 1) := by decide +kernel
theorem dX8_digest_314 : decode cX8_digest 314 = .ok (.lstore_n 1, 1) := by decide +kernel
theorem dX8_digest_315 : decode cX8_digest 315 = .ok (.ldc2_w 277, 3) := by decide +kernel
theorem dX8_digest_318 : decode cX8_digest 318 = .ok (.lload_n 1, 1) := by decide +kernel
theorem dX8_digest_319 : decode cX8_digest 319 = .ok (.lmul, 1) := by decide +kernel
theorem dX8_digest_320 : decode cX8_digest 320 = .ok (.aload_n 0, 1) := by decide +kernel
theorem dX8_digest_321 : decode cX8_digest 321 = .ok (.bipush 7, 2) := by decide +kernel
theorem dX8_digest_323 : decode cX8_digest 323 = .ok (.bipush 20, 2) := by decide +kernel
theorem dX8_digest_325 : decode cX8_digest 325 = .ok (.iconst 1, 1) := by decide +kernel
theorem dX8_digest_326 : decode cX8_digest 326 = .ok (.invokevirtual 261, 3) := by decide +kernel
theorem dX8_digest_329 : decode cX8_digest 329 = .ok (.i2l, 1) := by decide +kernel
theorem dX8_digest_330 : decode cX8_digest 330 = .ok (.ladd, 1) := by decide +kernel
theorem dX8_digest_331 : decode cX8_digest 331 = .ok (.lreturn, 1) := by decide +kernel
end
section
/-! THE LIBRARY: a light judgement G over the machine, for methods that make no cell: the world is a fixed list of cells, numbered; their contents are a state of numbers. -/
/-- the state: ints and longs, by cell and place -/
abbrev Sg : Type := (Nat → Nat → Int32) × (Nat → Nat → Int64)
def rI (z : Sg) (t k : Nat) : Int32 := z.1 t k
def rJ (z : Sg) (t k : Nat) : Int64 := z.2 t k
def wI (z : Sg) (t k : Nat) (v : Int32) : Sg := (fun t' => if t' = t then upd (z.1 t) k v else z.1 t', z.2)
def wJ (z : Sg) (t k : Nat) (v : Int64) : Sg := (z.1, fun t' => if t' = t then vp_updL (z.2 t) k v else z.2 t')
def wA (z : Sg) (t : Nat) (f : Nat → Int32) : Sg := (fun t' => if t' = t then f else z.1 t', z.2)
theorem rI_wI (z : Sg) (t k : Nat) (v : Int32) (a b : Nat) : rI (wI z t k v) a b = if a = t ∧ b = k then v else rI z a b := by
  unfold rI wI upd
  by_cases h : a = t
  · subst h
    by_cases h2 : b = k <;> simp [h2]
  · simp [h]
theorem rJ_wI (z : Sg) (t k : Nat) (v : Int32) (a b : Nat) : rJ (wI z t k v) a b = rJ z a b := rfl
theorem rI_wJ (z : Sg) (t k : Nat) (v : Int64) (a b : Nat) : rI (wJ z t k v) a b = rI z a b := rfl
theorem rJ_wJ (z : Sg) (t k : Nat) (v : Int64) (a b : Nat) : rJ (wJ z t k v) a b = if a = t ∧ b = k then v else rJ z a b := by
  unfold rJ wJ vp_updL
  by_cases h : a = t
  · subst h
    by_cases h2 : b = k <;> simp [h2]
  · simp [h]
/-- a row's item: the number of a place -/
abbrev ix (i : Int32) : Nat := i.toNatClampNeg
abbrev ib (i : Int32) (n : Nat) : Prop := ¬ (i < 0 ∨ n ≤ i.toNatClampNeg)
/-- how many places a copy takes -/
abbrev cpOK (sp dp n : Int32) (n0 n1 : Nat) : Prop := ¬ sp < 0 ∧ ¬ dp < 0 ∧ ¬ n < 0 ∧ sp.toNatClampNeg + n.toNatClampNeg ≤ n0 ∧ dp.toNatClampNeg + n.toNatClampNeg ≤ n1
-- steps of a function that may have no answer
def b1 {α β : Type} (x : Option α) (k : α → Option β) : Option β := match x with
  | some a => k a
  | none => none
def b2 {α γ β : Type} (x : Option (α × γ)) (k : α → γ → Option β) : Option β := match x with
  | some (a, c) => k a c
  | none => none
def b3 {α γ δ β : Type} (x : Option (α × γ × δ)) (k : α → γ → δ → Option β) : Option β := match x with
  | some (a, c, d) => k a c d
  | none => none
def b4 {α γ δ ε β : Type} (x : Option (α × γ × δ × ε)) (k : α → γ → δ → ε → Option β) : Option β := match x with
  | some (a, c, d, e) => k a c d e
  | none => none
def b5 {α γ δ ε ζ β : Type} (x : Option (α × γ × δ × ε × ζ)) (k : α → γ → δ → ε → ζ → Option β) : Option β := match x with
  | some (a, c, d, e, f) => k a c d e f
  | none => none
def ck {β : Type} (c : Prop) [Decidable c] (x : Option β) : Option β := if c then x else none
theorem b1_some {α β : Type} (a : α) (k : α → Option β) : b1 (some a) k = k a := rfl
theorem b2_some {α γ β : Type} (a : α) (c : γ) (k : α → γ → Option β) : b2 (some (a, c)) k = k a c := rfl
theorem b3_some {α γ δ β : Type} (a : α) (c : γ) (d : δ) (k : α → γ → δ → Option β) : b3 (some (a, c, d)) k = k a c d := rfl
theorem b4_some {α γ δ ε β : Type} (a : α) (c : γ) (d : δ) (e : ε) (k : α → γ → δ → ε → Option β) : b4 (some (a, c, d, e)) k = k a c d e := rfl
theorem b5_some {α γ δ ε ζ β : Type} (a : α) (c : γ) (d : δ) (e : ε) (f : ζ) (k : α → γ → δ → ε → ζ → Option β) : b5 (some (a, c, d, e, f)) k = k a c d e f := rfl
theorem b1_of {α β : Type} {x : Option α} {k : α → Option β} {r : β} (h : b1 x k = some r) : ∃ a, x = some a ∧ k a = some r := by
  cases x with
  | none => cases h
  | some a => exact ⟨a, rfl, h⟩
theorem b2_of {α γ β : Type} {x : Option (α × γ)} {k : α → γ → Option β} {r : β} (h : b2 x k = some r) : ∃ a c, x = some (a, c) ∧ k a c = some r := by
  cases x with
  | none => cases h
  | some a => exact ⟨a.1, a.2, rfl, h⟩
theorem b3_of {α γ δ β : Type} {x : Option (α × γ × δ)} {k : α → γ → δ → Option β} {r : β} (h : b3 x k = some r) : ∃ a c d, x = some (a, c, d) ∧ k a c d = some r := by
  cases x with
  | none => cases h
  | some a => exact ⟨a.1, a.2.1, a.2.2, rfl, h⟩
theorem b4_of {α γ δ ε β : Type} {x : Option (α × γ × δ × ε)} {k : α → γ → δ → ε → Option β} {r : β} (h : b4 x k = some r) : ∃ a c d e, x = some (a, c, d, e) ∧ k a c d e = some r := by
  cases x with
  | none => cases h
  | some a => exact ⟨a.1, a.2.1, a.2.2.1, a.2.2.2, rfl, h⟩
theorem b5_of {α γ δ ε ζ β : Type} {x : Option (α × γ × δ × ε × ζ)} {k : α → γ → δ → ε → ζ → Option β} {r : β} (h : b5 x k = some r) : ∃ a c d e f, x = some (a, c, d, e, f) ∧ k a c d e f = some r := by
  cases x with
  | none => cases h
  | some a => exact ⟨a.1, a.2.1, a.2.2.1, a.2.2.2.1, a.2.2.2.2, rfl, h⟩
theorem ck_of {β : Type} {c : Prop} [Decidable c] {x : Option β} {r : β} (h : ck c x = some r) : c ∧ x = some r := by
  unfold ck at h
  by_cases hc : c
  · rw [if_pos hc] at h; exact ⟨hc, h⟩
  · rw [if_neg hc] at h; cases h
theorem ck_pos {β : Type} {c : Prop} [Decidable c] {x : Option β} (h : c) : ck c x = x := if_pos h
theorem it_t {α : Type} {c : Prop} [Decidable c] {x y r : α} (h : (if c then x else y) = r) (hc : c) : x = r := by rw [if_pos hc] at h; exact h
theorem it_f {α : Type} {c : Prop} [Decidable c] {x y r : α} (h : (if c then x else y) = r) (hc : ¬ c) : y = r := by rw [if_neg hc] at h; exact h
theorem so1 {α : Type} {a b : α} (h : some a = some b) : a = b := Option.some.inj h
theorem so2 {α γ : Type} {a b : α} {c d : γ} (h : some (a, c) = some (b, d)) : a = b ∧ c = d := by cases h; exact ⟨rfl, rfl⟩
theorem so3 {α γ δ : Type} {a b : α} {c d : γ} {e f : δ} (h : some (a, c, e) = some (b, d, f)) : a = b ∧ c = d ∧ e = f := by cases h; exact ⟨rfl, rfl, rfl⟩
theorem so4 {α γ δ ε : Type} {a b : α} {c d : γ} {e f : δ} {g h : ε} (q : some (a, c, e, g) = some (b, d, f, h)) : a = b ∧ c = d ∧ e = f ∧ g = h := by cases q; exact ⟨rfl, rfl, rfl, rfl⟩
theorem so5 {α γ δ ε ζ : Type} {a b : α} {c d : γ} {e f : δ} {g h : ε} {i j : ζ} (q : some (a, c, e, g, i) = some (b, d, f, h, j)) : a = b ∧ c = d ∧ e = f ∧ g = h ∧ i = j := by cases q; exact ⟨rfl, rfl, rfl, rfl, rfl⟩
theorem cv_ge {a b : Int32} (h : ¬ a < b) : b ≤ a := Int32.not_lt.mp h
theorem cv_gt {a b : Int32} (h : ¬ a ≤ b) : b < a := Int32.not_le.mp h
theorem cv_nge {a b : Int32} (h : a < b) : ¬ b ≤ a := Int32.not_le.mpr h
theorem cv_ngt {a b : Int32} (h : a ≤ b) : ¬ b < a := Int32.not_lt.mpr h
-- kinds of cells: (0, class, fields) an object; (1, n, _) ints; (2, n, _) booleans; (3, n, _) longs; (4, n, [(base, step)]) references; a field: (0, _) int, (1, _) long, (2, d) a reference to the cell d further, (3, a) to the cell a
abbrev Kd : Type := Nat × Nat × List (Nat × Nat)
/-- the world's own: class numbers and slots, addresses, the array classes -/
abbrev WC : Type := va_G × (Nat → Nat) × ClassId × ClassId × ClassId × ClassId
def fv (ad : Nat → Nat) (z : Sg) (t k : Nat) (f : Nat × Nat) : Value := match f.1 with
  | 0 => .int (rI z t k)
  | 1 => .long (rJ z t k)
  | 2 => .ref (ad (t + f.2))
  | _ => .ref (ad f.2)
def flds (ad : Nat → Nat) (z : Sg) (t : Nat) : Nat → List (Nat × Nat) → List Value
  | _, [] => []
  | k, f :: l => fv ad z t k f :: flds ad z t (k + 1) l
theorem flds_len (ad : Nat → Nat) (z : Sg) (t : Nat) : ∀ (l : List (Nat × Nat)) (k : Nat), (flds ad z t k l).length = l.length
  | [], _ => rfl
  | _ :: l, k => by simp [flds, flds_len ad z t l (k + 1)]
theorem flds_at (ad : Nat → Nat) (z : Sg) (t : Nat) : ∀ (l : List (Nat × Nat)) (k j : Nat) (f : Nat × Nat), l[j]? = some f → (flds ad z t k l)[j]? = some (fv ad z t (k + j) f)
  | [], _, j, f, h => by simp at h
  | a :: l, k, 0, f, h => by simp at h; subst h; simp [flds]
  | a :: l, k, j + 1, f, h => by
    simp at h
    simp only [flds, List.getElem?_cons_succ]
    rw [flds_at ad z t l (k + 1) j f h]
    congr 2
    omega
theorem flds_ext (ad : Nat → Nat) (z z' : Sg) (t : Nat) (v : Value) : ∀ (l : List (Nat × Nat)) (k j : Nat) (f : Nat × Nat), l[j]? = some f → fv ad z' t (k + j) f = v → (∀ i g, l[i]? = some g → i ≠ j → fv ad z' t (k + i) g = fv ad z t (k + i) g) → flds ad z' t k l = (flds ad z t k l).set j v
  | [], _, j, f, h, _, _ => by simp at h
  | a :: l, k, 0, f, h, hv, ho => by
    simp at h; subst h
    simp only [flds, List.set_cons_zero]
    congr 1
    clear hv
    have key : ∀ (l' : List (Nat × Nat)) (k' : Nat), (∀ i g, l'[i]? = some g → fv ad z' t (k' + i) g = fv ad z t (k' + i) g) → flds ad z' t k' l' = flds ad z t k' l' := by
      intro l'
      induction l' with
      | nil => intro _ _; rfl
      | cons b l' ih =>
        intro k' h
        simp only [flds]
        rw [ih (k' + 1) (fun i g hg => by have := h (i + 1) g (by simpa using hg); rw [show k' + 1 + i = k' + (i + 1) by omega]; exact this)]
        have := h 0 b (by simp)
        simp at this
        rw [this]
    exact key l (k + 1) (fun i g hg => by have := ho (i + 1) g (by simpa using hg) (by omega); rw [show k + 1 + i = k + (i + 1) by omega]; exact this)
  | a :: l, k, j + 1, f, h, hv, ho => by
    simp at h
    simp only [flds, List.set_cons_succ]
    rw [flds_ext ad z z' t v l (k + 1) j f h (by rw [show k + 1 + j = k + (j + 1) by omega]; exact hv) (fun i g hg hi => by have := ho (i + 1) g (by simpa using hg) (by omega); rw [show k + 1 + i = k + (i + 1) by omega]; exact this)]
    have := ho 0 a (by simp) (by omega)
    simp at this
    rw [this]
def entK (w : WC) (z : Sg) (t : Nat) (K : Kd) : va_E := match K with
  | (0, ci, fl) => .inr (ci, flds w.2.1 z t 0 fl)
  | (1, n, _) => .inl (w.2.2.1, n, .inl (z.1 t))
  | (2, n, _) => .inl (w.2.2.2.1, n, .inl (z.1 t))
  | (3, n, _) => .inl (w.2.2.2.2.1, n, .inr (.inl (z.2 t)))
  | (4, n, (b, d) :: _) => .inl (w.2.2.2.2.2, n, .inr (.inr (.inr (.inr (fun j => some (w.2.1 (b + d * j)))))))
  | _ => .inr (0, [])
theorem entK_congr (w : WC) (z z' : Sg) (t : Nat) (K : Kd) (h1 : z'.1 t = z.1 t) (h2 : z'.2 t = z.2 t) : entK w z' t K = entK w z t K := by
  have hf : ∀ l k, flds w.2.1 z' t k l = flds w.2.1 z t k l := by
    intro l
    induction l with
    | nil => intro _; rfl
    | cons b l ih => intro k; simp only [flds, ih]; simp only [fv, rI, rJ, h1, h2]
  unfold entK
  split <;> simp only [hf, h1, h2]
end
section
/-! THE WORLD: the cells of the class (false) and of the reference (true), by number. Printed by wip/whole/gen/mkworld.py. -/
abbrev KX0 : Kd := (0, 0, [(2, 1), (2, 2), (0, 0)])
abbrev KX1 : Kd := (0, 1, [(0, 0), (2, 1), (2, 2), (2, 3), (0, 0), (0, 0), (0, 0)])
abbrev KX2 : Kd := (0, 2, [(3, 1), (3, 5), (0, 0), (0, 0), (0, 0)])
abbrev KX3 : Kd := (0, 3, [(2, 1), (1, 0), (1, 0)])
abbrev KX4 : Kd := (0, 4, [(3, 9), (2, 1), (2, 2), (0, 0), (2, 3), (2, 4), (2, 5), (2, 6), (2, 7), (2, 8), (2, 9), (2, 10), (0, 0), (0, 0), (0, 0), (1, 0), (0, 0)])
abbrev KX5 : Kd := (0, 5, [(2, 1), (0, 0), (0, 0)])
abbrev KX6 : Kd := (0, 6, [(2, 1), (2, 2), (2, 3), (0, 0)])
abbrev KX7 : Kd := (0, 7, [(3, 1), (3, 5), (3, 9), (3, 10), (3, 13), (3, 16), (3, 20), (3, 31), (3, 42), (3, 44), (0, 0), (0, 0), (0, 0)])
abbrev KX8 : Kd := (0, 8, [(3, 1), (3, 2), (0, 0), (3, 3), (3, 4), (0, 0), (3, 5), (3, 6), (3, 7), (0, 0), (0, 0), (0, 0), (0, 0), (3, 8), (3, 9), (0, 0), (3, 10), (3, 11), (3, 12), (3, 13), (3, 14), (0, 0), (0, 0), (3, 15), (3, 16), (3, 17), (3, 18), (0, 0), (3, 19), (3, 20), (3, 21), (3, 22), (3, 23), (3, 24), (3, 25), (3, 26), (0, 0)])
def tabX : List Kd := [KX7, KX1, (1, 8, []), (1, 8, []), (1, 8, []), KX1, (1, 8, []), (1, 8, []), (1, 8, []), KX2, KX0, (1, 12, []), (1, 12, []), KX0, (1, 12, []), (1, 12, []), KX6, (1, 8, []), (1, 8, []), (1, 8, []), KX4, (1, 40, []), (1, 52, []), (1, 8, []), (1, 8, []), (1, 40, []), (1, 40, []), (1, 40, []), (1, 40, []), (1, 8, []), (1, 8, []), KX4, (1, 40, []), (1, 52, []), (1, 8, []), (1, 8, []), (1, 40, []), (1, 40, []), (1, 40, []), (1, 40, []), (1, 8, []), (1, 8, []), KX3, (3, 256, []), (4, 4, [(45, 2)]), KX5, (1, 48, []), KX5, (1, 48, []), KX5, (1, 48, []), KX5, (1, 48, [])]
def tabM : List Kd := [KX8, (1, 2, []), (1, 94, []), (1, 9, []), (1, 9, []), (1, 9, []), (1, 9, []), (1, 9, []), (1, 52, []), (1, 52, []), (1, 52, []), (1, 52, []), (1, 8, []), (1, 8, []), (1, 8, []), (1, 2304, []), (1, 8, []), (1, 256, []), (1, 8, []), (1, 8, []), (1, 8, []), (1, 8, []), (2, 4, []), (1, 4, []), (1, 4, []), (1, 192, []), (1, 48, [])]
def kd (sp : Bool) (t : Nat) : Kd := (if sp then tabM else tabX).getD t (9, 0, [])
def NN (sp : Bool) : Nat := if sp then 27 else 53
theorem kd_lt {sp : Bool} {t : Nat} (h : (kd sp t).1 ≠ 9) : t < NN sp := by
  refine Nat.not_le.mp fun q => h ?_
  unfold kd
  cases sp
  · rw [List.getD_eq_getElem?_getD, List.getElem?_eq_none (by exact q)]; rfl
  · rw [List.getD_eq_getElem?_getD, List.getElem?_eq_none (by exact q)]; rfl
def TB : List Cond := lw_tbl.filter goodWord
theorem tbm {w : Cond} (i : Nat) (h : lw_tbl[i]? = some w) (g : goodWord w = true) : w ∈ TB := List.mem_filter.mpr ⟨List.mem_of_getElem? h, g⟩
theorem goodTB {w : Cond} (h : w ∈ TB) : w ∈ TB ∧ ((w.onTables && w.keeps) = true ∨ ∃ ty, w = .arrayClass ty) := ⟨h, good_of_word (List.mem_filter.mp h).2⟩
def nestW : List Cond := [(Jvm.Cond.fieldLinkNest "FoundVirtues$Run" (94 : Nat) "FoundVirtues$Office" "virtues" "LFoundVirtues$Entries;" "FoundVirtues"), (Jvm.Cond.fieldLinkNest "FoundVirtues$Rows" (33 : Nat) "FoundVirtues$Office" "virtues" "LFoundVirtues$Entries;" "FoundVirtues"), (Jvm.Cond.fieldLinkNest "FoundVirtues$Run" (56 : Nat) "FoundVirtues$Office" "claimants" "LFoundVirtues$Entries;" "FoundVirtues"), (Jvm.Cond.fieldLinkNest "FoundVirtues$Rows" (21 : Nat) "FoundVirtues$Office" "claimants" "LFoundVirtues$Entries;" "FoundVirtues"), (Jvm.Cond.methodLinkNest "FoundVirtues" (32 : Nat) ({ cls := "FoundVirtues$Book", name := "<init>", desc := "()V" } : Jvm.MethodName) "FoundVirtues"), (Jvm.Cond.methodLinkNest "FoundVirtues" (42 : Nat) ({ cls := "FoundVirtues$Sightings", name := "<init>", desc := "()V" } : Jvm.MethodName) "FoundVirtues"), (Jvm.Cond.methodLinkNest "FoundVirtues" (61 : Nat) ({ cls := "FoundVirtues$Rows", name := "<init>", desc := "()V" } : Jvm.MethodName) "FoundVirtues"), (Jvm.Cond.methodLinkNest "FoundVirtues" (72 : Nat) ({ cls := "FoundVirtues$Sheet", name := "<init>", desc := "()V" } : Jvm.MethodName) "FoundVirtues"), (Jvm.Cond.methodLinkNest "FoundVirtues$Book" (18 : Nat) ({ cls := "FoundVirtues", name := "outside", desc := "(II)Z" } : Jvm.MethodName) "FoundVirtues"), (Jvm.Cond.methodLinkNest "FoundVirtues$Sightings" (21 : Nat) ({ cls := "FoundVirtues", name := "outside", desc := "(II)Z" } : Jvm.MethodName) "FoundVirtues"), (Jvm.Cond.methodLinkNest "FoundVirtues$Sheet" (32 : Nat) ({ cls := "FoundVirtues", name := "outside", desc := "(II)Z" } : Jvm.MethodName) "FoundVirtues")]
theorem lay0 : ∀ k, k < 3 → u_lay RX0 TX0 k ∈ lw_tbl := fun k hk => match k, hk with
  | 0, _ => List.mem_of_getElem? (i := 173) (by decide +kernel)
  | 1, _ => List.mem_of_getElem? (i := 175) (by decide +kernel)
  | 2, _ => List.mem_of_getElem? (i := 177) (by decide +kernel)
  | k + 3, h => absurd h (by omega)
theorem layg0 : ∀ k, k < 3 → goodWord (u_lay RX0 TX0 k) = true := by decide +kernel
theorem lay1 : ∀ k, k < 7 → u_lay RX1 TX1 k ∈ lw_tbl := fun k hk => match k, hk with
  | 0, _ => List.mem_of_getElem? (i := 115) (by decide +kernel)
  | 1, _ => List.mem_of_getElem? (i := 117) (by decide +kernel)
  | 2, _ => List.mem_of_getElem? (i := 119) (by decide +kernel)
  | 3, _ => List.mem_of_getElem? (i := 121) (by decide +kernel)
  | 4, _ => List.mem_of_getElem? (i := 123) (by decide +kernel)
  | 5, _ => List.mem_of_getElem? (i := 125) (by decide +kernel)
  | 6, _ => List.mem_of_getElem? (i := 127) (by decide +kernel)
  | k + 7, h => absurd h (by omega)
theorem layg1 : ∀ k, k < 7 → goodWord (u_lay RX1 TX1 k) = true := by decide +kernel
theorem lay2 : ∀ k, k < 5 → u_lay RX2 TX2 k ∈ lw_tbl := fun k hk => match k, hk with
  | 0, _ => List.mem_of_getElem? (i := 149) (by decide +kernel)
  | 1, _ => List.mem_of_getElem? (i := 151) (by decide +kernel)
  | 2, _ => List.mem_of_getElem? (i := 153) (by decide +kernel)
  | 3, _ => List.mem_of_getElem? (i := 155) (by decide +kernel)
  | 4, _ => List.mem_of_getElem? (i := 157) (by decide +kernel)
  | k + 5, h => absurd h (by omega)
theorem layg2 : ∀ k, k < 5 → goodWord (u_lay RX2 TX2 k) = true := by decide +kernel
theorem lay3 : ∀ k, k < 3 → u_lay RX3 TX3 k ∈ lw_tbl := fun k hk => match k, hk with
  | 0, _ => List.mem_of_getElem? (i := 279) (by decide +kernel)
  | 1, _ => List.mem_of_getElem? (i := 281) (by decide +kernel)
  | 2, _ => List.mem_of_getElem? (i := 283) (by decide +kernel)
  | k + 3, h => absurd h (by omega)
theorem layg3 : ∀ k, k < 3 → goodWord (u_lay RX3 TX3 k) = true := by decide +kernel
theorem lay4 : ∀ k, k < 17 → u_lay RX4 TX4 k ∈ lw_tbl := fun k hk => match k, hk with
  | 0, _ => List.mem_of_getElem? (i := 233) (by decide +kernel)
  | 1, _ => List.mem_of_getElem? (i := 235) (by decide +kernel)
  | 2, _ => List.mem_of_getElem? (i := 237) (by decide +kernel)
  | 3, _ => List.mem_of_getElem? (i := 239) (by decide +kernel)
  | 4, _ => List.mem_of_getElem? (i := 241) (by decide +kernel)
  | 5, _ => List.mem_of_getElem? (i := 243) (by decide +kernel)
  | 6, _ => List.mem_of_getElem? (i := 245) (by decide +kernel)
  | 7, _ => List.mem_of_getElem? (i := 247) (by decide +kernel)
  | 8, _ => List.mem_of_getElem? (i := 249) (by decide +kernel)
  | 9, _ => List.mem_of_getElem? (i := 251) (by decide +kernel)
  | 10, _ => List.mem_of_getElem? (i := 253) (by decide +kernel)
  | 11, _ => List.mem_of_getElem? (i := 255) (by decide +kernel)
  | 12, _ => List.mem_of_getElem? (i := 257) (by decide +kernel)
  | 13, _ => List.mem_of_getElem? (i := 259) (by decide +kernel)
  | 14, _ => List.mem_of_getElem? (i := 261) (by decide +kernel)
  | 15, _ => List.mem_of_getElem? (i := 263) (by decide +kernel)
  | 16, _ => List.mem_of_getElem? (i := 265) (by decide +kernel)
  | k + 17, h => absurd h (by omega)
theorem layg4 : ∀ k, k < 17 → goodWord (u_lay RX4 TX4 k) = true := by decide +kernel
theorem lay5 : ∀ k, k < 3 → u_lay RX5 TX5 k ∈ lw_tbl := fun k hk => match k, hk with
  | 0, _ => List.mem_of_getElem? (i := 300) (by decide +kernel)
  | 1, _ => List.mem_of_getElem? (i := 302) (by decide +kernel)
  | 2, _ => List.mem_of_getElem? (i := 304) (by decide +kernel)
  | k + 3, h => absurd h (by omega)
theorem layg5 : ∀ k, k < 3 → goodWord (u_lay RX5 TX5 k) = true := by decide +kernel
theorem lay6 : ∀ k, k < 4 → u_lay RX6 TX6 k ∈ lw_tbl := fun k hk => match k, hk with
  | 0, _ => List.mem_of_getElem? (i := 191) (by decide +kernel)
  | 1, _ => List.mem_of_getElem? (i := 193) (by decide +kernel)
  | 2, _ => List.mem_of_getElem? (i := 195) (by decide +kernel)
  | 3, _ => List.mem_of_getElem? (i := 197) (by decide +kernel)
  | k + 4, h => absurd h (by omega)
theorem layg6 : ∀ k, k < 4 → goodWord (u_lay RX6 TX6 k) = true := by decide +kernel
theorem lay7 : ∀ k, k < 13 → u_lay RX7 TX7 k ∈ lw_tbl := fun k hk => match k, hk with
  | 0, _ => List.mem_of_getElem? (i := 320) (by decide +kernel)
  | 1, _ => List.mem_of_getElem? (i := 322) (by decide +kernel)
  | 2, _ => List.mem_of_getElem? (i := 324) (by decide +kernel)
  | 3, _ => List.mem_of_getElem? (i := 326) (by decide +kernel)
  | 4, _ => List.mem_of_getElem? (i := 328) (by decide +kernel)
  | 5, _ => List.mem_of_getElem? (i := 330) (by decide +kernel)
  | 6, _ => List.mem_of_getElem? (i := 332) (by decide +kernel)
  | 7, _ => List.mem_of_getElem? (i := 334) (by decide +kernel)
  | 8, _ => List.mem_of_getElem? (i := 336) (by decide +kernel)
  | 9, _ => List.mem_of_getElem? (i := 338) (by decide +kernel)
  | 10, _ => List.mem_of_getElem? (i := 340) (by decide +kernel)
  | 11, _ => List.mem_of_getElem? (i := 342) (by decide +kernel)
  | 12, _ => List.mem_of_getElem? (i := 344) (by decide +kernel)
  | k + 13, h => absurd h (by omega)
theorem layg7 : ∀ k, k < 13 → goodWord (u_lay RX7 TX7 k) = true := by decide +kernel
theorem lay8 : ∀ k, k < 37 → u_lay RX8 TX8 k ∈ lw_tbl := fun k hk => match k, hk with
  | 0, _ => List.mem_of_getElem? (i := 855) (by decide +kernel)
  | 1, _ => List.mem_of_getElem? (i := 857) (by decide +kernel)
  | 2, _ => List.mem_of_getElem? (i := 859) (by decide +kernel)
  | 3, _ => List.mem_of_getElem? (i := 861) (by decide +kernel)
  | 4, _ => List.mem_of_getElem? (i := 863) (by decide +kernel)
  | 5, _ => List.mem_of_getElem? (i := 865) (by decide +kernel)
  | 6, _ => List.mem_of_getElem? (i := 867) (by decide +kernel)
  | 7, _ => List.mem_of_getElem? (i := 869) (by decide +kernel)
  | 8, _ => List.mem_of_getElem? (i := 871) (by decide +kernel)
  | 9, _ => List.mem_of_getElem? (i := 873) (by decide +kernel)
  | 10, _ => List.mem_of_getElem? (i := 875) (by decide +kernel)
  | 11, _ => List.mem_of_getElem? (i := 877) (by decide +kernel)
  | 12, _ => List.mem_of_getElem? (i := 879) (by decide +kernel)
  | 13, _ => List.mem_of_getElem? (i := 881) (by decide +kernel)
  | 14, _ => List.mem_of_getElem? (i := 883) (by decide +kernel)
  | 15, _ => List.mem_of_getElem? (i := 885) (by decide +kernel)
  | 16, _ => List.mem_of_getElem? (i := 887) (by decide +kernel)
  | 17, _ => List.mem_of_getElem? (i := 889) (by decide +kernel)
  | 18, _ => List.mem_of_getElem? (i := 891) (by decide +kernel)
  | 19, _ => List.mem_of_getElem? (i := 893) (by decide +kernel)
  | 20, _ => List.mem_of_getElem? (i := 895) (by decide +kernel)
  | 21, _ => List.mem_of_getElem? (i := 897) (by decide +kernel)
  | 22, _ => List.mem_of_getElem? (i := 899) (by decide +kernel)
  | 23, _ => List.mem_of_getElem? (i := 901) (by decide +kernel)
  | 24, _ => List.mem_of_getElem? (i := 903) (by decide +kernel)
  | 25, _ => List.mem_of_getElem? (i := 905) (by decide +kernel)
  | 26, _ => List.mem_of_getElem? (i := 907) (by decide +kernel)
  | 27, _ => List.mem_of_getElem? (i := 909) (by decide +kernel)
  | 28, _ => List.mem_of_getElem? (i := 911) (by decide +kernel)
  | 29, _ => List.mem_of_getElem? (i := 913) (by decide +kernel)
  | 30, _ => List.mem_of_getElem? (i := 915) (by decide +kernel)
  | 31, _ => List.mem_of_getElem? (i := 917) (by decide +kernel)
  | 32, _ => List.mem_of_getElem? (i := 919) (by decide +kernel)
  | 33, _ => List.mem_of_getElem? (i := 921) (by decide +kernel)
  | 34, _ => List.mem_of_getElem? (i := 923) (by decide +kernel)
  | 35, _ => List.mem_of_getElem? (i := 925) (by decide +kernel)
  | 36, _ => List.mem_of_getElem? (i := 927) (by decide +kernel)
  | k + 37, h => absurd h (by omega)
theorem layg8 : ∀ k, k < 37 → goodWord (u_lay RX8 TX8 k) = true := by decide +kernel
theorem inX0 : ∀ w ∈ u_ws RX0 TX0 3, w ∈ TB := by
  intro w hw
  refine List.mem_filter.mpr ?_
  obtain ⟨k, hk, rfl⟩ := List.mem_map.mp hw
  have hk := List.mem_range.mp hk
  exact ⟨lay0 k hk, layg0 k hk⟩
theorem inX1 : ∀ w ∈ u_ws RX1 TX1 7, w ∈ TB := by
  intro w hw
  refine List.mem_filter.mpr ?_
  obtain ⟨k, hk, rfl⟩ := List.mem_map.mp hw
  have hk := List.mem_range.mp hk
  exact ⟨lay1 k hk, layg1 k hk⟩
theorem inX2 : ∀ w ∈ u_ws RX2 TX2 5, w ∈ TB := by
  intro w hw
  refine List.mem_filter.mpr ?_
  obtain ⟨k, hk, rfl⟩ := List.mem_map.mp hw
  have hk := List.mem_range.mp hk
  exact ⟨lay2 k hk, layg2 k hk⟩
theorem inX3 : ∀ w ∈ u_ws RX3 TX3 3, w ∈ TB := by
  intro w hw
  refine List.mem_filter.mpr ?_
  obtain ⟨k, hk, rfl⟩ := List.mem_map.mp hw
  have hk := List.mem_range.mp hk
  exact ⟨lay3 k hk, layg3 k hk⟩
theorem inX4 : ∀ w ∈ u_ws RX4 TX4 17, w ∈ TB := by
  intro w hw
  refine List.mem_filter.mpr ?_
  obtain ⟨k, hk, rfl⟩ := List.mem_map.mp hw
  have hk := List.mem_range.mp hk
  exact ⟨lay4 k hk, layg4 k hk⟩
theorem inX5 : ∀ w ∈ u_ws RX5 TX5 3, w ∈ TB := by
  intro w hw
  refine List.mem_filter.mpr ?_
  obtain ⟨k, hk, rfl⟩ := List.mem_map.mp hw
  have hk := List.mem_range.mp hk
  exact ⟨lay5 k hk, layg5 k hk⟩
theorem inX6 : ∀ w ∈ u_ws RX6 TX6 4, w ∈ TB := by
  intro w hw
  refine List.mem_filter.mpr ?_
  obtain ⟨k, hk, rfl⟩ := List.mem_map.mp hw
  have hk := List.mem_range.mp hk
  exact ⟨lay6 k hk, layg6 k hk⟩
theorem inX7 : ∀ w ∈ u_ws RX7 TX7 13, w ∈ TB := by
  intro w hw
  refine List.mem_filter.mpr ?_
  obtain ⟨k, hk, rfl⟩ := List.mem_map.mp hw
  have hk := List.mem_range.mp hk
  exact ⟨lay7 k hk, layg7 k hk⟩
theorem inX8 : ∀ w ∈ u_ws RX8 TX8 37, w ∈ TB := by
  intro w hw
  refine List.mem_filter.mpr ?_
  obtain ⟨k, hk, rfl⟩ := List.mem_map.mp hw
  have hk := List.mem_range.mp hk
  exact ⟨lay8 k hk, layg8 k hk⟩
end
section
/-! THE JUDGEMENT G and its rows: one a kind of instruction. -/
def wl (sp : Bool) (w : WC) (z : Sg) : va_W := (List.range (NN sp)).map (fun t => (w.2.1 t, entK w z t (kd sp t)))
theorem wl_at {sp : Bool} {w : WC} {z : Sg} {t : Nat} {K : Kd} (h : kd sp t = K) (hK : K.1 ≠ 9) : (wl sp w z)[t]? = some (w.2.1 t, entK w z t K) := by
  have hlt : t < NN sp := kd_lt (by rw [h]; exact hK)
  unfold wl
  rw [List.getElem?_map, List.getElem?_range hlt, ← h]
  rfl
theorem wl_set {sp : Bool} {w : WC} {z z' : Sg} {t : Nat} {E : va_E} (hE : entK w z' t (kd sp t) = E) (ho : ∀ j, j ≠ t → z'.1 j = z.1 j ∧ z'.2 j = z.2 j) : (wl sp w z).set t (w.2.1 t, E) = wl sp w z' := by
  apply List.ext_getElem?
  intro j
  rw [List.getElem?_set]
  by_cases hj : t = j
  · subst hj
    rw [if_pos rfl]
    by_cases hl : t < NN sp
    · have h1 : t < (wl sp w z).length := by simp [wl, hl]
      rw [if_pos h1]
      unfold wl
      rw [List.getElem?_map, List.getElem?_range hl, ← hE]
      rfl
    · have h1 : ¬ t < (wl sp w z).length := by simp [wl, hl]
      rw [if_neg h1]
      unfold wl
      rw [List.getElem?_eq_none (by simp; omega)]
  · rw [if_neg hj]
    unfold wl
    by_cases hl : j < NN sp
    · rw [List.getElem?_map, List.getElem?_map, List.getElem?_range hl]
      obtain ⟨h1, h2⟩ := ho j (fun q => hj q.symm)
      show some (_, entK w z j (kd sp j)) = some (_, entK w z' j (kd sp j))
      rw [entK_congr w z z' j _ h1 h2]
    · rw [List.getElem?_eq_none (by simp; omega), List.getElem?_eq_none (by simp; omega)]
def AW (sp : Bool) (w : WC) : Nat → Prop := fun q => ∃ t, t < NN sp ∧ q = w.2.1 t
def InjW (sp : Bool) (w : WC) : Prop := ∀ i j, i < NN sp → j < NN sp → w.2.1 i = w.2.1 j → i = j
def tysW (w : WC) : List (ClassId × FieldType) := [(w.2.2.1, .int), (w.2.2.2.1, .boolean), (w.2.2.2.2.1, .long), (w.2.2.2.2.2, .object "FoundVirtues$Sheet")]
theorem wl_D {sp : Bool} {w : WC} (h : InjW sp w) (z : Sg) : va_D (AW sp w) (wl sp w z) := by
  have key : ∀ (k : Nat) (q : Nat × va_E), (wl sp w z)[k]? = some q → k < NN sp ∧ q.1 = w.2.1 k := by
    intro k q hk
    unfold wl at hk
    rw [List.getElem?_map] at hk
    by_cases hl : k < NN sp
    · rw [List.getElem?_range hl] at hk
      cases hk
      exact ⟨hl, rfl⟩
    · rw [List.getElem?_eq_none (by simp; omega)] at hk
      cases hk
  refine ⟨fun i j p q hi hj hpq => ?_, fun k q hk => ⟨k, key k q hk⟩⟩
  obtain ⟨h1, h2⟩ := key i p hi
  obtain ⟨h3, h4⟩ := key j q hj
  exact h i j h1 h3 (by rw [← h2, ← h4, hpq])
/-- the world's tables at a state -/
def KS (sp : Bool) (w : WC) (U : State) : Prop := va_K w.1 vwCl (tysW w) U ∧ InjW sp w ∧ ∀ q ∈ nestW, va_Nw q U
/-- the world at a state -/
def WS (sp : Bool) (w : WC) (z : Sg) (U : State) : Prop := va_P w.1 vwCl (wl sp w z) U.heap ∧ KS sp w U
theorem KS.call {sp : Bool} {w : WC} {U : State} {g : JFrame} {mk : MethodId} {a : Array Value} (h : KS sp w U) : KS sp w (U.calling g mk a) :=
  ⟨va_K.moved (u := U) (U := U.calling g mk a) (Vm.Alike.refl U.vm) h.1, h.2.1, fun q hq => va_tabs (u := U) (by
    revert q; unfold nestW; simp only [List.forall_mem_cons]; exact ⟨rfl, rfl, rfl, rfl, rfl, rfl, rfl, rfl, rfl, rfl, rfl, fun _ h => by cases h⟩) rfl (h.2.2 q hq)⟩
theorem KS.warm {sp : Bool} {w : WC} {s U : State} (hW : s.WarmedH U.vm) (h : KS sp w s) : KS sp w U := by
  refine ⟨va_K.moved hW.alike h.1, h.2.1, ?_⟩
  have h3 := h.2.2
  revert h3
  unfold nestW
  simp only [List.forall_mem_cons]
  rintro ⟨h1, h2, h3, h4, h5, h6, h7, h8, h9, h10, h11, -⟩
  refine ⟨?_, ?_, ?_, ?_, ?_, ?_, ?_, ?_, ?_, ?_, ?_, fun _ h => by cases h⟩ <;> first | exact va_Nw.warmF hW (by assumption) | exact va_Nw.warmM hW (by assumption)
-- values of the world: a reference is a cell's number
def tv (ad : Nat → Nat) (v : Value) : Value := match v with
  | .ref t => .ref (ad t)
  | x => x
theorem tv_cat (ad : Nat → Nat) (v : Value) : (tv ad v).category = v.category := by cases v <;> rfl
def nthO : List (Option Value) → Nat → Option Value
  | [], _ => none
  | a :: _, 0 => a
  | _ :: l, n + 1 => nthO l n
def kilL (a : Option Value) : Option Value := match a with
  | some (.long _) => none
  | some (.double _) => none
  | x => x
def setL : List (Option Value) → Nat → Value → List (Option Value)
  | [], _, _ => []
  | _ :: l, 0, v => some v :: l
  | a :: l, 1, v => kilL a :: setL l 0 v
  | a :: l, n + 2, v => a :: setL l (n + 1) v
def nonL : List (Option Value) → List (Option Value)
  | [] => []
  | _ :: l => none :: l
def setJ : List (Option Value) → Nat → Value → List (Option Value)
  | [], _, _ => []
  | _ :: l, 0, v => some v :: nonL l
  | a :: l, 1, v => kilL a :: setJ l 0 v
  | a :: l, n + 2, v => a :: setJ l (n + 1) v
def asc (ad : Nat → Nat) : Nat → List (Option Value) → List (Nat × Value)
  | _, [] => []
  | k, none :: l => asc ad (k + 1) l
  | k, some v :: l => (k, tv ad v) :: asc ad (k + 1) l
theorem asc_of (ad : Nat → Nat) : ∀ (l : List (Option Value)) (k : Nat) (q : Nat × Value), q ∈ asc ad k l → ∃ i v, nthO l i = some v ∧ q = (k + i, tv ad v)
  | [], _, q, h => by cases h
  | none :: l, k, q, h => by
    obtain ⟨i, v, h1, h2⟩ := asc_of ad l (k + 1) q h
    exact ⟨i + 1, v, h1, by rw [h2]; congr 1; omega⟩
  | some w :: l, k, q, h => by
    rcases List.mem_cons.mp h with h | h
    · exact ⟨0, w, rfl, h⟩
    · obtain ⟨i, v, h1, h2⟩ := asc_of ad l (k + 1) q h
      exact ⟨i + 1, v, h1, by rw [h2]; congr 1; omega⟩
theorem asc_in (ad : Nat → Nat) : ∀ (l : List (Option Value)) (k i : Nat) (v : Value), nthO l i = some v → (k + i, tv ad v) ∈ asc ad k l
  | [], _, i, v, h => by cases h
  | none :: l, k, 0, v, h => by cases h
  | none :: l, k, i + 1, v, h => by
    have := asc_in ad l (k + 1) i v h
    rw [show k + (i + 1) = k + 1 + i by omega]
    exact this
  | some w :: l, k, 0, v, h => by
    cases h
    exact List.mem_cons_self
  | some w :: l, k, i + 1, v, h => by
    have := asc_in ad l (k + 1) i v h
    rw [show k + (i + 1) = k + 1 + i by omega]
    exact List.mem_cons_of_mem _ this
theorem kilL_of {a : Option Value} {v : Value} (h : kilL a = some v) : a = some v ∧ ¬ v.category = 2 := by
  cases a with
  | none => cases h
  | some b => cases b <;> first | (cases h; done) | (cases h; exact ⟨rfl, by simp [Value.category]⟩)
theorem setL_of : ∀ (l : List (Option Value)) (i : Nat) (x : Value) (j : Nat) (v : Value), nthO (setL l i x) j = some v → (j = i ∧ v = x) ∨ (j ≠ i ∧ nthO l j = some v ∧ ¬ (j + 1 = i ∧ v.category = 2))
  | [], _, _, j, v, h => by cases h
  | a :: l, 0, x, 0, v, h => by cases h; exact Or.inl ⟨rfl, rfl⟩
  | a :: l, 0, x, j + 1, v, h => Or.inr ⟨by omega, h, by omega⟩
  | a :: l, 1, x, 0, v, h => by
    obtain ⟨h1, h2⟩ := kilL_of h
    exact Or.inr ⟨by omega, h1, fun q => h2 q.2⟩
  | a :: l, 1, x, j + 1, v, h => by
    rcases setL_of l 0 x j v h with ⟨h1, h2⟩ | ⟨h1, h2, h3⟩
    · exact Or.inl ⟨by omega, h2⟩
    · exact Or.inr ⟨by omega, h2, by omega⟩
  | a :: l, n + 2, x, 0, v, h => Or.inr ⟨by omega, h, by omega⟩
  | a :: l, n + 2, x, j + 1, v, h => by
    rcases setL_of l (n + 1) x j v h with ⟨h1, h2⟩ | ⟨h1, h2, h3⟩
    · exact Or.inl ⟨by omega, h2⟩
    · exact Or.inr ⟨by omega, h2, fun q => h3 ⟨by omega, q.2⟩⟩
theorem setJ_of : ∀ (l : List (Option Value)) (i : Nat) (x : Value) (j : Nat) (v : Value), nthO (setJ l i x) j = some v → (j = i ∧ v = x) ∨ (j ≠ i ∧ j ≠ i + 1 ∧ nthO l j = some v ∧ ¬ (j + 1 = i ∧ v.category = 2))
  | [], _, _, j, v, h => by cases h
  | a :: l, 0, x, 0, v, h => by cases h; exact Or.inl ⟨rfl, rfl⟩
  | [a], 0, x, j + 1, v, h => by cases h
  | a :: b :: l, 0, x, 1, v, h => by cases h
  | a :: b :: l, 0, x, j + 2, v, h => Or.inr ⟨by omega, by omega, h, by omega⟩
  | a :: l, 1, x, 0, v, h => by
    obtain ⟨h1, h2⟩ := kilL_of h
    exact Or.inr ⟨by omega, by omega, h1, fun q => h2 q.2⟩
  | a :: l, 1, x, j + 1, v, h => by
    rcases setJ_of l 0 x j v h with ⟨h1, h2⟩ | ⟨h1, h0, h2, h3⟩
    · exact Or.inl ⟨by omega, h2⟩
    · exact Or.inr ⟨by omega, by omega, h2, by omega⟩
  | a :: l, n + 2, x, 0, v, h => Or.inr ⟨by omega, by omega, h, by omega⟩
  | a :: l, n + 2, x, j + 1, v, h => by
    rcases setJ_of l (n + 1) x j v h with ⟨h1, h2⟩ | ⟨h1, h0, h2, h3⟩
    · exact Or.inl ⟨by omega, h2⟩
    · exact Or.inr ⟨by omega, by omega, h2, fun q => h3 ⟨by omega, q.2⟩⟩
theorem lvR_at {ad : Nat → Nat} {ls : Array Slot} {nL : Nat} {lv : List (Option Value)} (h : lv_has ls nL (asc ad 0 lv)) {i : Nat} {v : Value} (hi : nthO lv i = some v) : ls[i]? = some (.val (tv ad v)) := by
  have := h.2.2 _ (asc_in ad lv 0 i v hi)
  simpa using this
theorem lvR_set {ad : Nat → Nat} {ls : Array Slot} {nL i : Nat} {lv lv' : List (Option Value)} {v : Value} (h : lv_has ls nL ((i, tv ad v) :: (asc ad 0 lv).filter (fun q => !(q.1 == i) && !(q.1 + 1 == i && q.2.category == 2)))) (e : setL lv i v = lv') : lv_has ls nL (asc ad 0 lv') := by
  refine ⟨h.1, h.2.1, fun q hq => h.2.2 q ?_⟩
  obtain ⟨j, x, h1, h2⟩ := asc_of ad lv' 0 q hq
  rw [← e] at h1
  rcases setL_of lv i v j x h1 with ⟨h3, h4⟩ | ⟨h3, h4, h5⟩
  · subst h3; subst h4
    rw [h2]
    simp
  · refine List.mem_cons_of_mem _ (List.mem_filter.mpr ⟨by rw [h2]; exact asc_in ad lv 0 j x h4, ?_⟩)
    rw [h2]
    simp only [Nat.zero_add, tv_cat]
    by_cases h6 : j + 1 = i
    · have : ¬ x.category = 2 := fun q => h5 ⟨h6, q⟩
      simp [h3, this]
    · simp [h3, h6]
theorem lvR_setJ {ad : Nat → Nat} {ls : Array Slot} {nL i : Nat} {lv lv' : List (Option Value)} {v : Value} (h : lv_has ls nL ((i, tv ad v) :: (asc ad 0 lv).filter (fun q => !(q.1 == i) && (!(q.1 == i + 1) && !(q.1 + 1 == i && q.2.category == 2))))) (e : setJ lv i v = lv') : lv_has ls nL (asc ad 0 lv') := by
  refine ⟨h.1, h.2.1, fun q hq => h.2.2 q ?_⟩
  obtain ⟨j, x, h1, h2⟩ := asc_of ad lv' 0 q hq
  rw [← e] at h1
  rcases setJ_of lv i v j x h1 with ⟨h3, h4⟩ | ⟨h3, h0, h4, h5⟩
  · subst h3; subst h4
    rw [h2]
    simp
  · refine List.mem_cons_of_mem _ (List.mem_filter.mpr ⟨by rw [h2]; exact asc_in ad lv 0 j x h4, ?_⟩)
    rw [h2]
    simp only [Nat.zero_add, tv_cat]
    by_cases h6 : j + 1 = i
    · have : ¬ x.category = 2 := fun q => h5 ⟨h6, q⟩
      simp [h3, h0, this]
    · simp [h3, h0, h6]
def maskL : List Bool → List (Option Value) → List (Option Value)
  | true :: b, a :: l => a :: maskL b l
  | false :: b, _ :: l => none :: maskL b l
  | _, _ => []
theorem maskL_of : ∀ (b : List Bool) (l : List (Option Value)) (i : Nat) (v : Value), nthO (maskL b l) i = some v → nthO l i = some v
  | [], _, _, _, h => by simp [maskL, nthO] at h
  | true :: b, [], _, _, h => by simp [maskL, nthO] at h
  | false :: b, [], _, _, h => by simp [maskL, nthO] at h
  | true :: b, a :: l, 0, v, h => h
  | true :: b, a :: l, i + 1, v, h => maskL_of b l i v h
  | false :: b, a :: l, 0, v, h => by cases h
  | false :: b, a :: l, i + 1, v, h => maskL_of b l i v h
theorem lvR_mask {ad : Nat → Nat} {ls : Array Slot} {nL : Nat} {lv lv' : List (Option Value)} (b : List Bool) (h : lv_has ls nL (asc ad 0 lv)) (e : maskL b lv = lv') : lv_has ls nL (asc ad 0 lv') := by
  refine ⟨h.1, h.2.1, fun q hq => h.2.2 q ?_⟩
  obtain ⟨j, x, h1, h2⟩ := asc_of ad lv' 0 q hq
  rw [← e] at h1
  rw [h2]
  exact asc_in ad lv 0 j x (maskL_of b lv j x h1)
/-- a method: its class, name, code, locals, answer, depth of calls -/
abbrev MI : Type := String × MethodName × ByteArray × Nat × Option FieldType × Nat
/-- where the machine is -/
abbrev MC : Type := (Program × Launch × Env × State) × (MethodId × Array Value × List Frame × Method × Code) × WC
def rmv (d : Nat) : Room := { frames := d, cells := 0, slots := 0, locals := 38 * d }
def QZ (sp : Bool) (w : WC) (Z : Option Value × Sg) : Array Value → State → Outcome → State → Prop := fun _ st oc t => oc = .returned (Z.1.map (tv w.2.1)) ∧ WS sp w Z.2 t ∧ va_F (AW sp w) st t
def OK (sp : Bool) (Y : MI) (M : MC) : Prop :=
  M.1.1.tables.exec = Jvm.exec ∧ M.2.1.2.2.2.2.code = Y.2.2.1 ∧ M.2.1.2.2.2.2.maxLocals = Y.2.2.2.1 ∧ M.1.2.2.2.vm.findClass Y.1 = some M.2.1.1.cls ∧ (∀ q ∈ TB, q.before M.2.1.2.1 M.1.2.2.2 = true) ∧ M.2.1.2.2.2.1.sig.returnType = Y.2.2.2.2.1 ∧ M.2.1.2.2.2.1.locks = false ∧ KS sp M.2.2 M.1.2.2.2
def G (sp : Bool) (Y : MI) (M : MC) (Z : Option Value × Sg) (pc : Nat) (lv : List (Option Value)) (st : List Value) (z : Sg) : Prop :=
  ∀ (H : Heap) (locs : List Loc) (ls : Array Slot), va_P M.2.2.1 vwCl (wl sp M.2.2 z) H → va_S (AW sp M.2.2) M.1.2.2.2.heap H locs → lv_has ls Y.2.2.2.1 (asc M.2.2.2.1 0 lv) →
    W M.1.1 M.1.2.1 M.1.2.2.1 (rmv Y.2.2.2.2.2) M.1.2.2.2 M.2.1.1 M.2.1.2.1 M.2.1.2.2.1 M.2.1.2.2.2.1 M.2.1.2.2.2.2 H locs 0 0 (MQ M.2.1.2.2.1 (QZ sp M.2.2 Z) M.2.1.2.1 M.1.2.2.2 0 0 (AW sp M.2.2)) (F0 M.2.1.1 pc ls (st.map (tv M.2.2.2.1)))
/-- a method's contract -/
def CT (sp : Bool) (l : Launch) (Y : MI) (w : WC) (av : List Value) (z : Sg) (r : Option Value) (z' : Sg) : Prop :=
  Met l Y.2.1 (.code Y.2.1 Y.2.2.1 Y.2.2.2.1 Y.2.2.2.2.1 :: TB) (rmv Y.2.2.2.2.2) (va_Pc (av.map (tv w.2.1)) (WS sp w z)) (QZ sp w (r, z')) 0 0 (AW sp w)
/-- the locals at the entry -/
def entL : List Value → List (Option Value)
  | [] => []
  | .long x :: l => some (.long x) :: none :: entL l
  | .double x :: l => some (.double x) :: none :: entL l
  | v :: l => some v :: entL l
theorem entL_ok (ad : Nat → Nat) : ∀ (av : List Value) (k : Nat), asc ad k (entL av) = lv_args k (av.map (tv ad))
  | [], _ => rfl
  | v :: l, k => by
    cases v <;> simp [entL, asc, lv_args, tv, Value.category, entL_ok ad l, Nat.add_assoc]
def padL (lv : List (Option Value)) : Nat → List (Option Value)
  | 0 => lv
  | n + 1 => padL (lv ++ [none]) n
theorem asc_app (ad : Nat → Nat) : ∀ (l : List (Option Value)) (k : Nat), asc ad k (l ++ [none]) = asc ad k l
  | [], _ => rfl
  | none :: l, k => by simp [asc, asc_app ad l]
  | some v :: l, k => by simp [asc, asc_app ad l]
theorem asc_pad (ad : Nat → Nat) (k : Nat) : ∀ (n : Nat) (l : List (Option Value)), asc ad k (padL l n) = asc ad k l
  | 0, _ => rfl
  | n + 1, l => by rw [padL, asc_pad ad k n, asc_app]
theorem lg_sl_len (ad : Nat → Nat) (av : List Value) : (lg_sl (av.map (tv ad))).length = (lg_sl av).length := by
  induction av with
  | nil => rfl
  | cons v l ih => cases v <;> simp_all [lg_sl, tv, Value.category]
theorem ct_of {sp : Bool} {l : Launch} {Y : MI} {w : WC} {av : List Value} {z : Sg} {r : Option Value} {z' : Sg} (n : Nat) {lv : List (Option Value)} (hn : plainName Y.2.1.cls = true) (ho : Y.1 = Y.2.1.cls) (hl : (lg_sl av).length ≤ Y.2.2.2.1) (he : padL (entL av) n = lv)
    (body : ∀ M : MC, M.1.2.1 = l → M.2.2 = w → OK sp Y M → G sp Y M (r, z') 0 lv [] z) : CT sp l Y w av z r z' := by
  refine Met.ofW (cc := Y.2.2.1) (maxL := Y.2.2.2.1) (ret := Y.2.2.2.2.1) hn rfl ?_
  intro p e s m args below meth c s₁ B hml hv
  obtain ⟨rfl, hP, hK⟩ := hv
  have hts := atoms_spec (ws := Cond.code Y.2.1 Y.2.2.1 Y.2.2.2.1 Y.2.2.2.2.1 :: TB) B.pre
  have hown : s.vm.findClass Y.1 = some m.cls := by rw [ho]; exact findClass_of_methodNamed B.named
  have h0 := lv_entry (av.map (tv w.2.1)) (n := Y.2.2.2.1) (by rw [lg_sl_len]; exact hl)
  rw [lg_entry_eq]
  rw [← entL_ok, ← asc_pad w.2.1 0 n, he] at h0
  exact body ((p, l, e, s), (m, (av.map (tv w.2.1)).toArray, below, meth, c), w) rfl rfl ⟨B.exec, B.bytes, hml, hown, fun q hq => hts q (List.mem_cons_of_mem _ hq), B.returns, B.notSynchronized, hK⟩ s.heap [] _ hP va_S.rf h0
end
section
/-! ROWS OF G. Printed by wip/whole/gen/mkrows.py. -/
section Rows
variable {sp : Bool} {Y : MI} {M : MC} {Z : Option Value × Sg} {pc : Nat} {lv : List (Option Value)} {st : List Value} {z : Sg}
theorem g_iconst (hE : OK sp Y M) {n : Int} (v : Int32) (hdg : decode Y.2.2.1 pc = .ok (.iconst n, 1)) (hv : Int32.ofInt n = v) (k : G sp Y M Z (pc + 1) lv (.int v :: st) z) : G sp Y M Z pc lv st z := fun H locs ls hP hS hl => lv_iconst hE.1 hE.2.1 hdg hv (k H locs ls hP hS hl)
theorem g_bipush (hE : OK sp Y M) {n : Int} (v : Int32) (hdg : decode Y.2.2.1 pc = .ok (.bipush n, 2)) (hv : (Int8.ofInt n).toInt32 = v) (k : G sp Y M Z (pc + 2) lv (.int v :: st) z) : G sp Y M Z pc lv st z := fun H locs ls hP hS hl => lv_bipush hE.1 hE.2.1 hdg hv (k H locs ls hP hS hl)
theorem g_sipush (hE : OK sp Y M) {n : Int} (v : Int32) (hdg : decode Y.2.2.1 pc = .ok (.sipush n, 3)) (hv : (Int16.ofInt n).toInt32 = v) (k : G sp Y M Z (pc + 3) lv (.int v :: st) z) : G sp Y M Z pc lv st z := fun H locs ls hP hS hl => lv_sipush hE.1 hE.2.1 hdg hv (k H locs ls hP hS hl)
theorem g_lconst (hE : OK sp Y M) {n : Fin 2} (v : Int64) (hdg : decode Y.2.2.1 pc = .ok (.lconst n, 1)) (hv : Int64.ofNat (n : Nat) = v) (k : G sp Y M Z (pc + 1) lv (.long v :: st) z) : G sp Y M Z pc lv st z := fun H locs ls hP hS hl => lv_lconst hE.1 hE.2.1 hdg hv (k H locs ls hP hS hl)
theorem g_ldc (hE : OK sp Y M) {i : Nat} {v : Int32} (hw : Cond.constant Y.1 i v ∈ TB) (hdg : decode Y.2.2.1 pc = .ok (.ldc i, 2)) (k : G sp Y M Z (pc + 2) lv (.int v :: st) z) : G sp Y M Z pc lv st z := fun H locs ls hP hS hl => lv_ldc hE.1 hE.2.1 hE.2.2.2.1 (hE.2.2.2.2.1 _ hw) hdg (k H locs ls hP hS hl)
theorem g_ldcw (hE : OK sp Y M) {i : Nat} {v : Int32} (hw : Cond.constant Y.1 i v ∈ TB) (hdg : decode Y.2.2.1 pc = .ok (.ldc_w i, 3)) (k : G sp Y M Z (pc + 3) lv (.int v :: st) z) : G sp Y M Z pc lv st z := fun H locs ls hP hS hl => lv_ldcw hE.1 hE.2.1 hE.2.2.2.1 (hE.2.2.2.2.1 _ hw) hdg (k H locs ls hP hS hl)
theorem g_ldc2 (hE : OK sp Y M) {i : Nat} {v : Int64} (hw : Cond.constantLong Y.1 i v ∈ TB) (hdg : decode Y.2.2.1 pc = .ok (.ldc2_w i, 3)) (k : G sp Y M Z (pc + 3) lv (.long v :: st) z) : G sp Y M Z pc lv st z := fun H locs ls hP hS hl => lv_ldc2 hE.1 hE.2.1 hE.2.2.2.1 (hE.2.2.2.2.1 _ hw) hdg (k H locs ls hP hS hl)
theorem g_iload_n (hE : OK sp Y M) {k : Fin 4} {x : Int32} (hdg : decode Y.2.2.1 pc = .ok (.iload_n k, 1)) (hi : nthO lv k = some (.int x)) (kk : G sp Y M Z (pc + 1) lv (.int x :: st) z) : G sp Y M Z pc lv st z := fun H locs ls hP hS hl => lv_iload_n hE.1 hE.2.1 hdg rfl (lvR_at hl hi) (kk H locs ls hP hS hl)
theorem g_iload (hE : OK sp Y M) {i : Nat} {x : Int32} (hdg : decode Y.2.2.1 pc = .ok (.iload i, 2)) (hi : nthO lv i = some (.int x)) (kk : G sp Y M Z (pc + 2) lv (.int x :: st) z) : G sp Y M Z pc lv st z := fun H locs ls hP hS hl => lv_iload hE.1 hE.2.1 hdg (lvR_at hl hi) (kk H locs ls hP hS hl)
theorem g_istore_n (lv' : List (Option Value)) (hE : OK sp Y M) {k : Fin 4} {x : Int32} (hdg : decode Y.2.2.1 pc = .ok (.istore_n k, 1)) (hn : (k : Nat) < Y.2.2.2.1) (e : setL lv k (.int x) = lv') (kk : G sp Y M Z (pc + 1) lv' st z) : G sp Y M Z pc lv (.int x :: st) z := fun H locs ls hP hS hl => lv_istore_n hE.1 hE.2.1 hdg rfl hl hn rfl (fun ls' hl' => kk H locs ls' hP hS (lvR_set (v := .int x) hl' e))
theorem g_istore (lv' : List (Option Value)) (hE : OK sp Y M) {i : Nat} {x : Int32} (hdg : decode Y.2.2.1 pc = .ok (.istore i, 2)) (hn : i < Y.2.2.2.1) (e : setL lv i (.int x) = lv') (kk : G sp Y M Z (pc + 2) lv' st z) : G sp Y M Z pc lv (.int x :: st) z := fun H locs ls hP hS hl => lv_istore hE.1 hE.2.1 hdg hl hn rfl (fun ls' hl' => kk H locs ls' hP hS (lvR_set (v := .int x) hl' e))
theorem g_lload_n (hE : OK sp Y M) {k : Fin 4} {x : Int64} (hdg : decode Y.2.2.1 pc = .ok (.lload_n k, 1)) (hi : nthO lv k = some (.long x)) (kk : G sp Y M Z (pc + 1) lv (.long x :: st) z) : G sp Y M Z pc lv st z := fun H locs ls hP hS hl => lv_lload_n hE.1 hE.2.1 hdg rfl (lvR_at hl hi) (kk H locs ls hP hS hl)
theorem g_lload (hE : OK sp Y M) {i : Nat} {x : Int64} (hdg : decode Y.2.2.1 pc = .ok (.lload i, 2)) (hi : nthO lv i = some (.long x)) (kk : G sp Y M Z (pc + 2) lv (.long x :: st) z) : G sp Y M Z pc lv st z := fun H locs ls hP hS hl => lv_lload hE.1 hE.2.1 hdg (lvR_at hl hi) (kk H locs ls hP hS hl)
theorem g_lstore_n (lv' : List (Option Value)) (hE : OK sp Y M) {k : Fin 4} {x : Int64} (hdg : decode Y.2.2.1 pc = .ok (.lstore_n k, 1)) (hn : (k : Nat) + 1 < Y.2.2.2.1) (e : setJ lv k (.long x) = lv') (kk : G sp Y M Z (pc + 1) lv' st z) : G sp Y M Z pc lv (.long x :: st) z := fun H locs ls hP hS hl => lv_lstore_n hE.1 hE.2.1 hdg rfl hl hn rfl (fun ls' hl' => kk H locs ls' hP hS (lvR_setJ (v := .long x) hl' e))
theorem g_lstore (lv' : List (Option Value)) (hE : OK sp Y M) {i : Nat} {x : Int64} (hdg : decode Y.2.2.1 pc = .ok (.lstore i, 2)) (hn : i + 1 < Y.2.2.2.1) (e : setJ lv i (.long x) = lv') (kk : G sp Y M Z (pc + 2) lv' st z) : G sp Y M Z pc lv (.long x :: st) z := fun H locs ls hP hS hl => lv_lstore hE.1 hE.2.1 hdg hl hn rfl (fun ls' hl' => kk H locs ls' hP hS (lvR_setJ (v := .long x) hl' e))
theorem g_aload_n (hE : OK sp Y M) {k : Fin 4} {x : Nat} (hdg : decode Y.2.2.1 pc = .ok (.aload_n k, 1)) (hi : nthO lv k = some (.ref x)) (kk : G sp Y M Z (pc + 1) lv (.ref x :: st) z) : G sp Y M Z pc lv st z := fun H locs ls hP hS hl => lv_aload_n hE.1 hE.2.1 hdg rfl (lvR_at hl hi) (kk H locs ls hP hS hl)
theorem g_aload (hE : OK sp Y M) {i : Nat} {x : Nat} (hdg : decode Y.2.2.1 pc = .ok (.aload i, 2)) (hi : nthO lv i = some (.ref x)) (kk : G sp Y M Z (pc + 2) lv (.ref x :: st) z) : G sp Y M Z pc lv st z := fun H locs ls hP hS hl => lv_aload hE.1 hE.2.1 hdg (lvR_at hl hi) (kk H locs ls hP hS hl)
theorem g_astore_n (lv' : List (Option Value)) (hE : OK sp Y M) {k : Fin 4} {x : Nat} (hdg : decode Y.2.2.1 pc = .ok (.astore_n k, 1)) (hn : (k : Nat) < Y.2.2.2.1) (e : setL lv k (.ref x) = lv') (kk : G sp Y M Z (pc + 1) lv' st z) : G sp Y M Z pc lv (.ref x :: st) z := fun H locs ls hP hS hl => lv_astore_n hE.1 hE.2.1 hdg rfl hl hn rfl (fun ls' hl' => kk H locs ls' hP hS (lvR_set (v := .ref x) hl' e))
theorem g_astore (lv' : List (Option Value)) (hE : OK sp Y M) {i : Nat} {x : Nat} (hdg : decode Y.2.2.1 pc = .ok (.astore i, 2)) (hn : i < Y.2.2.2.1) (e : setL lv i (.ref x) = lv') (kk : G sp Y M Z (pc + 2) lv' st z) : G sp Y M Z pc lv (.ref x :: st) z := fun H locs ls hP hS hl => lv_astore hE.1 hE.2.1 hdg hl hn rfl (fun ls' hl' => kk H locs ls' hP hS (lvR_set (v := .ref x) hl' e))
theorem lv_iincP {p : Program} {l : Launch} {e : Env} {R : Room} {s : State} {m : MethodId} {args : Array Value} {below : List Frame} {meth : Method} {c : Code} {H : Heap} {locs : List Loc} {cells slots : Nat} {Q : State → Prop} {cc : ByteArray} {ls : Array Slot} {rest : List Value} (hexec : p.tables.exec = Jvm.exec) (hb : c.code = cc) {i nL : Nat} {n : Int} {x v : Int32} {l1 : List (Nat × Value)} (hdg : decode cc pc = .ok (.iinc i n, 3)) (h : lv_has ls nL l1) (hm : (i, Value.int x) ∈ l1) (hv : x + Int32.ofInt n = v) (hn : i < nL)
    (kk : ∀ ls' : Array Slot, lv_has ls' nL ((i, Value.int v) :: l1.filter (fun q => !(q.1 == i) && !(q.1 + 1 == i && q.2.category == 2))) → W p l e R s m args below meth c H locs cells slots Q (F0 m (pc + 3) ls' rest)) : W p l e R s m args below meth c H locs cells slots Q (F0 m pc ls rest) := by
  obtain ⟨k, hk⟩ := List.getElem?_of_mem hm
  exact lv_iinc hexec hb hdg h hk hv hn rfl kk
theorem g_iinc (lv' : List (Option Value)) (hE : OK sp Y M) {i : Nat} {n : Int} {x : Int32} (v : Int32) (hdg : decode Y.2.2.1 pc = .ok (.iinc i n, 3)) (hi : nthO lv i = some (.int x)) (hv : x + Int32.ofInt n = v) (hn : i < Y.2.2.2.1) (e : setL lv i (.int v) = lv') (kk : G sp Y M Z (pc + 3) lv' st z) : G sp Y M Z pc lv st z := fun H locs ls hP hS hl => lv_iincP hE.1 hE.2.1 hdg hl (by have := asc_in M.2.2.2.1 lv 0 i _ hi; rw [Nat.zero_add] at this; exact this) hv hn (fun ls' hl' => kk H locs ls' hP hS (lvR_set (v := .int v) hl' e))
theorem g_iadd (hE : OK sp Y M) {x y : Int32} (hdg : decode Y.2.2.1 pc = .ok (.iadd, 1)) (k : G sp Y M Z (pc + 1) lv (.int (x + y) :: st) z) : G sp Y M Z pc lv (.int y :: .int x :: st) z := fun H locs ls hP hS hl => lv_iadd hE.1 hE.2.1 hdg (k H locs ls hP hS hl)
theorem g_isub (hE : OK sp Y M) {x y : Int32} (hdg : decode Y.2.2.1 pc = .ok (.isub, 1)) (k : G sp Y M Z (pc + 1) lv (.int (x - y) :: st) z) : G sp Y M Z pc lv (.int y :: .int x :: st) z := fun H locs ls hP hS hl => lv_isub hE.1 hE.2.1 hdg (k H locs ls hP hS hl)
theorem g_imul (hE : OK sp Y M) {x y : Int32} (hdg : decode Y.2.2.1 pc = .ok (.imul, 1)) (k : G sp Y M Z (pc + 1) lv (.int (x * y) :: st) z) : G sp Y M Z pc lv (.int y :: .int x :: st) z := fun H locs ls hP hS hl => lv_imul hE.1 hE.2.1 hdg (k H locs ls hP hS hl)
theorem g_iand (hE : OK sp Y M) {x y : Int32} (hdg : decode Y.2.2.1 pc = .ok (.iand, 1)) (k : G sp Y M Z (pc + 1) lv (.int (x &&& y) :: st) z) : G sp Y M Z pc lv (.int y :: .int x :: st) z := fun H locs ls hP hS hl => lv_iand hE.1 hE.2.1 hdg (k H locs ls hP hS hl)
theorem g_ior (hE : OK sp Y M) {x y : Int32} (hdg : decode Y.2.2.1 pc = .ok (.ior, 1)) (k : G sp Y M Z (pc + 1) lv (.int (x ||| y) :: st) z) : G sp Y M Z pc lv (.int y :: .int x :: st) z := fun H locs ls hP hS hl => lv_ior hE.1 hE.2.1 hdg (k H locs ls hP hS hl)
theorem g_ixor (hE : OK sp Y M) {x y : Int32} (hdg : decode Y.2.2.1 pc = .ok (.ixor, 1)) (k : G sp Y M Z (pc + 1) lv (.int (x ^^^ y) :: st) z) : G sp Y M Z pc lv (.int y :: .int x :: st) z := fun H locs ls hP hS hl => lv_ixor hE.1 hE.2.1 hdg (k H locs ls hP hS hl)
theorem g_ishl (hE : OK sp Y M) {x y : Int32} (hdg : decode Y.2.2.1 pc = .ok (.ishl, 1)) (k : G sp Y M Z (pc + 1) lv (.int (x <<< (y &&& 31)) :: st) z) : G sp Y M Z pc lv (.int y :: .int x :: st) z := fun H locs ls hP hS hl => lv_ishl hE.1 hE.2.1 hdg (k H locs ls hP hS hl)
theorem g_ishr (hE : OK sp Y M) {x y : Int32} (hdg : decode Y.2.2.1 pc = .ok (.ishr, 1)) (k : G sp Y M Z (pc + 1) lv (.int (x >>> (y &&& 31)) :: st) z) : G sp Y M Z pc lv (.int y :: .int x :: st) z := fun H locs ls hP hS hl => lv_ishr hE.1 hE.2.1 hdg (k H locs ls hP hS hl)
theorem g_iushr (hE : OK sp Y M) {x y : Int32} (hdg : decode Y.2.2.1 pc = .ok (.iushr, 1)) (k : G sp Y M Z (pc + 1) lv (.int ((x.toUInt32 >>> (y.toUInt32 &&& Int32.toUInt32 31)).toInt32) :: st) z) : G sp Y M Z pc lv (.int y :: .int x :: st) z := fun H locs ls hP hS hl => lv_iushr hE.1 hE.2.1 hdg rfl (k H locs ls hP hS hl)
theorem g_idiv (hE : OK sp Y M) {x y : Int32} (hdg : decode Y.2.2.1 pc = .ok (.idiv, 1)) (hne : ¬ y = 0) (k : G sp Y M Z (pc + 1) lv (.int (x / y) :: st) z) : G sp Y M Z pc lv (.int y :: .int x :: st) z := fun H locs ls hP hS hl => lv_idiv hE.1 hE.2.1 hdg hne (k H locs ls hP hS hl)
theorem g_irem (hE : OK sp Y M) {x y : Int32} (hdg : decode Y.2.2.1 pc = .ok (.irem, 1)) (hne : ¬ y = 0) (k : G sp Y M Z (pc + 1) lv (.int (x - x / y * y) :: st) z) : G sp Y M Z pc lv (.int y :: .int x :: st) z := fun H locs ls hP hS hl => lv_irem hE.1 hE.2.1 hdg hne (k H locs ls hP hS hl)
theorem g_ladd (hE : OK sp Y M) {x y : Int64} (hdg : decode Y.2.2.1 pc = .ok (.ladd, 1)) (k : G sp Y M Z (pc + 1) lv (.long (x + y) :: st) z) : G sp Y M Z pc lv (.long y :: .long x :: st) z := fun H locs ls hP hS hl => lv_ladd hE.1 hE.2.1 hdg (k H locs ls hP hS hl)
theorem g_lsub (hE : OK sp Y M) {x y : Int64} (hdg : decode Y.2.2.1 pc = .ok (.lsub, 1)) (k : G sp Y M Z (pc + 1) lv (.long (x - y) :: st) z) : G sp Y M Z pc lv (.long y :: .long x :: st) z := fun H locs ls hP hS hl => lv_lsub hE.1 hE.2.1 hdg (k H locs ls hP hS hl)
theorem g_lmul (hE : OK sp Y M) {x y : Int64} (hdg : decode Y.2.2.1 pc = .ok (.lmul, 1)) (k : G sp Y M Z (pc + 1) lv (.long (x * y) :: st) z) : G sp Y M Z pc lv (.long y :: .long x :: st) z := fun H locs ls hP hS hl => lv_lmul hE.1 hE.2.1 hdg (k H locs ls hP hS hl)
theorem g_land (hE : OK sp Y M) {x y : Int64} (hdg : decode Y.2.2.1 pc = .ok (.land, 1)) (k : G sp Y M Z (pc + 1) lv (.long (x &&& y) :: st) z) : G sp Y M Z pc lv (.long y :: .long x :: st) z := fun H locs ls hP hS hl => lv_land hE.1 hE.2.1 hdg (k H locs ls hP hS hl)
theorem g_lor (hE : OK sp Y M) {x y : Int64} (hdg : decode Y.2.2.1 pc = .ok (.lor, 1)) (k : G sp Y M Z (pc + 1) lv (.long (x ||| y) :: st) z) : G sp Y M Z pc lv (.long y :: .long x :: st) z := fun H locs ls hP hS hl => lv_lor hE.1 hE.2.1 hdg (k H locs ls hP hS hl)
theorem g_lxor (hE : OK sp Y M) {x y : Int64} (hdg : decode Y.2.2.1 pc = .ok (.lxor, 1)) (k : G sp Y M Z (pc + 1) lv (.long (x ^^^ y) :: st) z) : G sp Y M Z pc lv (.long y :: .long x :: st) z := fun H locs ls hP hS hl => lv_lxor hE.1 hE.2.1 hdg (k H locs ls hP hS hl)
theorem g_ldiv (hE : OK sp Y M) {x y : Int64} (hdg : decode Y.2.2.1 pc = .ok (.ldiv, 1)) (hne : ¬ y = 0) (k : G sp Y M Z (pc + 1) lv (.long (x / y) :: st) z) : G sp Y M Z pc lv (.long y :: .long x :: st) z := fun H locs ls hP hS hl => lv_ldiv hE.1 hE.2.1 hdg hne (k H locs ls hP hS hl)
theorem g_lrem (hE : OK sp Y M) {x y : Int64} (hdg : decode Y.2.2.1 pc = .ok (.lrem, 1)) (hne : ¬ y = 0) (k : G sp Y M Z (pc + 1) lv (.long (x - x / y * y) :: st) z) : G sp Y M Z pc lv (.long y :: .long x :: st) z := fun H locs ls hP hS hl => lv_lrem hE.1 hE.2.1 hdg hne (k H locs ls hP hS hl)
theorem g_lshl (hE : OK sp Y M) {x : Int64} {y : Int32} (hdg : decode Y.2.2.1 pc = .ok (.lshl, 1)) (k : G sp Y M Z (pc + 1) lv (.long (x <<< (y.toInt64 &&& 63)) :: st) z) : G sp Y M Z pc lv (.int y :: .long x :: st) z := fun H locs ls hP hS hl => lv_lshl hE.1 hE.2.1 hdg rfl (k H locs ls hP hS hl)
theorem g_lshr (hE : OK sp Y M) {x : Int64} {y : Int32} (hdg : decode Y.2.2.1 pc = .ok (.lshr, 1)) (k : G sp Y M Z (pc + 1) lv (.long (x >>> (y.toInt64 &&& 63)) :: st) z) : G sp Y M Z pc lv (.int y :: .long x :: st) z := fun H locs ls hP hS hl => lv_lshr hE.1 hE.2.1 hdg rfl (k H locs ls hP hS hl)
theorem g_lcmp (hE : OK sp Y M) {x y : Int64} (hdg : decode Y.2.2.1 pc = .ok (.lcmp, 1)) (k : G sp Y M Z (pc + 1) lv (.int (lg_cmp x y) :: st) z) : G sp Y M Z pc lv (.long y :: .long x :: st) z := fun H locs ls hP hS hl => W.lcmp hE.1 hE.2.1 hdg (k H locs ls hP hS hl)
theorem g_i2l (hE : OK sp Y M) {x : Int32} (hdg : decode Y.2.2.1 pc = .ok (.i2l, 1)) (k : G sp Y M Z (pc + 1) lv (.long x.toInt64 :: st) z) : G sp Y M Z pc lv (.int x :: st) z := fun H locs ls hP hS hl => lv_i2l hE.1 hE.2.1 hdg rfl (k H locs ls hP hS hl)
theorem g_l2i (hE : OK sp Y M) {x : Int64} (hdg : decode Y.2.2.1 pc = .ok (.l2i, 1)) (k : G sp Y M Z (pc + 1) lv (.int x.toInt32 :: st) z) : G sp Y M Z pc lv (.long x :: st) z := fun H locs ls hP hS hl => lv_l2i hE.1 hE.2.1 hdg rfl (k H locs ls hP hS hl)
theorem g_i2b (hE : OK sp Y M) {x : Int32} (hdg : decode Y.2.2.1 pc = .ok (.i2b, 1)) (k : G sp Y M Z (pc + 1) lv (.int x.toInt8.toInt32 :: st) z) : G sp Y M Z pc lv (.int x :: st) z := fun H locs ls hP hS hl => lv_i2b hE.1 hE.2.1 hdg rfl (k H locs ls hP hS hl)
theorem g_i2s (hE : OK sp Y M) {x : Int32} (hdg : decode Y.2.2.1 pc = .ok (.i2s, 1)) (k : G sp Y M Z (pc + 1) lv (.int x.toInt16.toInt32 :: st) z) : G sp Y M Z pc lv (.int x :: st) z := fun H locs ls hP hS hl => lv_i2s hE.1 hE.2.1 hdg rfl (k H locs ls hP hS hl)
theorem g_dup (hE : OK sp Y M) {a : Value} (hdg : decode Y.2.2.1 pc = .ok (.dup, 1)) (ha : a.category = 1) (k : G sp Y M Z (pc + 1) lv (a :: a :: st) z) : G sp Y M Z pc lv (a :: st) z := fun H locs ls hP hS hl => lv_dup hE.1 hE.2.1 hdg (by rw [tv_cat]; exact ha) (k H locs ls hP hS hl)
theorem g_dup2 (hE : OK sp Y M) {a b : Value} (hdg : decode Y.2.2.1 pc = .ok (.dup2, 1)) (ha : a.category = 1) (hb : b.category = 1) (k : G sp Y M Z (pc + 1) lv (a :: b :: a :: b :: st) z) : G sp Y M Z pc lv (a :: b :: st) z := fun H locs ls hP hS hl => lv_dup2_11 hE.1 hE.2.1 hdg (by rw [tv_cat]; exact ha) (by rw [tv_cat]; exact hb) (k H locs ls hP hS hl)
theorem g_if_eq (tgt : Nat) (hE : OK sp Y M) {x : Int32} {off : Int} (hdg : decode Y.2.2.1 pc = .ok (.ifCond .eq off, 3)) (ht : (pc : Int) + off = (tgt : Int)) (kt : x = 0 → G sp Y M Z tgt lv st z) (kf : ¬ x = 0 → G sp Y M Z (pc + 3) lv st z) : G sp Y M Z pc lv (.int x :: st) z := fun H locs ls hP hS hl => lv_if_eq hE.1 hE.2.1 hdg ht (fun h => kt h H locs ls hP hS hl) (fun h => kf h H locs ls hP hS hl)
theorem g_icmp_eq (tgt : Nat) (hE : OK sp Y M) {x y : Int32} {off : Int} (hdg : decode Y.2.2.1 pc = .ok (.if_icmp .eq off, 3)) (ht : (pc : Int) + off = (tgt : Int)) (kt : x = y → G sp Y M Z tgt lv st z) (kf : ¬ x = y → G sp Y M Z (pc + 3) lv st z) : G sp Y M Z pc lv (.int y :: .int x :: st) z := fun H locs ls hP hS hl => lv_icmp_eq hE.1 hE.2.1 hdg ht (fun h => kt h H locs ls hP hS hl) (fun h => kf h H locs ls hP hS hl)
theorem g_if_ne (tgt : Nat) (hE : OK sp Y M) {x : Int32} {off : Int} (hdg : decode Y.2.2.1 pc = .ok (.ifCond .ne off, 3)) (ht : (pc : Int) + off = (tgt : Int)) (kt : ¬ x = 0 → G sp Y M Z tgt lv st z) (kf : x = 0 → G sp Y M Z (pc + 3) lv st z) : G sp Y M Z pc lv (.int x :: st) z := fun H locs ls hP hS hl => lv_if_ne hE.1 hE.2.1 hdg ht (fun h => kt h H locs ls hP hS hl) (fun h => kf h H locs ls hP hS hl)
theorem g_icmp_ne (tgt : Nat) (hE : OK sp Y M) {x y : Int32} {off : Int} (hdg : decode Y.2.2.1 pc = .ok (.if_icmp .ne off, 3)) (ht : (pc : Int) + off = (tgt : Int)) (kt : ¬ x = y → G sp Y M Z tgt lv st z) (kf : x = y → G sp Y M Z (pc + 3) lv st z) : G sp Y M Z pc lv (.int y :: .int x :: st) z := fun H locs ls hP hS hl => lv_icmp_ne hE.1 hE.2.1 hdg ht (fun h => kt h H locs ls hP hS hl) (fun h => kf h H locs ls hP hS hl)
theorem g_if_lt (tgt : Nat) (hE : OK sp Y M) {x : Int32} {off : Int} (hdg : decode Y.2.2.1 pc = .ok (.ifCond .lt off, 3)) (ht : (pc : Int) + off = (tgt : Int)) (kt : x < 0 → G sp Y M Z tgt lv st z) (kf : ¬ x < 0 → G sp Y M Z (pc + 3) lv st z) : G sp Y M Z pc lv (.int x :: st) z := fun H locs ls hP hS hl => lv_if_lt hE.1 hE.2.1 hdg ht (fun h => kt h H locs ls hP hS hl) (fun h => kf h H locs ls hP hS hl)
theorem g_icmp_lt (tgt : Nat) (hE : OK sp Y M) {x y : Int32} {off : Int} (hdg : decode Y.2.2.1 pc = .ok (.if_icmp .lt off, 3)) (ht : (pc : Int) + off = (tgt : Int)) (kt : x < y → G sp Y M Z tgt lv st z) (kf : ¬ x < y → G sp Y M Z (pc + 3) lv st z) : G sp Y M Z pc lv (.int y :: .int x :: st) z := fun H locs ls hP hS hl => lv_icmp_lt hE.1 hE.2.1 hdg ht (fun h => kt h H locs ls hP hS hl) (fun h => kf h H locs ls hP hS hl)
theorem g_if_ge (tgt : Nat) (hE : OK sp Y M) {x : Int32} {off : Int} (hdg : decode Y.2.2.1 pc = .ok (.ifCond .ge off, 3)) (ht : (pc : Int) + off = (tgt : Int)) (kt : 0 ≤ x → G sp Y M Z tgt lv st z) (kf : ¬ 0 ≤ x → G sp Y M Z (pc + 3) lv st z) : G sp Y M Z pc lv (.int x :: st) z := fun H locs ls hP hS hl => lv_if_ge hE.1 hE.2.1 hdg ht (fun h => kt h H locs ls hP hS hl) (fun h => kf h H locs ls hP hS hl)
theorem g_icmp_ge (tgt : Nat) (hE : OK sp Y M) {x y : Int32} {off : Int} (hdg : decode Y.2.2.1 pc = .ok (.if_icmp .ge off, 3)) (ht : (pc : Int) + off = (tgt : Int)) (kt : y ≤ x → G sp Y M Z tgt lv st z) (kf : ¬ y ≤ x → G sp Y M Z (pc + 3) lv st z) : G sp Y M Z pc lv (.int y :: .int x :: st) z := fun H locs ls hP hS hl => lv_icmp_ge hE.1 hE.2.1 hdg ht (fun h => kt h H locs ls hP hS hl) (fun h => kf h H locs ls hP hS hl)
theorem g_if_gt (tgt : Nat) (hE : OK sp Y M) {x : Int32} {off : Int} (hdg : decode Y.2.2.1 pc = .ok (.ifCond .gt off, 3)) (ht : (pc : Int) + off = (tgt : Int)) (kt : 0 < x → G sp Y M Z tgt lv st z) (kf : ¬ 0 < x → G sp Y M Z (pc + 3) lv st z) : G sp Y M Z pc lv (.int x :: st) z := fun H locs ls hP hS hl => lv_if_gt hE.1 hE.2.1 hdg ht (fun h => kt h H locs ls hP hS hl) (fun h => kf h H locs ls hP hS hl)
theorem g_icmp_gt (tgt : Nat) (hE : OK sp Y M) {x y : Int32} {off : Int} (hdg : decode Y.2.2.1 pc = .ok (.if_icmp .gt off, 3)) (ht : (pc : Int) + off = (tgt : Int)) (kt : y < x → G sp Y M Z tgt lv st z) (kf : ¬ y < x → G sp Y M Z (pc + 3) lv st z) : G sp Y M Z pc lv (.int y :: .int x :: st) z := fun H locs ls hP hS hl => lv_icmp_gt hE.1 hE.2.1 hdg ht (fun h => kt h H locs ls hP hS hl) (fun h => kf h H locs ls hP hS hl)
theorem g_if_le (tgt : Nat) (hE : OK sp Y M) {x : Int32} {off : Int} (hdg : decode Y.2.2.1 pc = .ok (.ifCond .le off, 3)) (ht : (pc : Int) + off = (tgt : Int)) (kt : x ≤ 0 → G sp Y M Z tgt lv st z) (kf : ¬ x ≤ 0 → G sp Y M Z (pc + 3) lv st z) : G sp Y M Z pc lv (.int x :: st) z := fun H locs ls hP hS hl => lv_if_le hE.1 hE.2.1 hdg ht (fun h => kt h H locs ls hP hS hl) (fun h => kf h H locs ls hP hS hl)
theorem g_icmp_le (tgt : Nat) (hE : OK sp Y M) {x y : Int32} {off : Int} (hdg : decode Y.2.2.1 pc = .ok (.if_icmp .le off, 3)) (ht : (pc : Int) + off = (tgt : Int)) (kt : x ≤ y → G sp Y M Z tgt lv st z) (kf : ¬ x ≤ y → G sp Y M Z (pc + 3) lv st z) : G sp Y M Z pc lv (.int y :: .int x :: st) z := fun H locs ls hP hS hl => lv_icmp_le hE.1 hE.2.1 hdg ht (fun h => kt h H locs ls hP hS hl) (fun h => kf h H locs ls hP hS hl)
theorem g_goto (tgt : Nat) (hE : OK sp Y M) {off : Int} (hdg : decode Y.2.2.1 pc = .ok (.goto off, 3)) (ht : (pc : Int) + off = (tgt : Int)) (k : G sp Y M Z tgt lv st z) : G sp Y M Z pc lv st z := fun H locs ls hP hS hl => lv_goto hE.1 hE.2.1 hdg ht (k H locs ls hP hS hl)
theorem g_tabIn (tgt : Nat) (hE : OK sp Y M) {x : Int32} {dflt lo hi off : Int} {offs : Array Int} {len : Nat} (hdg : decode Y.2.2.1 pc = .ok (.tableswitch dflt lo hi offs, len)) (h1 : ¬ x.toInt < lo) (h2 : ¬ hi < x.toInt) (ho : offs[(x.toInt - lo).toNat]? = some off) (ht : (pc : Int) + off = (tgt : Int)) (k : G sp Y M Z tgt lv st z) : G sp Y M Z pc lv (.int x :: st) z := fun H locs ls hP hS hl => lv_tableIn hE.1 hE.2.1 hdg h1 h2 ho ht (k H locs ls hP hS hl)
theorem g_tabOut (tgt : Nat) (hE : OK sp Y M) {x : Int32} {dflt lo hi : Int} {offs : Array Int} {len : Nat} (hdg : decode Y.2.2.1 pc = .ok (.tableswitch dflt lo hi offs, len)) (h : x.toInt < lo ∨ hi < x.toInt) (ht : (pc : Int) + dflt = (tgt : Int)) (k : G sp Y M Z tgt lv st z) : G sp Y M Z pc lv (.int x :: st) z := fun H locs ls hP hS hl => lv_tableOut hE.1 hE.2.1 hdg h ht (k H locs ls hP hS hl)
theorem g_wk (b : List Bool) {lv2 : List (Option Value)} (e : maskL b lv = lv2) (k : G sp Y M Z pc lv2 st z) : G sp Y M Z pc lv st z := fun H locs ls hP hS hl => k H locs ls hP hS (lvR_mask b hl e)
theorem g_iald (hE : OK sp Y M) {t n : Nat} {q : List (Nat × Nat)} {i : Int32} (hk : kd sp t = (1, n, q)) (hin : ib i n) (hdg : decode Y.2.2.1 pc = .ok (.iaload, 1)) (k : G sp Y M Z (pc + 1) lv (.int (rI z t (ix i)) :: st) z) : G sp Y M Z pc lv (.int i :: .ref t :: st) z := fun H locs ls hP hS hl => va_iald (D := M.2.2.1) (cl := vwCl) hE.1 hE.2.1 hE.2.2.2.2.2.2.2.1 hP t 0 (wl_at hk (by simp)) rfl hin hdg (k H locs ls hP hS hl)
theorem g_zald (hE : OK sp Y M) {t n : Nat} {q : List (Nat × Nat)} {i : Int32} (hk : kd sp t = (2, n, q)) (hin : ib i n) (hdg : decode Y.2.2.1 pc = .ok (.baload, 1)) (k : G sp Y M Z (pc + 1) lv (.int (rI z t (ix i)) :: st) z) : G sp Y M Z pc lv (.int i :: .ref t :: st) z := fun H locs ls hP hS hl => va_zald (D := M.2.2.1) (cl := vwCl) hE.1 hE.2.1 hE.2.2.2.2.2.2.2.1 hP t 1 (wl_at hk (by simp)) rfl hin hdg (k H locs ls hP hS hl)
theorem g_lald (hE : OK sp Y M) {t n : Nat} {q : List (Nat × Nat)} {i : Int32} (hk : kd sp t = (3, n, q)) (hin : ib i n) (hdg : decode Y.2.2.1 pc = .ok (.laload, 1)) (k : G sp Y M Z (pc + 1) lv (.long (rJ z t (ix i)) :: st) z) : G sp Y M Z pc lv (.int i :: .ref t :: st) z := fun H locs ls hP hS hl => va_lald (D := M.2.2.1) (cl := vwCl) hE.1 hE.2.1 hE.2.2.2.2.2.2.2.1 hP t 2 (wl_at hk (by simp)) rfl hin hdg (k H locs ls hP hS hl)
theorem g_aald (hE : OK sp Y M) {t n b d : Nat} {q : List (Nat × Nat)} {i : Int32} (hk : kd sp t = (4, n, (b, d) :: q)) (hin : ib i n) (hdg : decode Y.2.2.1 pc = .ok (.aaload, 1)) (k : G sp Y M Z (pc + 1) lv (.ref (b + d * ix i) :: st) z) : G sp Y M Z pc lv (.int i :: .ref t :: st) z := fun H locs ls hP hS hl => va_aldq (D := M.2.2.1) (cl := vwCl) hE.1 hE.2.1 hE.2.2.2.2.2.2.2.1 hP t 3 (wl_at hk (by simp)) rfl hin hdg (k H locs ls hP hS hl)
theorem up_o {z : Sg} {t k : Nat} {v : Int32} : ∀ j, j ≠ t → (wI z t k v).1 j = z.1 j ∧ (wI z t k v).2 j = z.2 j := fun j hj => ⟨if_neg hj, rfl⟩
theorem up_oJ {z : Sg} {t k : Nat} {v : Int64} : ∀ j, j ≠ t → (wJ z t k v).1 j = z.1 j ∧ (wJ z t k v).2 j = z.2 j := fun j hj => ⟨rfl, if_neg hj⟩
theorem up_oA {z : Sg} {t : Nat} {f : Nat → Int32} : ∀ j, j ≠ t → (wA z t f).1 j = z.1 j ∧ (wA z t f).2 j = z.2 j := fun j hj => ⟨if_neg hj, rfl⟩
theorem up_s {z : Sg} {t k : Nat} {v : Int32} : (wI z t k v).1 t = upd (z.1 t) k v := if_pos rfl
theorem up_sJ {z : Sg} {t k : Nat} {v : Int64} : (wJ z t k v).2 t = vp_updL (z.2 t) k v := if_pos rfl
theorem up_sA {z : Sg} {t : Nat} {f : Nat → Int32} : (wA z t f).1 t = f := if_pos rfl
theorem g_iast (hE : OK sp Y M) {t n : Nat} {q : List (Nat × Nat)} {i x : Int32} (hk : kd sp t = (1, n, q)) (hin : ib i n) (hdg : decode Y.2.2.1 pc = .ok (.iastore, 1)) (k : G sp Y M Z (pc + 1) lv st (wI z t (ix i) x)) : G sp Y M Z pc lv (.int x :: .int i :: .ref t :: st) z := by
  intro H locs ls hP hS hl
  refine va_iast (D := M.2.2.1) (cl := vwCl) hE.1 hE.2.1 hE.2.2.2.2.2.2.2.1 hP (wl_D hE.2.2.2.2.2.2.2.2.1 z) hS t 0 (wl_at hk (by simp)) rfl hin hdg (fun H1 locs1 h1 _ h3 => ?_)
  rw [wl_set (z' := wI z t (ix i) x) (by rw [hk]; show Sum.inl (_, _, Sum.inl ((wI z t (ix i) x).1 t)) = _; rw [up_s]) up_o] at h1
  exact k H1 locs1 ls h1 h3 hl
theorem g_zast (hE : OK sp Y M) {t n : Nat} {q : List (Nat × Nat)} {i x : Int32} (hk : kd sp t = (2, n, q)) (hin : ib i n) (hx : vp_nar .boolean x = x) (hdg : decode Y.2.2.1 pc = .ok (.bastore, 1)) (k : G sp Y M Z (pc + 1) lv st (wI z t (ix i) x)) : G sp Y M Z pc lv (.int x :: .int i :: .ref t :: st) z := by
  intro H locs ls hP hS hl
  refine va_zast (D := M.2.2.1) (cl := vwCl) hE.1 hE.2.1 hE.2.2.2.2.2.2.2.1 hP (wl_D hE.2.2.2.2.2.2.2.2.1 z) hS t 1 (wl_at hk (by simp)) rfl hin hdg (fun H1 locs1 h1 _ h3 => ?_)
  rw [wl_set (z' := wI z t (ix i) x) (by rw [hk]; show Sum.inl (_, _, Sum.inl ((wI z t (ix i) x).1 t)) = _; rw [up_s, hx]) up_o] at h1
  exact k H1 locs1 ls h1 h3 hl
theorem g_last (hE : OK sp Y M) {t n : Nat} {q : List (Nat × Nat)} {i : Int32} {x : Int64} (hk : kd sp t = (3, n, q)) (hin : ib i n) (hdg : decode Y.2.2.1 pc = .ok (.lastore, 1)) (k : G sp Y M Z (pc + 1) lv st (wJ z t (ix i) x)) : G sp Y M Z pc lv (.long x :: .int i :: .ref t :: st) z := by
  intro H locs ls hP hS hl
  refine va_last (D := M.2.2.1) (cl := vwCl) hE.1 hE.2.1 hE.2.2.2.2.2.2.2.1 hP (wl_D hE.2.2.2.2.2.2.2.2.1 z) hS t 2 (wl_at hk (by simp)) rfl hin hdg (fun H1 locs1 h1 _ h3 => ?_)
  rw [wl_set (z' := wJ z t (ix i) x) (by rw [hk]; show Sum.inl (_, _, Sum.inr (Sum.inl ((wJ z t (ix i) x).2 t))) = _; rw [up_sJ]) up_oJ] at h1
  exact k H1 locs1 ls h1 h3 hl
theorem g_alenI (hE : OK sp Y M) {t n : Nat} {q : List (Nat × Nat)} {v : Int32} (hk : kd sp t = (1, n, q)) (hv : Int32.ofNat n = v) (hdg : decode Y.2.2.1 pc = .ok (.arraylength, 1)) (k : G sp Y M Z (pc + 1) lv (.int v :: st) z) : G sp Y M Z pc lv (.ref t :: st) z := fun H locs ls hP hS hl => va_alen (D := M.2.2.1) (cl := vwCl) hE.1 hE.2.1 hE.2.2.2.2.2.2.2.1 hP t 0 (wl_at hk (by simp)) rfl hv hdg (k H locs ls hP hS hl)
theorem g_alenJ (hE : OK sp Y M) {t n : Nat} {q : List (Nat × Nat)} {v : Int32} (hk : kd sp t = (3, n, q)) (hv : Int32.ofNat n = v) (hdg : decode Y.2.2.1 pc = .ok (.arraylength, 1)) (k : G sp Y M Z (pc + 1) lv (.int v :: st) z) : G sp Y M Z pc lv (.ref t :: st) z := fun H locs ls hP hS hl => va_alen (D := M.2.2.1) (cl := vwCl) hE.1 hE.2.1 hE.2.2.2.2.2.2.2.1 hP t 2 (wl_at hk (by simp)) rfl hv hdg (k H locs ls hP hS hl)
theorem g_copy (hE : OK sp Y M) {i : Nat} {t t0 n0 n1 : Nat} {q q' : List (Nat × Nat)} {a b n : Int32} (hw : Cond.methodLink Y.1 i arraycopyName ∈ TB) (w1 : Cond.native arraycopyName ∈ TB) (w2 : Cond.static arraycopyName ∈ TB) (w3 : Cond.initialized "java/lang/System" ∈ TB) (hk0 : kd sp t0 = (1, n0, q)) (hk : kd sp t = (1, n1, q')) (hc : cpOK a b n n0 n1) (hd : 1 ≤ Y.2.2.2.2.2) (hr : (st.map fun v => v.category).sum ≤ 8) (hdg : decode Y.2.2.1 pc = .ok (.invokestatic i, 3)) (k : G sp Y M Z (pc + 3) lv st (wA z t (va_cpy (z.1 t0) (z.1 t) (ix a) (ix b) (ix n)))) : G sp Y M Z pc lv (.int n :: .int b :: .ref t :: .int a :: .ref t0 :: st) z := by
  intro H locs ls hP hS hl
  have hcat : ((st.map (tv M.2.2.2.1)).map fun v => v.category).sum ≤ 8 := by
    rw [List.map_map]
    have : ((fun v : Value => v.category) ∘ tv M.2.2.2.1) = fun v => v.category := by funext v; exact tv_cat _ v
    rw [this]; exact hr
  refine va_copyi (D := M.2.2.1) (cl := vwCl) (ty := .int) hE.1 hE.2.1 (by rw [hE.2.2.1, hl.1]) hE.2.2.2.1 (hE.2.2.2.2.1 _ hw) (hE.2.2.2.2.1 _ w1) (hE.2.2.2.2.1 _ w2) (hE.2.2.2.2.1 _ w3) hE.2.2.2.2.2.2.2.1 hP (wl_D hE.2.2.2.2.2.2.2.2.1 z) hS t0 t 0 0 (wl_at hk0 (by simp)) (wl_at hk (by simp)) rfl rfl rfl hc.1 hc.2.1 hc.2.2.1 hc.2.2.2.1 hc.2.2.2.2 (fun _ _ => rfl) hd ?_ hdg (fun H1 locs1 h1 _ h3 => ?_)
  · have h5 : nativeFrameWords "java/lang/System" "arraycopy" 5 + 11 ≤ 30 := by decide +kernel
    show _ ≤ 38 * Y.2.2.2.2.2
    omega
  · rw [wl_set (z' := wA z t (va_cpy (z.1 t0) (z.1 t) (ix a) (ix b) (ix n))) (by rw [hk]; show Sum.inl (_, _, Sum.inl ((wA z t _).1 t)) = _; rw [up_sA]) up_oA] at h1
    exact k H1 locs1 ls h1 h3 hl
theorem g_get (hE : OK sp Y M) {t ci k i N : Nat} {fl : List (Nat × Nat)} {f : Nat × Nat} {C : String} {T : u_T} {v : Value} (hk : kd sp t = (0, ci, fl)) (hc : vwCl[ci]? = some (C, T, N)) (hin : ∀ q ∈ u_ws C T N, q ∈ TB) (hkN : k < N) (hw : Cond.fieldLink Y.1 i (T k).1 (T k).2.1 (T k).2.2.1 ∈ TB) (hf : fl[k]? = some f) (hv : fv M.2.2.2.1 z t k f = tv M.2.2.2.1 v) (hdg : decode Y.2.2.1 pc = .ok (.getfield i, 3)) (kk : G sp Y M Z (pc + 3) lv (v :: st) z) : G sp Y M Z pc lv (.ref t :: st) z := fun H locs ls hP hS hl => va_get (D := M.2.2.1) (cl := vwCl) hE.1 hE.2.1 hE.2.2.2.2.1 hin hE.2.2.2.1 hE.2.2.2.2.2.2.2.1 hP t (wl_at hk (by simp)) hc k hkN (hE.2.2.2.2.1 _ hw) (fun _ h => h) (by rw [flds_at _ _ _ _ 0 k f hf, Nat.zero_add, hv]) hdg (kk H locs ls hP hS hl)
theorem g_getN (hE : OK sp Y M) {t ci k i N : Nat} {fl : List (Nat × Nat)} {f : Nat × Nat} {C host : String} {T : u_T} {v : Value} (hk : kd sp t = (0, ci, fl)) (hc : vwCl[ci]? = some (C, T, N)) (hin : ∀ q ∈ u_ws C T N, q ∈ TB) (hkN : k < N) (hw : Cond.fieldLinkNest Y.1 i (T k).1 (T k).2.1 (T k).2.2.1 host ∈ nestW) (hf : fl[k]? = some f) (hv : fv M.2.2.2.1 z t k f = tv M.2.2.2.1 v) (hdg : decode Y.2.2.1 pc = .ok (.getfield i, 3)) (kk : G sp Y M Z (pc + 3) lv (v :: st) z) : G sp Y M Z pc lv (.ref t :: st) z := fun H locs ls hP hS hl => va_getN (D := M.2.2.1) (cl := vwCl) hE.1 hE.2.1 hE.2.2.2.2.1 hin hE.2.2.2.1 hE.2.2.2.2.2.2.2.1 hP t (wl_at hk (by simp)) hc k hkN (va_Nw.use rfl (hE.2.2.2.2.2.2.2.2.2 _ hw)) (fun _ h => h) (by rw [flds_at _ _ _ _ 0 k f hf, Nat.zero_add, hv]) hdg (kk H locs ls hP hS hl)
theorem g_putI (hE : OK sp Y M) {t ci k i N y0 : Nat} {fl : List (Nat × Nat)} {C : String} {T : u_T} {x : Int32} {ty : FieldType} (ty0 : Nat → FieldType) (hty : ∀ k, k < N → parseFieldDescriptor (T k).2.2.1 = some (ty0 k)) (hnm : ∀ a, a < N → ∀ b, b < N → a ≠ b → (T a).2.1 ≠ (T b).2.1) (hk : kd sp t = (0, ci, fl)) (hc : vwCl[ci]? = some (C, T, N)) (hin : ∀ q ∈ u_ws C T N, q ∈ TB) (hkN : k < N) (hw : Cond.fieldLink Y.1 i (T k).1 (T k).2.1 (T k).2.2.1 ∈ TB) (hfin : (T k).2.2.2 = false) (hd : parseFieldDescriptor (T k).2.2.1 = some ty) (hn : narrow ty (.int x) = .int x) (hfit : fits ty (.int x) = true) (hf : fl[k]? = some (0, y0)) (hdg : decode Y.2.2.1 pc = .ok (.putfield i, 3)) (kk : G sp Y M Z (pc + 3) lv st (wI z t k x)) : G sp Y M Z pc lv (.int x :: .ref t :: st) z := by
  intro H locs ls hP hS hl
  refine va_put (D := M.2.2.1) (cl := vwCl) hE.1 hE.2.1 hE.2.2.2.2.1 hin ty0 hty hnm hE.2.2.2.1 hE.2.2.2.2.2.2.2.1 hP (wl_D hE.2.2.2.2.2.2.2.2.1 z) hS t (wl_at hk (by simp)) hc k hkN (hE.2.2.2.2.1 _ hw) (fun _ h => h) hfin hd hn hfit (by rw [flds_len]; exact (List.getElem?_eq_some_iff.mp hf).1) hdg (fun H1 locs1 h1 _ h3 => ?_)
  rw [wl_set (z' := wI z t k x) (by
    rw [hk]
    show Sum.inr (ci, flds M.2.2.2.1 (wI z t k x) t 0 fl) = _
    rw [flds_ext M.2.2.2.1 z (wI z t k x) t (.int x) fl 0 k (0, y0) hf (by simp [fv, rI_wI]) (fun j g hg hj => by unfold fv; split <;> simp [rI_wI, rJ_wI, hj])]; rfl) up_o] at h1
  exact kk H1 locs1 ls h1 h3 hl
theorem g_putJ (hE : OK sp Y M) {t ci k i N y0 : Nat} {fl : List (Nat × Nat)} {C : String} {T : u_T} {x : Int64} (ty0 : Nat → FieldType) (hty : ∀ k, k < N → parseFieldDescriptor (T k).2.2.1 = some (ty0 k)) (hnm : ∀ a, a < N → ∀ b, b < N → a ≠ b → (T a).2.1 ≠ (T b).2.1) (hk : kd sp t = (0, ci, fl)) (hc : vwCl[ci]? = some (C, T, N)) (hin : ∀ q ∈ u_ws C T N, q ∈ TB) (hkN : k < N) (hw : Cond.fieldLink Y.1 i (T k).1 (T k).2.1 (T k).2.2.1 ∈ TB) (hfin : (T k).2.2.2 = false) (hd : parseFieldDescriptor (T k).2.2.1 = some .long) (hf : fl[k]? = some (1, y0)) (hdg : decode Y.2.2.1 pc = .ok (.putfield i, 3)) (kk : G sp Y M Z (pc + 3) lv st (wJ z t k x)) : G sp Y M Z pc lv (.long x :: .ref t :: st) z := by
  intro H locs ls hP hS hl
  refine va_put (D := M.2.2.1) (cl := vwCl) hE.1 hE.2.1 hE.2.2.2.2.1 hin ty0 hty hnm hE.2.2.2.1 hE.2.2.2.2.2.2.2.1 hP (wl_D hE.2.2.2.2.2.2.2.2.1 z) hS t (wl_at hk (by simp)) hc k hkN (hE.2.2.2.2.1 _ hw) (fun _ h => h) hfin hd rfl rfl (by rw [flds_len]; exact (List.getElem?_eq_some_iff.mp hf).1) hdg (fun H1 locs1 h1 _ h3 => ?_)
  rw [wl_set (z' := wJ z t k x) (by
    rw [hk]
    show Sum.inr (ci, flds M.2.2.2.1 (wJ z t k x) t 0 fl) = _
    rw [flds_ext M.2.2.2.1 z (wJ z t k x) t (.long x) fl 0 k (1, y0) hf (by simp [fv, rJ_wJ]) (fun j g hg hj => by unfold fv; split <;> simp [rJ_wJ, rI_wJ, hj])]; rfl) up_oJ] at h1
  exact kk H1 locs1 ls h1 h3 hl
theorem g_ret (hE : OK sp Y M) (hr : Y.2.2.2.2.1 = none) (hdg : decode Y.2.2.1 pc = .ok (.return_, 1)) : G sp Y M (none, z) pc lv [] z := fun H locs ls hP hS hl =>
  W.vret hE.1 hE.2.1 (hE.2.2.2.2.2.1.trans hr) (fun t ht hW => ⟨rfl, ⟨by rw [ht]; exact hP, hE.2.2.2.2.2.2.2.warm hW⟩, hS.F ht⟩) hS.2.2 hdg hE.2.2.2.2.2.2.1
theorem g_iret (hE : OK sp Y M) {x : Int32} (hr : Y.2.2.2.2.1 = some .int) (hdg : decode Y.2.2.1 pc = .ok (.ireturn, 1)) : G sp Y M (some (.int x), z) pc lv [.int x] z := fun H locs ls hP hS hl =>
  W.iret hE.1 hE.2.1 (hE.2.2.2.2.2.1.trans hr) (fun t ht hW => ⟨rfl, ⟨by rw [ht]; exact hP, hE.2.2.2.2.2.2.2.warm hW⟩, hS.F ht⟩) hS.2.2 hdg hE.2.2.2.2.2.2.1
theorem g_zret (hE : OK sp Y M) {x : Int32} (hr : Y.2.2.2.2.1 = some .boolean) (hn : narrow .boolean (.int x) = .int x) (hdg : decode Y.2.2.1 pc = .ok (.ireturn, 1)) : G sp Y M (some (.int x), z) pc lv [.int x] z := fun H locs ls hP hS hl =>
  W.zret hE.1 hE.2.1 (hE.2.2.2.2.2.1.trans hr) hn (fun t ht hW => ⟨rfl, ⟨by rw [ht]; exact hP, hE.2.2.2.2.2.2.2.warm hW⟩, hS.F ht⟩) hS.2.2 hdg hE.2.2.2.2.2.2.1
theorem g_lret (hE : OK sp Y M) {x : Int64} (hr : Y.2.2.2.2.1 = some .long) (hdg : decode Y.2.2.1 pc = .ok (.lreturn, 1)) : G sp Y M (some (.long x), z) pc lv [.long x] z := fun H locs ls hP hS hl =>
  W.lret hE.1 hE.2.1 (hE.2.2.2.2.2.1.trans hr) (fun t ht hW => ⟨rfl, ⟨by rw [ht]; exact hP, hE.2.2.2.2.2.2.2.warm hW⟩, hS.F ht⟩) hS.2.2 hdg hE.2.2.2.2.2.2.1
theorem g_aret (hE : OK sp Y M) {x : Nat} {n : String} (hr : Y.2.2.2.2.1 = some (.object n)) (hdg : decode Y.2.2.1 pc = .ok (.areturn, 1)) : G sp Y M (some (.ref x), z) pc lv [.ref x] z := fun H locs ls hP hS hl =>
  W.aret hE.1 hE.2.1 (hE.2.2.2.2.2.1.trans hr) (Or.inl ⟨_, rfl⟩) (Or.inr ⟨_, rfl⟩) (fun t ht hW => ⟨rfl, ⟨by rw [ht]; exact hP, hE.2.2.2.2.2.2.2.warm hW⟩, hS.F ht⟩) hS.2.2 hdg hE.2.2.2.2.2.2.1
theorem cat_tv (ad : Nat → Nat) {st : List Value} (hr : (st.map fun v => v.category).sum ≤ 8) : ((st.map (tv ad)).map fun v => v.category).sum ≤ 8 := by
  rw [List.map_map]
  have : ((fun v : Value => v.category) ∘ tv ad) = fun v => v.category := by funext v; exact tv_cat _ v
  rw [this]; exact hr
theorem g_run {st0 rest : List Value} {r : Option Value} {z' : Sg} {a : Array Value}
    (hr : ∀ (H : Heap) (locs : List Loc) (ls : Array Slot), va_P M.2.2.1 vwCl (wl sp M.2.2 z) H → lv_has ls Y.2.2.2.1 (asc M.2.2.2.1 0 lv) → va_Run M.1.1 M.1.2.1 M.1.2.2.1 (rmv Y.2.2.2.2.2) M.1.2.2.2 M.2.1.1 M.2.1.2.1 M.2.1.2.2.1 M.2.1.2.2.2.1 M.2.1.2.2.2.2 H locs 0 0 0 0 (F0 M.2.1.1 pc ls (st0.map (tv M.2.2.2.1))) (rest.map (tv M.2.2.2.1)) (QZ sp M.2.2 (r, z') a) (AW sp M.2.2))
    (k : G sp Y M Z (pc + 3) lv (r.toList ++ rest) z') : G sp Y M Z pc lv st0 z := by
  intro H locs ls hP hS hl T hT X
  obtain ⟨v, st₀, t, T', L, h0, X', hL, e1, e2, ⟨ho, hB, hF⟩, hst⟩ := hr H locs ls hP hl T hT X
  have hv : v = r.map (tv M.2.2.2.1) := Outcome.returned.inj ho
  subst hv
  have hS' : va_S (AW sp M.2.2) M.1.2.2.2.heap T'.heap (locs ++ L) := by
    refine ⟨Nat.le_trans hS.1 (by rw [e1, ← h0]; exact hF.1), fun q h1 h2 => ?_, fun q hq => ?_⟩
    · rw [e1, hF.2 q (by rw [h0]; exact Nat.lt_of_lt_of_le h1 hS.1) h2, h0]
      exact hS.2.1 q h1 h2
    · rcases List.mem_append.mp hq with h | h
      · exact hS.2.2 q h
      · exact hL q h
  obtain ⟨t2, a1, b1⟩ := k T'.heap (locs ++ L) ls (by rw [e1]; exact hB.1) hS' hl T' rfl X'
  refine ⟨t2, hst t2 ?_, b1⟩
  have hs : (r.map (tv M.2.2.2.1)).toList ++ rest.map (tv M.2.2.2.1) = (r.toList ++ rest).map (tv M.2.2.2.1) := by cases r <;> simp
  rw [hs]
  exact a1
theorem blind {w : WC} {av : List Value} : FrameBlind (va_Pc av (WS sp w z)) := fun a U g mk h => ⟨h.1, h.2.1, h.2.2.call⟩
theorem goodW {ws : List Cond} (h : ∀ q ∈ ws, q ∈ TB) : GoodIn TB ws := fun q hq => goodTB (h q hq)
theorem wsCT {y : MethodName} {cc : ByteArray} {n : Nat} {ret : Option FieldType} (h : Cond.code y cc n ret ∈ TB) : ∀ q ∈ (Cond.code y cc n ret :: TB), q ∈ TB := fun q hq => by
  rcases List.mem_cons.mp hq with rfl | h2
  · exact h
  · exact h2
/-- what a callee's words say, once for each method -/
def MV (Y : MI) (C : String) (n : Nat) : Prop := Cond.code Y.2.1 Y.2.2.1 Y.2.2.2.1 Y.2.2.2.2.1 ∈ TB ∧ Cond.instanceMethod Y.2.1 ∈ TB ∧ Cond.selects C Y.2.1 Y.2.1 ∈ TB ∧ Cond.initialized C ∈ TB ∧ (Y.2.1.cls = C ∧ Y.2.1.cls ≠ "java/lang/invoke/MethodHandle" ∧ Y.2.1.cls ≠ "java/lang/invoke/VarHandle" ∧ (parseMethodDescriptor Y.2.1.desc).map (fun d => d.parameters.length) = some n) ∧ Y.2.2.2.1 ≤ 19
def MS (Y : MI) (n : Nat) : Prop := Cond.code Y.2.1 Y.2.2.1 Y.2.2.2.1 Y.2.2.2.2.1 ∈ TB ∧ Cond.static Y.2.1 ∈ TB ∧ Cond.initialized Y.2.1.cls ∈ TB ∧ (Y.2.1.cls ≠ "java/lang/invoke/MethodHandle" ∧ Y.2.1.cls ≠ "java/lang/invoke/VarHandle" ∧ (parseMethodDescriptor Y.2.1.desc).map (fun d => d.parameters.length) = some n) ∧ Y.2.2.2.1 ≤ 19
theorem rmv_fit {d e n : Nat} (h : d < e) (hn : n ≤ 19) : (rmv d).frames + 1 ≤ (rmv e).frames ∧ 8 + (n + 11) + (rmv d).locals ≤ (rmv e).locals := by
  refine ⟨h, ?_⟩
  show 8 + (n + 11) + 38 * d ≤ 38 * e
  omega
theorem g_callV {Y' : MI} {C : String} {n i ci : Nat} {K : Nat × Nat} {T : u_T} {N t : Nat} {fl : List (Nat × Nat)} {As rest st0 : List Value} {r : Option Value} {z' : Sg} (hE : OK sp Y M) (hM : MV Y' C n) (hk : kd sp t = (0, ci, fl)) (hc : vwCl[ci]? = some (C, T, N)) (hw : Cond.methodLink Y.1 i Y'.2.1 ∈ TB) (hd : Y'.2.2.2.2.2 < Y.2.2.2.2.2) (hn : As.length = n) (hst : st0 = As.reverse ++ .ref t :: rest) (hr : (rest.map fun v => v.category).sum ≤ 8) (hdg : decode Y.2.2.1 pc = .ok (.invokevirtual i, 3))
    (h : CT sp M.1.2.1 Y' M.2.2 (.ref t :: As) z r z') (k : G sp Y M Z (pc + 3) lv (r.toList ++ rest) z') : G sp Y M Z pc lv st0 z := by
  refine g_run (rest := rest) (a := (Value.ref (M.2.2.2.1 t) :: As.map (tv M.2.2.2.1)).toArray) (fun H locs ls hP hl => ?_) k
  obtain ⟨w1, w2, w3, w4, hy, hnl⟩ := hM
  refine va_runV (As := As.map (tv M.2.2.2.1)) (rest := rest.map (tv M.2.2.2.1)) ⟨hE.1, hE.2.1, hE.2.2.1, hE.2.2.2.1, hE.2.2.2.2.1⟩ h (cwV (C := C) n hE.2.2.2.2.1 (goodW (fun q hq => ?_)) rfl rfl rfl hy (rmv_fit hd hnl)) ⟨blind, va_recv hE.2.2.2.2.2.2.2.1 hP (q0 := t) hc (wl_at hk (by simp)), fun U hU hW => ⟨rfl, by rw [hU]; exact hP, hE.2.2.2.2.2.2.2.warm hW⟩⟩ rfl (by rw [List.length_map]; exact hn) hl.1 (by rw [hst]; simp [tv, List.map_reverse]) (lv_room (cat_tv _ hr)) hdg ⟨Nat.zero_le _, Nat.zero_le _⟩
  rcases List.mem_append.mp hq with hq | hq
  · simp only [List.mem_cons, List.not_mem_nil, or_false] at hq
    rcases hq with rfl | rfl | rfl | rfl
    · exact hw
    · exact w2
    · exact w3
    · exact w4
  · exact wsCT w1 q hq
theorem g_callS {Y' : MI} {n i : Nat} {As rest st0 : List Value} {r : Option Value} {z' : Sg} (hE : OK sp Y M) (hM : MS Y' n) (hw : Cond.methodLink Y.1 i Y'.2.1 ∈ TB) (hd : Y'.2.2.2.2.2 < Y.2.2.2.2.2) (hn : As.length = n) (hst : st0 = As.reverse ++ rest) (hr : (rest.map fun v => v.category).sum ≤ 8) (hdg : decode Y.2.2.1 pc = .ok (.invokestatic i, 3))
    (h : CT sp M.1.2.1 Y' M.2.2 As z r z') (k : G sp Y M Z (pc + 3) lv (r.toList ++ rest) z') : G sp Y M Z pc lv st0 z := by
  refine g_run (rest := rest) (a := (As.map (tv M.2.2.2.1)).toArray) (fun H locs ls hP hl => ?_) k
  obtain ⟨w1, w2, w4, hy, hnl⟩ := hM
  refine va_runS (As := As.map (tv M.2.2.2.1)) (rest := rest.map (tv M.2.2.2.1)) ⟨hE.1, hE.2.1, hE.2.2.1, hE.2.2.2.1, hE.2.2.2.2.1⟩ h (va_cwS n hE.2.2.2.2.1 (goodW (fun q hq => ?_)) rfl rfl rfl hy (rmv_fit hd hnl)) ⟨blind, fun U hU hW => ⟨rfl, by rw [hU]; exact hP, hE.2.2.2.2.2.2.2.warm hW⟩⟩ rfl (by rw [List.length_map]; exact hn) hl.1 (by rw [hst]; simp [List.map_reverse]) (lv_room (cat_tv _ hr)) hdg ⟨Nat.zero_le _, Nat.zero_le _⟩
  rcases List.mem_append.mp hq with hq | hq
  · simp only [List.mem_cons, List.not_mem_nil, or_false] at hq
    rcases hq with rfl | rfl | rfl
    · exact hw
    · exact w2
    · exact w4
  · exact wsCT w1 q hq
theorem g_callSN {Y' : MI} {n i : Nat} {host : String} {As rest st0 : List Value} {r : Option Value} {z' : Sg} (hE : OK sp Y M) (hM : MS Y' n) (hw : Cond.methodLinkNest Y.1 i Y'.2.1 host ∈ nestW) (hd : Y'.2.2.2.2.2 < Y.2.2.2.2.2) (hn : As.length = n) (hst : st0 = As.reverse ++ rest) (hr : (rest.map fun v => v.category).sum ≤ 8) (hdg : decode Y.2.2.1 pc = .ok (.invokestatic i, 3))
    (h : CT sp M.1.2.1 Y' M.2.2 As z r z') (k : G sp Y M Z (pc + 3) lv (r.toList ++ rest) z') : G sp Y M Z pc lv st0 z := by
  refine g_run (rest := rest) (a := (As.map (tv M.2.2.2.1)).toArray) (fun H locs ls hP hl => ?_) k
  obtain ⟨w1, w2, w4, hy, hnl⟩ := hM
  exact va_runSN (As := As.map (tv M.2.2.2.1)) (rest := rest.map (tv M.2.2.2.1)) ⟨hE.1, hE.2.1, hE.2.2.1, hE.2.2.2.1, hE.2.2.2.2.1⟩ h ⟨va_cnB n hE.2.2.2.2.1 (goodW (wsCT w1)) rfl rfl rfl (hE.2.2.2.2.2.2.2.2.2 _ hw) (hE.2.2.2.2.1 _ w4) hy (rmv_fit hd hnl), hE.2.2.2.2.1 _ w2, trivial⟩ ⟨blind, fun U hU hW => ⟨rfl, by rw [hU]; exact hP, hE.2.2.2.2.2.2.2.warm hW⟩⟩ rfl (by rw [List.length_map]; exact hn) hl.1 (by rw [hst]; simp [List.map_reverse]) (lv_room (cat_tv _ hr)) hdg ⟨Nat.zero_le _, Nat.zero_le _⟩
end Rows
end
section
/-! WORDS of the tables, field rows, methods. Printed by wip/whole/gen/mkall.py. -/
abbrev jshl (x y : Int32) : Int32 := x <<< (y &&& 31)
abbrev jshr (x y : Int32) : Int32 := x >>> (y &&& 31)
abbrev jushr (x y : Int32) : Int32 := (x.toUInt32 >>> (y.toUInt32 &&& Int32.toUInt32 31)).toInt32
abbrev jrem (x y : Int32) : Int32 := x - x / y * y
abbrev ljrem (x y : Int64) : Int64 := x - x / y * y
abbrev lshlj (x : Int64) (y : Int32) : Int64 := x <<< (y.toInt64 &&& 63)
abbrev lshrj (x : Int64) (y : Int32) : Int64 := x >>> (y.toInt64 &&& 63)
abbrev bz (x : Int32) : Prop := x = 0 ∨ x = 1
theorem bz_nar {x : Int32} (h : bz x) : narrow .boolean (.int x) = .int x := by rcases h with rfl | rfl <;> rfl
theorem ne_toInt {x : Int32} {k : Int32} (h : ¬ x = k) : x.toInt ≠ k.toInt := fun q => h (Int32.toInt_inj.mp q)
theorem wf_RX1_25 : Cond.fieldLink RX1 25 "FoundVirtues$Entries" "mayBeVague" "Z" ∈ TB := tbm 94 (by decide +kernel) (by decide +kernel)
theorem wf_RX1_9 : Cond.fieldLink RX1 9 "FoundVirtues$Entries" "said" "[I" ∈ TB := tbm 95 (by decide +kernel) (by decide +kernel)
theorem wf_RX2_31 : Cond.fieldLink RX2 31 "FoundVirtues$Entries" "said" "[I" ∈ TB := tbm 96 (by decide +kernel) (by decide +kernel)
theorem wf_RX7_116 : Cond.fieldLink RX7 116 "FoundVirtues$Entries" "said" "[I" ∈ TB := tbm 97 (by decide +kernel) (by decide +kernel)
theorem wf_RX1_15 : Cond.fieldLink RX1 15 "FoundVirtues$Entries" "high" "[I" ∈ TB := tbm 98 (by decide +kernel) (by decide +kernel)
theorem wf_RX2_25 : Cond.fieldLink RX2 25 "FoundVirtues$Entries" "high" "[I" ∈ TB := tbm 99 (by decide +kernel) (by decide +kernel)
theorem wf_RX7_106 : Cond.fieldLink RX7 106 "FoundVirtues$Entries" "high" "[I" ∈ TB := tbm 100 (by decide +kernel) (by decide +kernel)
theorem wf_RX3_76 : Cond.fieldLink RX3 76 "FoundVirtues$Entries" "high" "[I" ∈ TB := tbm 101 (by decide +kernel) (by decide +kernel)
theorem wf_RX1_18 : Cond.fieldLink RX1 18 "FoundVirtues$Entries" "figure" "[I" ∈ TB := tbm 102 (by decide +kernel) (by decide +kernel)
theorem wf_RX4_97 : Cond.fieldLink RX4 97 "FoundVirtues$Entries" "figure" "[I" ∈ TB := tbm 103 (by decide +kernel) (by decide +kernel)
theorem wf_RX7_110 : Cond.fieldLink RX7 110 "FoundVirtues$Entries" "figure" "[I" ∈ TB := tbm 104 (by decide +kernel) (by decide +kernel)
theorem wf_RX3_40 : Cond.fieldLink RX3 40 "FoundVirtues$Entries" "figure" "[I" ∈ TB := tbm 105 (by decide +kernel) (by decide +kernel)
theorem wf_RX2_50 : Cond.fieldLink RX2 50 "FoundVirtues$Entries" "figure" "[I" ∈ TB := tbm 106 (by decide +kernel) (by decide +kernel)
theorem wf_RX1_33 : Cond.fieldLink RX1 33 "FoundVirtues$Entries" "size" "I" ∈ TB := tbm 107 (by decide +kernel) (by decide +kernel)
theorem wf_RX7_81 : Cond.fieldLink RX7 81 "FoundVirtues$Entries" "size" "I" ∈ TB := tbm 108 (by decide +kernel) (by decide +kernel)
theorem wf_RX4_62 : Cond.fieldLink RX4 62 "FoundVirtues$Entries" "whole" "I" ∈ TB := tbm 109 (by decide +kernel) (by decide +kernel)
theorem wf_RX2_34 : Cond.fieldLink RX2 34 "FoundVirtues$Entries" "whole" "I" ∈ TB := tbm 110 (by decide +kernel) (by decide +kernel)
theorem wf_RX1_39 : Cond.fieldLink RX1 39 "FoundVirtues$Entries" "whole" "I" ∈ TB := tbm 111 (by decide +kernel) (by decide +kernel)
theorem wf_RX3_27 : Cond.fieldLink RX3 27 "FoundVirtues$Entries" "whole" "I" ∈ TB := tbm 112 (by decide +kernel) (by decide +kernel)
theorem wf_RX7_177 : Cond.fieldLink RX7 177 "FoundVirtues$Entries" "whole" "I" ∈ TB := tbm 113 (by decide +kernel) (by decide +kernel)
theorem wf_RX1_21 : Cond.fieldLink RX1 21 "FoundVirtues$Entries" "wrong" "I" ∈ TB := tbm 114 (by decide +kernel) (by decide +kernel)
theorem wf_RX2_18 : Cond.fieldLink RX2 18 "FoundVirtues$Office" "virtues" "LFoundVirtues$Entries;" ∈ TB := tbm 137 (by decide +kernel) (by decide +kernel)
theorem wf_RX2_22 : Cond.fieldLink RX2 22 "FoundVirtues$Office" "claimants" "LFoundVirtues$Entries;" ∈ TB := tbm 140 (by decide +kernel) (by decide +kernel)
theorem wf_RX2_9 : Cond.fieldLink RX2 9 "FoundVirtues$Office" "enough" "I" ∈ TB := tbm 143 (by decide +kernel) (by decide +kernel)
theorem wf_RX7_119 : Cond.fieldLink RX7 119 "FoundVirtues$Office" "enough" "I" ∈ TB := tbm 144 (by decide +kernel) (by decide +kernel)
theorem wf_RX7_122 : Cond.fieldLink RX7 122 "FoundVirtues$Office" "secret" "I" ∈ TB := tbm 145 (by decide +kernel) (by decide +kernel)
theorem wf_RX2_15 : Cond.fieldLink RX2 15 "FoundVirtues$Office" "kept" "I" ∈ TB := tbm 146 (by decide +kernel) (by decide +kernel)
theorem wf_RX7_125 : Cond.fieldLink RX7 125 "FoundVirtues$Office" "kept" "I" ∈ TB := tbm 147 (by decide +kernel) (by decide +kernel)
theorem wf_RX4_135 : Cond.fieldLink RX4 135 "FoundVirtues$Office" "kept" "I" ∈ TB := tbm 148 (by decide +kernel) (by decide +kernel)
theorem wf_RX0_9 : Cond.fieldLink RX0 9 "FoundVirtues$Book" "week" "[I" ∈ TB := tbm 166 (by decide +kernel) (by decide +kernel)
theorem wf_RX4_80 : Cond.fieldLink RX4 80 "FoundVirtues$Book" "week" "[I" ∈ TB := tbm 167 (by decide +kernel) (by decide +kernel)
theorem wf_RX0_15 : Cond.fieldLink RX0 15 "FoundVirtues$Book" "who" "[I" ∈ TB := tbm 168 (by decide +kernel) (by decide +kernel)
theorem wf_RX4_83 : Cond.fieldLink RX4 83 "FoundVirtues$Book" "who" "[I" ∈ TB := tbm 169 (by decide +kernel) (by decide +kernel)
theorem wf_RX0_22 : Cond.fieldLink RX0 22 "FoundVirtues$Book" "size" "I" ∈ TB := tbm 170 (by decide +kernel) (by decide +kernel)
theorem wf_RX4_75 : Cond.fieldLink RX4 75 "FoundVirtues$Book" "size" "I" ∈ TB := tbm 171 (by decide +kernel) (by decide +kernel)
theorem wf_RX7_135 : Cond.fieldLink RX7 135 "FoundVirtues$Book" "size" "I" ∈ TB := tbm 172 (by decide +kernel) (by decide +kernel)
theorem wf_RX6_11 : Cond.fieldLink RX6 11 "FoundVirtues$Sightings" "week" "[I" ∈ TB := tbm 186 (by decide +kernel) (by decide +kernel)
theorem wf_RX6_15 : Cond.fieldLink RX6 15 "FoundVirtues$Sightings" "virtue" "[I" ∈ TB := tbm 187 (by decide +kernel) (by decide +kernel)
theorem wf_RX6_18 : Cond.fieldLink RX6 18 "FoundVirtues$Sightings" "was" "[I" ∈ TB := tbm 188 (by decide +kernel) (by decide +kernel)
theorem wf_RX6_25 : Cond.fieldLink RX6 25 "FoundVirtues$Sightings" "size" "I" ∈ TB := tbm 189 (by decide +kernel) (by decide +kernel)
theorem wf_RX7_252 : Cond.fieldLink RX7 252 "FoundVirtues$Sightings" "size" "I" ∈ TB := tbm 190 (by decide +kernel) (by decide +kernel)
theorem wf_RX4_42 : Cond.fieldLink RX4 42 "FoundVirtues$Run" "office" "LFoundVirtues$Office;" ∈ TB := tbm 206 (by decide +kernel) (by decide +kernel)
theorem wf_RX4_11 : Cond.fieldLink RX4 11 "FoundVirtues$Run" "handed" "[I" ∈ TB := tbm 207 (by decide +kernel) (by decide +kernel)
theorem wf_RX7_387 : Cond.fieldLink RX7 387 "FoundVirtues$Run" "handed" "[I" ∈ TB := tbm 208 (by decide +kernel) (by decide +kernel)
theorem wf_RX4_15 : Cond.fieldLink RX4 15 "FoundVirtues$Run" "queue" "[I" ∈ TB := tbm 209 (by decide +kernel) (by decide +kernel)
theorem wf_RX4_52 : Cond.fieldLink RX4 52 "FoundVirtues$Run" "queued" "I" ∈ TB := tbm 210 (by decide +kernel) (by decide +kernel)
theorem wf_RX4_18 : Cond.fieldLink RX4 18 "FoundVirtues$Run" "fitted" "[I" ∈ TB := tbm 211 (by decide +kernel) (by decide +kernel)
theorem wf_RX4_21 : Cond.fieldLink RX4 21 "FoundVirtues$Run" "allowed" "[I" ∈ TB := tbm 212 (by decide +kernel) (by decide +kernel)
theorem wf_RX4_24 : Cond.fieldLink RX4 24 "FoundVirtues$Run" "arrived" "[I" ∈ TB := tbm 213 (by decide +kernel) (by decide +kernel)
theorem wf_RX4_27 : Cond.fieldLink RX4 27 "FoundVirtues$Run" "shelfBehind" "[I" ∈ TB := tbm 214 (by decide +kernel) (by decide +kernel)
theorem wf_RX7_155 : Cond.fieldLink RX7 155 "FoundVirtues$Run" "shelfBehind" "[I" ∈ TB := tbm 215 (by decide +kernel) (by decide +kernel)
theorem wf_RX4_30 : Cond.fieldLink RX4 30 "FoundVirtues$Run" "givenBehind" "[I" ∈ TB := tbm 216 (by decide +kernel) (by decide +kernel)
theorem wf_RX7_158 : Cond.fieldLink RX7 158 "FoundVirtues$Run" "givenBehind" "[I" ∈ TB := tbm 217 (by decide +kernel) (by decide +kernel)
theorem wf_RX4_33 : Cond.fieldLink RX4 33 "FoundVirtues$Run" "soldBehind" "[I" ∈ TB := tbm 218 (by decide +kernel) (by decide +kernel)
theorem wf_RX7_161 : Cond.fieldLink RX7 161 "FoundVirtues$Run" "soldBehind" "[I" ∈ TB := tbm 219 (by decide +kernel) (by decide +kernel)
theorem wf_RX4_36 : Cond.fieldLink RX4 36 "FoundVirtues$Run" "taker" "[I" ∈ TB := tbm 220 (by decide +kernel) (by decide +kernel)
theorem wf_RX7_164 : Cond.fieldLink RX7 164 "FoundVirtues$Run" "taker" "[I" ∈ TB := tbm 221 (by decide +kernel) (by decide +kernel)
theorem wf_RX4_39 : Cond.fieldLink RX4 39 "FoundVirtues$Run" "goneWeek" "[I" ∈ TB := tbm 222 (by decide +kernel) (by decide +kernel)
theorem wf_RX7_167 : Cond.fieldLink RX7 167 "FoundVirtues$Run" "goneWeek" "[I" ∈ TB := tbm 223 (by decide +kernel) (by decide +kernel)
theorem wf_RX4_113 : Cond.fieldLink RX4 113 "FoundVirtues$Run" "shelf" "I" ∈ TB := tbm 224 (by decide +kernel) (by decide +kernel)
theorem wf_RX4_116 : Cond.fieldLink RX4 116 "FoundVirtues$Run" "given" "I" ∈ TB := tbm 225 (by decide +kernel) (by decide +kernel)
theorem wf_RX7_267 : Cond.fieldLink RX7 267 "FoundVirtues$Run" "given" "I" ∈ TB := tbm 226 (by decide +kernel) (by decide +kernel)
theorem wf_RX4_119 : Cond.fieldLink RX4 119 "FoundVirtues$Run" "sold" "I" ∈ TB := tbm 227 (by decide +kernel) (by decide +kernel)
theorem wf_RX7_174 : Cond.fieldLink RX7 174 "FoundVirtues$Run" "sold" "I" ∈ TB := tbm 228 (by decide +kernel) (by decide +kernel)
theorem wf_RX4_122 : Cond.fieldLink RX4 122 "FoundVirtues$Run" "served" "J" ∈ TB := tbm 229 (by decide +kernel) (by decide +kernel)
theorem wf_RX7_170 : Cond.fieldLink RX7 170 "FoundVirtues$Run" "served" "J" ∈ TB := tbm 230 (by decide +kernel) (by decide +kernel)
theorem wf_RX4_126 : Cond.fieldLink RX4 126 "FoundVirtues$Run" "saint" "I" ∈ TB := tbm 231 (by decide +kernel) (by decide +kernel)
theorem wf_RX7_180 : Cond.fieldLink RX7 180 "FoundVirtues$Run" "saint" "I" ∈ TB := tbm 232 (by decide +kernel) (by decide +kernel)
theorem wf_RX3_11 : Cond.fieldLink RX3 11 "FoundVirtues$Rows" "best" "[J" ∈ TB := tbm 274 (by decide +kernel) (by decide +kernel)
theorem wf_RX3_48 : Cond.fieldLink RX3 48 "FoundVirtues$Rows" "matched" "J" ∈ TB := tbm 275 (by decide +kernel) (by decide +kernel)
theorem wf_RX7_193 : Cond.fieldLink RX7 193 "FoundVirtues$Rows" "matched" "J" ∈ TB := tbm 276 (by decide +kernel) (by decide +kernel)
theorem wf_RX3_68 : Cond.fieldLink RX3 68 "FoundVirtues$Rows" "paired" "J" ∈ TB := tbm 277 (by decide +kernel) (by decide +kernel)
theorem wf_RX7_246 : Cond.fieldLink RX7 246 "FoundVirtues$Rows" "paired" "J" ∈ TB := tbm 278 (by decide +kernel) (by decide +kernel)
theorem wf_RX5_11 : Cond.fieldLink RX5 11 "FoundVirtues$Sheet" "items" "[I" ∈ TB := tbm 294 (by decide +kernel) (by decide +kernel)
theorem wf_RX7_145 : Cond.fieldLink RX7 145 "FoundVirtues$Sheet" "items" "[I" ∈ TB := tbm 295 (by decide +kernel) (by decide +kernel)
theorem wf_RX5_15 : Cond.fieldLink RX5 15 "FoundVirtues$Sheet" "size" "I" ∈ TB := tbm 296 (by decide +kernel) (by decide +kernel)
theorem wf_RX7_144 : Cond.fieldLink RX7 144 "FoundVirtues$Sheet" "size" "I" ∈ TB := tbm 297 (by decide +kernel) (by decide +kernel)
theorem wf_RX5_19 : Cond.fieldLink RX5 19 "FoundVirtues$Sheet" "form" "I" ∈ TB := tbm 298 (by decide +kernel) (by decide +kernel)
theorem wf_RX7_283 : Cond.fieldLink RX7 283 "FoundVirtues$Sheet" "form" "I" ∈ TB := tbm 299 (by decide +kernel) (by decide +kernel)
theorem wf_RX7_12 : Cond.fieldLink RX7 12 "FoundVirtues" "virtues" "LFoundVirtues$Entries;" ∈ TB := tbm 307 (by decide +kernel) (by decide +kernel)
theorem wf_RX7_18 : Cond.fieldLink RX7 18 "FoundVirtues" "claimants" "LFoundVirtues$Entries;" ∈ TB := tbm 308 (by decide +kernel) (by decide +kernel)
theorem wf_RX7_26 : Cond.fieldLink RX7 26 "FoundVirtues" "office" "LFoundVirtues$Office;" ∈ TB := tbm 309 (by decide +kernel) (by decide +kernel)
theorem wf_RX7_33 : Cond.fieldLink RX7 33 "FoundVirtues" "handings" "LFoundVirtues$Book;" ∈ TB := tbm 310 (by decide +kernel) (by decide +kernel)
theorem wf_RX7_37 : Cond.fieldLink RX7 37 "FoundVirtues" "claims" "LFoundVirtues$Book;" ∈ TB := tbm 311 (by decide +kernel) (by decide +kernel)
theorem wf_RX7_43 : Cond.fieldLink RX7 43 "FoundVirtues" "sightings" "LFoundVirtues$Sightings;" ∈ TB := tbm 312 (by decide +kernel) (by decide +kernel)
theorem wf_RX7_52 : Cond.fieldLink RX7 52 "FoundVirtues" "told" "LFoundVirtues$Run;" ∈ TB := tbm 313 (by decide +kernel) (by decide +kernel)
theorem wf_RX7_56 : Cond.fieldLink RX7 56 "FoundVirtues" "trial" "LFoundVirtues$Run;" ∈ TB := tbm 314 (by decide +kernel) (by decide +kernel)
theorem wf_RX7_62 : Cond.fieldLink RX7 62 "FoundVirtues" "rows" "LFoundVirtues$Rows;" ∈ TB := tbm 315 (by decide +kernel) (by decide +kernel)
theorem wf_RX7_68 : Cond.fieldLink RX7 68 "FoundVirtues" "sheets" "[LFoundVirtues$Sheet;" ∈ TB := tbm 316 (by decide +kernel) (by decide +kernel)
theorem wf_RX7_128 : Cond.fieldLink RX7 128 "FoundVirtues" "toldStands" "Z" ∈ TB := tbm 317 (by decide +kernel) (by decide +kernel)
theorem wf_RX7_377 : Cond.fieldLink RX7 377 "FoundVirtues" "rowsStand" "Z" ∈ TB := tbm 318 (by decide +kernel) (by decide +kernel)
theorem wf_RX7_280 : Cond.fieldLink RX7 280 "FoundVirtues" "latestFinding" "I" ∈ TB := tbm 319 (by decide +kernel) (by decide +kernel)
theorem wm_RX7_73 : Cond.methodLink RX7 73 yX7_outside ∈ TB := tbm 351 (by decide +kernel) (by decide +kernel)
theorem wm_RX7_77 : Cond.methodLink RX7 77 yX7_textOf ∈ TB := tbm 354 (by decide +kernel) (by decide +kernel)
theorem wm_RX7_85 : Cond.methodLink RX7 85 yX1_add ∈ TB := tbm 358 (by decide +kernel) (by decide +kernel)
theorem wm_RX1_29 : Cond.methodLink RX1 29 yX1_takes ∈ TB := tbm 362 (by decide +kernel) (by decide +kernel)
theorem wm_RX1_46 : Cond.methodLink RX1 46 yX1_takesLetter ∈ TB := tbm 366 (by decide +kernel) (by decide +kernel)
theorem wm_RX1_50 : Cond.methodLink RX1 50 yX1_takesFigure ∈ TB := tbm 370 (by decide +kernel) (by decide +kernel)
theorem wm_RX1_36 : Cond.methodLink RX1 36 yX1_countWhole ∈ TB := tbm 374 (by decide +kernel) (by decide +kernel)
theorem wm_RX1_42 : Cond.methodLink RX1 42 yX1_faultPlace ∈ TB := tbm 378 (by decide +kernel) (by decide +kernel)
theorem wm_RX7_89 : Cond.methodLink RX7 89 yX7_textChanged ∈ TB := tbm 382 (by decide +kernel) (by decide +kernel)
theorem wm_RX7_92 : Cond.methodLink RX7 92 yX1_clear ∈ TB := tbm 390 (by decide +kernel) (by decide +kernel)
theorem wm_RX7_95 : Cond.methodLink RX7 95 yX1_dropLast ∈ TB := tbm 398 (by decide +kernel) (by decide +kernel)
theorem wm_RX7_98 : Cond.methodLink RX7 98 yX1_faultPlace ∈ TB := tbm 406 (by decide +kernel) (by decide +kernel)
theorem wm_RX7_102 : Cond.methodLink RX7 102 yX7_noVirtue ∈ TB := tbm 411 (by decide +kernel) (by decide +kernel)
theorem wm_RX7_113 : Cond.methodLink RX7 113 yX7_noClaimant ∈ TB := tbm 419 (by decide +kernel) (by decide +kernel)
theorem wm_RX7_132 : Cond.methodLink RX7 132 yX0_add ∈ TB := tbm 431 (by decide +kernel) (by decide +kernel)
theorem wm_RX7_136 : Cond.methodLink RX7 136 yX5_isLost ∈ TB := tbm 448 (by decide +kernel) (by decide +kernel)
theorem wm_RX7_140 : Cond.methodLink RX7 140 yX7_found ∈ TB := tbm 452 (by decide +kernel) (by decide +kernel)
theorem wm_RX7_148 : Cond.methodLink RX7 148 yX7_claim ∈ TB := tbm 456 (by decide +kernel) (by decide +kernel)
theorem wm_RX7_151 : Cond.methodLink RX7 151 yX7_toldRun ∈ TB := tbm 461 (by decide +kernel) (by decide +kernel)
theorem wm_RX7_253 : Cond.methodLink RX7 253 yX4_load ∈ TB := tbm 465 (by decide +kernel) (by decide +kernel)
theorem wm_RX4_46 : Cond.methodLink RX4 46 yJ7_fill_53178 ∈ TB := tbm 469 (by decide +kernel) (by decide +kernel)
theorem wm_RX4_67 : Cond.methodLink RX4 67 yX2_virtuesFittedBy ∈ TB := tbm 472 (by decide +kernel) (by decide +kernel)
theorem wm_RX2_37 : Cond.methodLink RX2 37 yX2_isFitting ∈ TB := tbm 476 (by decide +kernel) (by decide +kernel)
theorem wm_RX4_71 : Cond.methodLink RX4 71 yX2_saysEnough ∈ TB := tbm 480 (by decide +kernel) (by decide +kernel)
theorem wm_RX2_45 : Cond.methodLink RX2 45 yJ6_bitCount_0f7a4 ∈ TB := tbm 484 (by decide +kernel) (by decide +kernel)
theorem wk_RJ6_265 : Cond.constant RJ6 265 (1431655765) ∈ TB := tbm 487 (by decide +kernel) (by decide +kernel)
theorem wk_RJ6_266 : Cond.constant RJ6 266 (858993459) ∈ TB := tbm 488 (by decide +kernel) (by decide +kernel)
theorem wk_RJ6_267 : Cond.constant RJ6 267 (252645135) ∈ TB := tbm 489 (by decide +kernel) (by decide +kernel)
theorem wm_RX4_86 : Cond.methodLink RX4 86 yX4_hand ∈ TB := tbm 490 (by decide +kernel) (by decide +kernel)
theorem wm_RX4_90 : Cond.methodLink RX4 90 yX4_come ∈ TB := tbm 494 (by decide +kernel) (by decide +kernel)
theorem wm_RX7_264 : Cond.methodLink RX7 264 yX4_play ∈ TB := tbm 498 (by decide +kernel) (by decide +kernel)
theorem wm_RX4_100 : Cond.methodLink RX4 100 yX4_begin ∈ TB := tbm 502 (by decide +kernel) (by decide +kernel)
theorem wm_RX4_103 : Cond.methodLink RX4 103 yX4_bringIn ∈ TB := tbm 506 (by decide +kernel) (by decide +kernel)
theorem wm_RX4_107 : Cond.methodLink RX4 107 yX4_serve ∈ TB := tbm 510 (by decide +kernel) (by decide +kernel)
theorem wm_RX4_129 : Cond.methodLink RX4 129 yX2_leastWorthOf ∈ TB := tbm 514 (by decide +kernel) (by decide +kernel)
theorem wm_RX4_132 : Cond.methodLink RX4 132 yX4_give ∈ TB := tbm 518 (by decide +kernel) (by decide +kernel)
theorem wm_RX4_110 : Cond.methodLink RX4 110 yX4_sell ∈ TB := tbm 522 (by decide +kernel) (by decide +kernel)
theorem wm_RX7_183 : Cond.methodLink RX7 183 yX2_virtuesFittedBy ∈ TB := tbm 546 (by decide +kernel) (by decide +kernel)
theorem wm_RX7_186 : Cond.methodLink RX7 186 yX2_claimantsFitting ∈ TB := tbm 547 (by decide +kernel) (by decide +kernel)
theorem wm_RX7_189 : Cond.methodLink RX7 189 yX7_bestRows ∈ TB := tbm 555 (by decide +kernel) (by decide +kernel)
theorem wm_RX7_380 : Cond.methodLink RX7 380 yX3_findMatch ∈ TB := tbm 559 (by decide +kernel) (by decide +kernel)
theorem wm_RX3_15 : Cond.methodLink RX3 15 yJ7_fill_d0a16 ∈ TB := tbm 563 (by decide +kernel) (by decide +kernel)
theorem wm_RX3_36 : Cond.methodLink RX3 36 yX2_claimantsFitting ∈ TB := tbm 566 (by decide +kernel) (by decide +kernel)
theorem wm_RX3_44 : Cond.methodLink RX3 44 yX3_withOneMore ∈ TB := tbm 567 (by decide +kernel) (by decide +kernel)
theorem wk_RX3_52 : Cond.constantLong RX3 52 (1099511627776) ∈ TB := tbm 571 (by decide +kernel) (by decide +kernel)
theorem wm_RX3_54 : Cond.methodLink RX3 54 yX3_digit ∈ TB := tbm 572 (by decide +kernel) (by decide +kernel)
theorem wm_RX3_58 : Cond.methodLink RX3 58 yJ9_max_f86c9 ∈ TB := tbm 575 (by decide +kernel) (by decide +kernel)
theorem wm_RX7_383 : Cond.methodLink RX7 383 yX3_findPairs ∈ TB := tbm 578 (by decide +kernel) (by decide +kernel)
theorem wm_RX3_64 : Cond.methodLink RX3 64 yX3_firstPaired ∈ TB := tbm 582 (by decide +kernel) (by decide +kernel)
theorem wm_RX3_71 : Cond.methodLink RX3 71 yJ6_numberOfTrailingZeros_0f7a4 ∈ TB := tbm 586 (by decide +kernel) (by decide +kernel)
theorem wk_RJ6_264 : Cond.constant RJ6 264 (65536) ∈ TB := tbm 589 (by decide +kernel) (by decide +kernel)
theorem wm_RX3_79 : Cond.methodLink RX3 79 yJ6_bitCount_0f7a4 ∈ TB := tbm 590 (by decide +kernel) (by decide +kernel)
theorem wm_RX7_196 : Cond.methodLink RX7 196 yX3_countOf ∈ TB := tbm 591 (by decide +kernel) (by decide +kernel)
theorem wm_RX7_200 : Cond.methodLink RX7 200 yX3_worthOf ∈ TB := tbm 594 (by decide +kernel) (by decide +kernel)
theorem wm_RX7_203 : Cond.methodLink RX7 203 yX3_otherOf ∈ TB := tbm 597 (by decide +kernel) (by decide +kernel)
theorem wm_RX7_207 : Cond.methodLink RX7 207 yX2_highOf ∈ TB := tbm 604 (by decide +kernel) (by decide +kernel)
theorem wm_RX7_210 : Cond.methodLink RX7 210 yJ6_bitCount_0f7a4 ∈ TB := tbm 608 (by decide +kernel) (by decide +kernel)
theorem wm_RX7_215 : Cond.methodLink RX7 215 yJ9_max_7cf53 ∈ TB := tbm 609 (by decide +kernel) (by decide +kernel)
theorem wm_RX7_220 : Cond.methodLink RX7 220 yX2_onlyOneSuch ∈ TB := tbm 616 (by decide +kernel) (by decide +kernel)
theorem wm_RX2_53 : Cond.methodLink RX2 53 yX2_alikeIn ∈ TB := tbm 620 (by decide +kernel) (by decide +kernel)
theorem wk_RX7_223 : Cond.constantLong RX7 223 (-9223372036854775806) ∈ TB := tbm 628 (by decide +kernel) (by decide +kernel)
theorem wm_RX7_225 : Cond.methodLink RX7 225 yX2_alikeInOpen ∈ TB := tbm 629 (by decide +kernel) (by decide +kernel)
theorem wm_RX7_228 : Cond.methodLink RX7 228 yX2_mostOfOneKind ∈ TB := tbm 633 (by decide +kernel) (by decide +kernel)
theorem wm_RX2_57 : Cond.methodLink RX2 57 yJ9_max_7cf53 ∈ TB := tbm 637 (by decide +kernel) (by decide +kernel)
theorem wm_RX7_231 : Cond.methodLink RX7 231 yX7_greatestDivisor ∈ TB := tbm 638 (by decide +kernel) (by decide +kernel)
theorem wm_RX7_237 : Cond.methodLink RX7 237 yJ9_min_7cf53 ∈ TB := tbm 641 (by decide +kernel) (by decide +kernel)
theorem wm_RX7_234 : Cond.methodLink RX7 234 yX7_guarded ∈ TB := tbm 648 (by decide +kernel) (by decide +kernel)
theorem wm_RX7_240 : Cond.methodLink RX7 240 yX7_shelfPlace ∈ TB := tbm 656 (by decide +kernel) (by decide +kernel)
theorem wm_RX7_243 : Cond.methodLink RX7 243 yX2_wantedBy ∈ TB := tbm 660 (by decide +kernel) (by decide +kernel)
theorem wm_RX2_41 : Cond.methodLink RX2 41 yX2_claimantsFitting ∈ TB := tbm 664 (by decide +kernel) (by decide +kernel)
theorem wm_RX7_249 : Cond.methodLink RX7 249 yX6_add ∈ TB := tbm 673 (by decide +kernel) (by decide +kernel)
theorem wm_RX7_257 : Cond.methodLink RX7 257 yX7_comesOutSo ∈ TB := tbm 686 (by decide +kernel) (by decide +kernel)
theorem wm_RX7_390 : Cond.methodLink RX7 390 yX4_hand ∈ TB := tbm 690 (by decide +kernel) (by decide +kernel)
theorem wm_RX7_393 : Cond.methodLink RX7 393 yX6_lastWeek ∈ TB := tbm 691 (by decide +kernel) (by decide +kernel)
theorem wm_RX6_29 : Cond.methodLink RX6 29 yJ9_max_7cf53 ∈ TB := tbm 695 (by decide +kernel) (by decide +kernel)
theorem wm_RX7_396 : Cond.methodLink RX7 396 yX6_agreeWith ∈ TB := tbm 696 (by decide +kernel) (by decide +kernel)
theorem wm_RX7_260 : Cond.methodLink RX7 260 yX7_drawLots ∈ TB := tbm 704 (by decide +kernel) (by decide +kernel)
theorem wm_RX7_400 : Cond.methodLink RX7 400 yX7_nextSeed ∈ TB := tbm 708 (by decide +kernel) (by decide +kernel)
theorem wk_RX7_407 : Cond.constant RX7 407 (1103515245) ∈ TB := tbm 711 (by decide +kernel) (by decide +kernel)
theorem wm_RX7_403 : Cond.methodLink RX7 403 yX4_come ∈ TB := tbm 712 (by decide +kernel) (by decide +kernel)
theorem wm_RX7_270 : Cond.methodLink RX7 270 yX5_renew ∈ TB := tbm 717 (by decide +kernel) (by decide +kernel)
theorem wm_RX5_22 : Cond.methodLink RX5 22 yJ7_fill_53178 ∈ TB := tbm 721 (by decide +kernel) (by decide +kernel)
theorem wm_RX7_273 : Cond.methodLink RX7 273 yX5_findingAt ∈ TB := tbm 730 (by decide +kernel) (by decide +kernel)
theorem wm_RX5_28 : Cond.methodLink RX5 28 yX5_isLost ∈ TB := tbm 734 (by decide +kernel) (by decide +kernel)
theorem wm_RX7_276 : Cond.methodLink RX7 276 yX5_store ∈ TB := tbm 736 (by decide +kernel) (by decide +kernel)
theorem wk_RX7_279 : Cond.constant RX7 279 (-2147483648) ∈ TB := tbm 744 (by decide +kernel) (by decide +kernel)
theorem wm_RX7_286 : Cond.methodLink RX7 286 yX5_hasRange ∈ TB := tbm 749 (by decide +kernel) (by decide +kernel)
theorem wm_RX7_289 : Cond.methodLink RX7 289 arraycopyName ∈ TB := tbm 753 (by decide +kernel) (by decide +kernel)
theorem wm_RX7_295 : Cond.methodLink RX7 295 yX2_worthOfAll ∈ TB := tbm 764 (by decide +kernel) (by decide +kernel)
theorem wk_RX7_298 : Cond.constantLong RX7 298 (17) ∈ TB := tbm 772 (by decide +kernel) (by decide +kernel)
theorem wm_RX7_300 : Cond.methodLink RX7 300 yX7_count ∈ TB := tbm 773 (by decide +kernel) (by decide +kernel)
theorem wm_RX7_303 : Cond.methodLink RX7 303 yX7_mixed ∈ TB := tbm 774 (by decide +kernel) (by decide +kernel)
theorem wk_RX7_324 : Cond.constantLong RX7 324 (31) ∈ TB := tbm 777 (by decide +kernel) (by decide +kernel)
theorem wm_RX7_307 : Cond.methodLink RX7 307 yX7_fault ∈ TB := tbm 778 (by decide +kernel) (by decide +kernel)
theorem wm_RX7_310 : Cond.methodLink RX7 310 yX7_virtueMixed ∈ TB := tbm 779 (by decide +kernel) (by decide +kernel)
theorem wm_RX7_326 : Cond.methodLink RX7 326 yX7_virtue ∈ TB := tbm 783 (by decide +kernel) (by decide +kernel)
theorem wm_RX7_329 : Cond.methodLink RX7 329 yX7_gone ∈ TB := tbm 784 (by decide +kernel) (by decide +kernel)
theorem wm_RX7_332 : Cond.methodLink RX7 332 yX7_fitting ∈ TB := tbm 785 (by decide +kernel) (by decide +kernel)
theorem wm_RX7_335 : Cond.methodLink RX7 335 yX7_match ∈ TB := tbm 786 (by decide +kernel) (by decide +kernel)
theorem wm_RX7_338 : Cond.methodLink RX7 338 yX7_lie ∈ TB := tbm 787 (by decide +kernel) (by decide +kernel)
theorem wm_RX7_341 : Cond.methodLink RX7 341 yX7_guess ∈ TB := tbm 788 (by decide +kernel) (by decide +kernel)
theorem wm_RX7_345 : Cond.methodLink RX7 345 yX7_together ∈ TB := tbm 789 (by decide +kernel) (by decide +kernel)
theorem wm_RX7_348 : Cond.methodLink RX7 348 yX7_when ∈ TB := tbm 790 (by decide +kernel) (by decide +kernel)
theorem wm_RX7_314 : Cond.methodLink RX7 314 yX7_claimantMixed ∈ TB := tbm 791 (by decide +kernel) (by decide +kernel)
theorem wm_RX7_351 : Cond.methodLink RX7 351 yX7_claimant ∈ TB := tbm 795 (by decide +kernel) (by decide +kernel)
theorem wm_RX7_354 : Cond.methodLink RX7 354 yX7_ask ∈ TB := tbm 796 (by decide +kernel) (by decide +kernel)
theorem wm_RX7_317 : Cond.methodLink RX7 317 yX7_weekMixed ∈ TB := tbm 797 (by decide +kernel) (by decide +kernel)
theorem wm_RX7_357 : Cond.methodLink RX7 357 yX7_behind ∈ TB := tbm 801 (by decide +kernel) (by decide +kernel)
theorem wm_RX7_320 : Cond.methodLink RX7 320 yX7_wholeMixed ∈ TB := tbm 802 (by decide +kernel) (by decide +kernel)
theorem wm_RX7_360 : Cond.methodLink RX7 360 yX7_empty ∈ TB := tbm 806 (by decide +kernel) (by decide +kernel)
theorem wm_RX7_363 : Cond.methodLink RX7 363 yX7_sale ∈ TB := tbm 807 (by decide +kernel) (by decide +kernel)
theorem wm_RX7_366 : Cond.methodLink RX7 366 yX7_saint ∈ TB := tbm 808 (by decide +kernel) (by decide +kernel)
theorem wm_RX7_368 : Cond.methodLink RX7 368 yX7_guard ∈ TB := tbm 809 (by decide +kernel) (by decide +kernel)
theorem wm_RX7_371 : Cond.methodLink RX7 371 yX7_shelves ∈ TB := tbm 810 (by decide +kernel) (by decide +kernel)
theorem wm_RX7_374 : Cond.methodLink RX7 374 yX7_weeks ∈ TB := tbm 811 (by decide +kernel) (by decide +kernel)
theorem wf_RX8_7 : Cond.fieldLink RX8 7 "FoundVirtuesModel" "typed" "[I" ∈ TB := tbm 818 (by decide +kernel) (by decide +kernel)
theorem wf_RX8_13 : Cond.fieldLink RX8 13 "FoundVirtuesModel" "texts" "[I" ∈ TB := tbm 819 (by decide +kernel) (by decide +kernel)
theorem wf_RX8_106 : Cond.fieldLink RX8 106 "FoundVirtuesModel" "virtues" "I" ∈ TB := tbm 820 (by decide +kernel) (by decide +kernel)
theorem wf_RX8_16 : Cond.fieldLink RX8 16 "FoundVirtuesModel" "marks" "[I" ∈ TB := tbm 821 (by decide +kernel) (by decide +kernel)
theorem wf_RX8_19 : Cond.fieldLink RX8 19 "FoundVirtuesModel" "worths" "[I" ∈ TB := tbm 822 (by decide +kernel) (by decide +kernel)
theorem wf_RX8_109 : Cond.fieldLink RX8 109 "FoundVirtuesModel" "claimants" "I" ∈ TB := tbm 823 (by decide +kernel) (by decide +kernel)
theorem wf_RX8_22 : Cond.fieldLink RX8 22 "FoundVirtuesModel" "says" "[I" ∈ TB := tbm 824 (by decide +kernel) (by decide +kernel)
theorem wf_RX8_25 : Cond.fieldLink RX8 25 "FoundVirtuesModel" "saysHigh" "[I" ∈ TB := tbm 825 (by decide +kernel) (by decide +kernel)
theorem wf_RX8_28 : Cond.fieldLink RX8 28 "FoundVirtuesModel" "riches" "[I" ∈ TB := tbm 826 (by decide +kernel) (by decide +kernel)
theorem wf_RX8_89 : Cond.fieldLink RX8 89 "FoundVirtuesModel" "enough" "I" ∈ TB := tbm 827 (by decide +kernel) (by decide +kernel)
theorem wf_RX8_136 : Cond.fieldLink RX8 136 "FoundVirtuesModel" "secret" "I" ∈ TB := tbm 828 (by decide +kernel) (by decide +kernel)
theorem wf_RX8_93 : Cond.fieldLink RX8 93 "FoundVirtuesModel" "kept" "I" ∈ TB := tbm 829 (by decide +kernel) (by decide +kernel)
theorem wf_RX8_145 : Cond.fieldLink RX8 145 "FoundVirtuesModel" "handings" "I" ∈ TB := tbm 830 (by decide +kernel) (by decide +kernel)
theorem wf_RX8_31 : Cond.fieldLink RX8 31 "FoundVirtuesModel" "handWeek" "[I" ∈ TB := tbm 831 (by decide +kernel) (by decide +kernel)
theorem wf_RX8_34 : Cond.fieldLink RX8 34 "FoundVirtuesModel" "handVirtue" "[I" ∈ TB := tbm 832 (by decide +kernel) (by decide +kernel)
theorem wf_RX8_148 : Cond.fieldLink RX8 148 "FoundVirtuesModel" "claims" "I" ∈ TB := tbm 833 (by decide +kernel) (by decide +kernel)
theorem wf_RX8_37 : Cond.fieldLink RX8 37 "FoundVirtuesModel" "claimWeek" "[I" ∈ TB := tbm 834 (by decide +kernel) (by decide +kernel)
theorem wf_RX8_40 : Cond.fieldLink RX8 40 "FoundVirtuesModel" "claimOf" "[I" ∈ TB := tbm 835 (by decide +kernel) (by decide +kernel)
theorem wf_RX8_43 : Cond.fieldLink RX8 43 "FoundVirtuesModel" "cameIn" "[I" ∈ TB := tbm 836 (by decide +kernel) (by decide +kernel)
theorem wf_RX8_46 : Cond.fieldLink RX8 46 "FoundVirtuesModel" "goneIn" "[I" ∈ TB := tbm 837 (by decide +kernel) (by decide +kernel)
theorem wf_RX8_49 : Cond.fieldLink RX8 49 "FoundVirtuesModel" "goneTo" "[I" ∈ TB := tbm 838 (by decide +kernel) (by decide +kernel)
theorem wf_RX8_170 : Cond.fieldLink RX8 170 "FoundVirtuesModel" "emptyBits" "I" ∈ TB := tbm 839 (by decide +kernel) (by decide +kernel)
theorem wf_RX8_173 : Cond.fieldLink RX8 173 "FoundVirtuesModel" "saintNow" "I" ∈ TB := tbm 840 (by decide +kernel) (by decide +kernel)
theorem wf_RX8_52 : Cond.fieldLink RX8 52 "FoundVirtuesModel" "matches" "[I" ∈ TB := tbm 841 (by decide +kernel) (by decide +kernel)
theorem wf_RX8_55 : Cond.fieldLink RX8 55 "FoundVirtuesModel" "matchOf" "[I" ∈ TB := tbm 842 (by decide +kernel) (by decide +kernel)
theorem wf_RX8_58 : Cond.fieldLink RX8 58 "FoundVirtuesModel" "pairs" "[I" ∈ TB := tbm 843 (by decide +kernel) (by decide +kernel)
theorem wf_RX8_61 : Cond.fieldLink RX8 61 "FoundVirtuesModel" "pairOf" "[I" ∈ TB := tbm 844 (by decide +kernel) (by decide +kernel)
theorem wf_RX8_254 : Cond.fieldLink RX8 254 "FoundVirtuesModel" "seens" "I" ∈ TB := tbm 845 (by decide +kernel) (by decide +kernel)
theorem wf_RX8_64 : Cond.fieldLink RX8 64 "FoundVirtuesModel" "seenWeek" "[I" ∈ TB := tbm 846 (by decide +kernel) (by decide +kernel)
theorem wf_RX8_67 : Cond.fieldLink RX8 67 "FoundVirtuesModel" "seenVirtue" "[I" ∈ TB := tbm 847 (by decide +kernel) (by decide +kernel)
theorem wf_RX8_70 : Cond.fieldLink RX8 70 "FoundVirtuesModel" "seenIs" "[I" ∈ TB := tbm 848 (by decide +kernel) (by decide +kernel)
theorem wf_RX8_73 : Cond.fieldLink RX8 73 "FoundVirtuesModel" "isThere" "[Z" ∈ TB := tbm 849 (by decide +kernel) (by decide +kernel)
theorem wf_RX8_77 : Cond.fieldLink RX8 77 "FoundVirtuesModel" "forms" "[I" ∈ TB := tbm 850 (by decide +kernel) (by decide +kernel)
theorem wf_RX8_80 : Cond.fieldLink RX8 80 "FoundVirtuesModel" "sizes" "[I" ∈ TB := tbm 851 (by decide +kernel) (by decide +kernel)
theorem wf_RX8_83 : Cond.fieldLink RX8 83 "FoundVirtuesModel" "items" "[I" ∈ TB := tbm 852 (by decide +kernel) (by decide +kernel)
theorem wf_RX8_86 : Cond.fieldLink RX8 86 "FoundVirtuesModel" "moved" "[I" ∈ TB := tbm 853 (by decide +kernel) (by decide +kernel)
theorem wf_RX8_264 : Cond.fieldLink RX8 264 "FoundVirtuesModel" "finding" "I" ∈ TB := tbm 854 (by decide +kernel) (by decide +kernel)
theorem wm_RX8_102 : Cond.methodLink RX8 102 yX8_isText ∈ TB := tbm 935 (by decide +kernel) (by decide +kernel)
theorem wm_RX8_98 : Cond.methodLink RX8 98 yX8_in ∈ TB := tbm 938 (by decide +kernel) (by decide +kernel)
theorem wm_RX8_120 : Cond.methodLink RX8 120 yX8_faultOf ∈ TB := tbm 953 (by decide +kernel) (by decide +kernel)
theorem wm_RX8_116 : Cond.methodLink RX8 116 yX8_readsText ∈ TB := tbm 957 (by decide +kernel) (by decide +kernel)
theorem wm_RX8_112 : Cond.methodLink RX8 112 yX8_readsOne ∈ TB := tbm 961 (by decide +kernel) (by decide +kernel)
theorem wm_RX8_126 : Cond.methodLink RX8 126 yX8_isVirtue ∈ TB := tbm 969 (by decide +kernel) (by decide +kernel)
theorem wm_RX8_123 : Cond.methodLink RX8 123 yX8_reads ∈ TB := tbm 973 (by decide +kernel) (by decide +kernel)
theorem wm_RX8_129 : Cond.methodLink RX8 129 yX8_isClaimant ∈ TB := tbm 981 (by decide +kernel) (by decide +kernel)
theorem wm_RX8_132 : Cond.methodLink RX8 132 yX8_claimantOf ∈ TB := tbm 985 (by decide +kernel) (by decide +kernel)
theorem wm_RX8_139 : Cond.methodLink RX8 139 yX8_isWeek ∈ TB := tbm 997 (by decide +kernel) (by decide +kernel)
theorem wm_RX8_142 : Cond.methodLink RX8 142 yX8_isEight ∈ TB := tbm 1000 (by decide +kernel) (by decide +kernel)
theorem wm_RX8_151 : Cond.methodLink RX8 151 yX8_isSheet ∈ TB := tbm 1015 (by decide +kernel) (by decide +kernel)
theorem wm_RX8_154 : Cond.methodLink RX8 154 yX8_meets ∈ TB := tbm 1018 (by decide +kernel) (by decide +kernel)
theorem wm_RX8_157 : Cond.methodLink RX8 157 yX8_claim ∈ TB := tbm 1022 (by decide +kernel) (by decide +kernel)
theorem wm_RX8_194 : Cond.methodLink RX8 194 yX8_behindOf ∈ TB := tbm 1027 (by decide +kernel) (by decide +kernel)
theorem wm_RX8_187 : Cond.methodLink RX8 187 yX8_runsTo ∈ TB := tbm 1031 (by decide +kernel) (by decide +kernel)
theorem wm_RX8_183 : Cond.methodLink RX8 183 yX8_runs ∈ TB := tbm 1035 (by decide +kernel) (by decide +kernel)
theorem wm_RX8_179 : Cond.methodLink RX8 179 yX8_comes ∈ TB := tbm 1039 (by decide +kernel) (by decide +kernel)
theorem wm_RX8_167 : Cond.methodLink RX8 167 yX8_givenTo ∈ TB := tbm 1043 (by decide +kernel) (by decide +kernel)
theorem wm_RX8_160 : Cond.methodLink RX8 160 yX8_fits ∈ TB := tbm 1047 (by decide +kernel) (by decide +kernel)
theorem wm_RX8_164 : Cond.methodLink RX8 164 yX8_ones ∈ TB := tbm 1051 (by decide +kernel) (by decide +kernel)
theorem wm_RX8_176 : Cond.methodLink RX8 176 yX8_fitsGone ∈ TB := tbm 1054 (by decide +kernel) (by decide +kernel)
theorem wm_RX8_191 : Cond.methodLink RX8 191 yX8_bitsNow ∈ TB := tbm 1058 (by decide +kernel) (by decide +kernel)
theorem wm_RX8_197 : Cond.methodLink RX8 197 yX8_goneOf ∈ TB := tbm 1066 (by decide +kernel) (by decide +kernel)
theorem wm_RX8_200 : Cond.methodLink RX8 200 yX8_emptyNow ∈ TB := tbm 1074 (by decide +kernel) (by decide +kernel)
theorem wm_RX8_207 : Cond.methodLink RX8 207 yX8_saleNow ∈ TB := tbm 1082 (by decide +kernel) (by decide +kernel)
theorem wm_RX8_204 : Cond.methodLink RX8 204 yX8_isIn ∈ TB := tbm 1086 (by decide +kernel) (by decide +kernel)
theorem wm_RX8_210 : Cond.methodLink RX8 210 yX8_saintOf ∈ TB := tbm 1093 (by decide +kernel) (by decide +kernel)
theorem wm_RX8_213 : Cond.methodLink RX8 213 yX8_fittingOf ∈ TB := tbm 1101 (by decide +kernel) (by decide +kernel)
theorem wm_RX8_219 : Cond.methodLink RX8 219 yX8_matchAt ∈ TB := tbm 1109 (by decide +kernel) (by decide +kernel)
theorem wm_RX8_216 : Cond.methodLink RX8 216 yX8_laysMatch ∈ TB := tbm 1113 (by decide +kernel) (by decide +kernel)
theorem wm_RX8_222 : Cond.methodLink RX8 222 yX8_askOf ∈ TB := tbm 1121 (by decide +kernel) (by decide +kernel)
theorem wm_RX8_225 : Cond.methodLink RX8 225 yX8_lieOf ∈ TB := tbm 1129 (by decide +kernel) (by decide +kernel)
theorem wm_RX8_228 : Cond.methodLink RX8 228 yX8_guessBy ∈ TB := tbm 1137 (by decide +kernel) (by decide +kernel)
theorem wm_RX8_231 : Cond.methodLink RX8 231 yX8_lowest ∈ TB := tbm 1141 (by decide +kernel) (by decide +kernel)
theorem wm_RX8_235 : Cond.methodLink RX8 235 yX8_no ∈ TB := tbm 1144 (by decide +kernel) (by decide +kernel)
theorem wk_RX8_96 : Cond.constantLong RX8 96 (-9223372036854775808) ∈ TB := tbm 1147 (by decide +kernel) (by decide +kernel)
theorem wm_RX8_239 : Cond.methodLink RX8 239 yX8_guardOf ∈ TB := tbm 1152 (by decide +kernel) (by decide +kernel)
theorem wm_RX8_242 : Cond.methodLink RX8 242 yX8_shelvesOf ∈ TB := tbm 1160 (by decide +kernel) (by decide +kernel)
theorem wm_RX8_251 : Cond.methodLink RX8 251 yX8_togetherOf ∈ TB := tbm 1168 (by decide +kernel) (by decide +kernel)
theorem wm_RX8_248 : Cond.methodLink RX8 248 yX8_laysPairs ∈ TB := tbm 1172 (by decide +kernel) (by decide +kernel)
theorem wm_RX8_245 : Cond.methodLink RX8 245 yX8_arePair ∈ TB := tbm 1176 (by decide +kernel) (by decide +kernel)
theorem wm_RX8_257 : Cond.methodLink RX8 257 yX8_whenOf ∈ TB := tbm 1192 (by decide +kernel) (by decide +kernel)
theorem wm_RX8_261 : Cond.methodLink RX8 261 yX8_weeksOf ∈ TB := tbm 1200 (by decide +kernel) (by decide +kernel)
theorem wk_RX8_260 : Cond.constant RX8 260 (1103515245) ∈ TB := tbm 1204 (by decide +kernel) (by decide +kernel)
theorem wm_RX8_267 : Cond.methodLink RX8 267 yX8_lacks ∈ TB := tbm 1217 (by decide +kernel) (by decide +kernel)
theorem wm_RX8_270 : Cond.methodLink RX8 270 yX8_keep ∈ TB := tbm 1221 (by decide +kernel) (by decide +kernel)
theorem wk_RX8_273 : Cond.constant RX8 273 (-2147483648) ∈ TB := tbm 1229 (by decide +kernel) (by decide +kernel)
theorem wm_RX8_274 : Cond.methodLink RX8 274 yX8_sumOf ∈ TB := tbm 1242 (by decide +kernel) (by decide +kernel)
theorem wk_RX8_283 : Cond.constantLong RX8 283 (17) ∈ TB := tbm 1250 (by decide +kernel) (by decide +kernel)
theorem wk_RX8_277 : Cond.constantLong RX8 277 (31) ∈ TB := tbm 1251 (by decide +kernel) (by decide +kernel)
theorem wm_RX8_285 : Cond.methodLink RX8 285 yX8_count ∈ TB := tbm 1252 (by decide +kernel) (by decide +kernel)
theorem wm_RX8_288 : Cond.methodLink RX8 288 yX8_virtueDigest ∈ TB := tbm 1253 (by decide +kernel) (by decide +kernel)
theorem wm_RX8_279 : Cond.methodLink RX8 279 yX8_guess ∈ TB := tbm 1257 (by decide +kernel) (by decide +kernel)
theorem wm_RX8_292 : Cond.methodLink RX8 292 yX8_weekDigest ∈ TB := tbm 1258 (by decide +kernel) (by decide +kernel)
theorem wn_RX4_94 : Cond.fieldLinkNest RX4 94 "FoundVirtues$Office" "virtues" "LFoundVirtues$Entries;" "FoundVirtues" ∈ nestW := List.mem_of_getElem? (i := 0) (by decide +kernel)
theorem wn_RX3_33 : Cond.fieldLinkNest RX3 33 "FoundVirtues$Office" "virtues" "LFoundVirtues$Entries;" "FoundVirtues" ∈ nestW := List.mem_of_getElem? (i := 1) (by decide +kernel)
theorem wn_RX4_56 : Cond.fieldLinkNest RX4 56 "FoundVirtues$Office" "claimants" "LFoundVirtues$Entries;" "FoundVirtues" ∈ nestW := List.mem_of_getElem? (i := 2) (by decide +kernel)
theorem wn_RX3_21 : Cond.fieldLinkNest RX3 21 "FoundVirtues$Office" "claimants" "LFoundVirtues$Entries;" "FoundVirtues" ∈ nestW := List.mem_of_getElem? (i := 3) (by decide +kernel)
theorem wn_RX7_32 : Cond.methodLinkNest RX7 32 yX0_init "FoundVirtues" ∈ nestW := List.mem_of_getElem? (i := 4) (by decide +kernel)
theorem wn_RX7_42 : Cond.methodLinkNest RX7 42 yX6_init "FoundVirtues" ∈ nestW := List.mem_of_getElem? (i := 5) (by decide +kernel)
theorem wn_RX7_61 : Cond.methodLinkNest RX7 61 yX3_init "FoundVirtues" ∈ nestW := List.mem_of_getElem? (i := 6) (by decide +kernel)
theorem wn_RX7_72 : Cond.methodLinkNest RX7 72 yX5_init "FoundVirtues" ∈ nestW := List.mem_of_getElem? (i := 7) (by decide +kernel)
theorem wn_RX0_18 : Cond.methodLinkNest RX0 18 yX7_outside "FoundVirtues" ∈ nestW := List.mem_of_getElem? (i := 8) (by decide +kernel)
theorem wn_RX6_21 : Cond.methodLinkNest RX6 21 yX7_outside "FoundVirtues" ∈ nestW := List.mem_of_getElem? (i := 9) (by decide +kernel)
theorem wn_RX5_32 : Cond.methodLinkNest RX5 32 yX7_outside "FoundVirtues" ∈ nestW := List.mem_of_getElem? (i := 10) (by decide +kernel)
theorem wcp_1 : Cond.native arraycopyName ∈ TB := tbm 755 (by decide +kernel) (by decide +kernel)
theorem wcp_2 : Cond.static arraycopyName ∈ TB := tbm 754 (by decide +kernel) (by decide +kernel)
theorem wcp_3 : Cond.initialized "java/lang/System" ∈ TB := tbm 79 (by decide +kernel) (by decide +kernel)
theorem kX_0 : kd false 0 = KX7 := rfl
theorem kX_1 : kd false 1 = KX1 := rfl
theorem kX_2 : kd false 2 = (1, 8, []) := rfl
theorem kX_3 : kd false 3 = (1, 8, []) := rfl
theorem kX_4 : kd false 4 = (1, 8, []) := rfl
theorem kX_5 : kd false 5 = KX1 := rfl
theorem kX_6 : kd false 6 = (1, 8, []) := rfl
theorem kX_7 : kd false 7 = (1, 8, []) := rfl
theorem kX_8 : kd false 8 = (1, 8, []) := rfl
theorem kX_9 : kd false 9 = KX2 := rfl
theorem kX_10 : kd false 10 = KX0 := rfl
theorem kX_11 : kd false 11 = (1, 12, []) := rfl
theorem kX_12 : kd false 12 = (1, 12, []) := rfl
theorem kX_13 : kd false 13 = KX0 := rfl
theorem kX_14 : kd false 14 = (1, 12, []) := rfl
theorem kX_15 : kd false 15 = (1, 12, []) := rfl
theorem kX_16 : kd false 16 = KX6 := rfl
theorem kX_17 : kd false 17 = (1, 8, []) := rfl
theorem kX_18 : kd false 18 = (1, 8, []) := rfl
theorem kX_19 : kd false 19 = (1, 8, []) := rfl
theorem kX_20 : kd false 20 = KX4 := rfl
theorem kX_21 : kd false 21 = (1, 40, []) := rfl
theorem kX_22 : kd false 22 = (1, 52, []) := rfl
theorem kX_23 : kd false 23 = (1, 8, []) := rfl
theorem kX_24 : kd false 24 = (1, 8, []) := rfl
theorem kX_25 : kd false 25 = (1, 40, []) := rfl
theorem kX_26 : kd false 26 = (1, 40, []) := rfl
theorem kX_27 : kd false 27 = (1, 40, []) := rfl
theorem kX_28 : kd false 28 = (1, 40, []) := rfl
theorem kX_29 : kd false 29 = (1, 8, []) := rfl
theorem kX_30 : kd false 30 = (1, 8, []) := rfl
theorem kX_31 : kd false 31 = KX4 := rfl
theorem kX_32 : kd false 32 = (1, 40, []) := rfl
theorem kX_33 : kd false 33 = (1, 52, []) := rfl
theorem kX_34 : kd false 34 = (1, 8, []) := rfl
theorem kX_35 : kd false 35 = (1, 8, []) := rfl
theorem kX_36 : kd false 36 = (1, 40, []) := rfl
theorem kX_37 : kd false 37 = (1, 40, []) := rfl
theorem kX_38 : kd false 38 = (1, 40, []) := rfl
theorem kX_39 : kd false 39 = (1, 40, []) := rfl
theorem kX_40 : kd false 40 = (1, 8, []) := rfl
theorem kX_41 : kd false 41 = (1, 8, []) := rfl
theorem kX_42 : kd false 42 = KX3 := rfl
theorem kX_43 : kd false 43 = (3, 256, []) := rfl
theorem kX_44 : kd false 44 = (4, 4, [(45, 2)]) := rfl
theorem kX_45 : kd false 45 = KX5 := rfl
theorem kX_46 : kd false 46 = (1, 48, []) := rfl
theorem kX_47 : kd false 47 = KX5 := rfl
theorem kX_48 : kd false 48 = (1, 48, []) := rfl
theorem kX_49 : kd false 49 = KX5 := rfl
theorem kX_50 : kd false 50 = (1, 48, []) := rfl
theorem kX_51 : kd false 51 = KX5 := rfl
theorem kX_52 : kd false 52 = (1, 48, []) := rfl
theorem kM_0 : kd true 0 = KX8 := rfl
theorem kM_1 : kd true 1 = (1, 2, []) := rfl
theorem kM_2 : kd true 2 = (1, 94, []) := rfl
theorem kM_3 : kd true 3 = (1, 9, []) := rfl
theorem kM_4 : kd true 4 = (1, 9, []) := rfl
theorem kM_5 : kd true 5 = (1, 9, []) := rfl
theorem kM_6 : kd true 6 = (1, 9, []) := rfl
theorem kM_7 : kd true 7 = (1, 9, []) := rfl
theorem kM_8 : kd true 8 = (1, 52, []) := rfl
theorem kM_9 : kd true 9 = (1, 52, []) := rfl
theorem kM_10 : kd true 10 = (1, 52, []) := rfl
theorem kM_11 : kd true 11 = (1, 52, []) := rfl
theorem kM_12 : kd true 12 = (1, 8, []) := rfl
theorem kM_13 : kd true 13 = (1, 8, []) := rfl
theorem kM_14 : kd true 14 = (1, 8, []) := rfl
theorem kM_15 : kd true 15 = (1, 2304, []) := rfl
theorem kM_16 : kd true 16 = (1, 8, []) := rfl
theorem kM_17 : kd true 17 = (1, 256, []) := rfl
theorem kM_18 : kd true 18 = (1, 8, []) := rfl
theorem kM_19 : kd true 19 = (1, 8, []) := rfl
theorem kM_20 : kd true 20 = (1, 8, []) := rfl
theorem kM_21 : kd true 21 = (1, 8, []) := rfl
theorem kM_22 : kd true 22 = (2, 4, []) := rfl
theorem kM_23 : kd true 23 = (1, 4, []) := rfl
theorem kM_24 : kd true 24 = (1, 4, []) := rfl
theorem kM_25 : kd true 25 = (1, 192, []) := rfl
theorem kM_26 : kd true 26 = (1, 48, []) := rfl
theorem rlX0_0 {t : Nat} (h : kd false t = KX0) : kd false (t + 1) = (1, 12, []) := by
  have hl : t < 53 := kd_lt (sp := false) (by rw [h]; decide)
  revert h
  revert t
  decide +kernel
theorem rlX0_1 {t : Nat} (h : kd false t = KX0) : kd false (t + 2) = (1, 12, []) := by
  have hl : t < 53 := kd_lt (sp := false) (by rw [h]; decide)
  revert h
  revert t
  decide +kernel
theorem rlX1_1 {t : Nat} (h : kd false t = KX1) : kd false (t + 1) = (1, 8, []) := by
  have hl : t < 53 := kd_lt (sp := false) (by rw [h]; decide)
  revert h
  revert t
  decide +kernel
theorem rlX1_2 {t : Nat} (h : kd false t = KX1) : kd false (t + 2) = (1, 8, []) := by
  have hl : t < 53 := kd_lt (sp := false) (by rw [h]; decide)
  revert h
  revert t
  decide +kernel
theorem rlX1_3 {t : Nat} (h : kd false t = KX1) : kd false (t + 3) = (1, 8, []) := by
  have hl : t < 53 := kd_lt (sp := false) (by rw [h]; decide)
  revert h
  revert t
  decide +kernel
theorem rlX3_0 {t : Nat} (h : kd false t = KX3) : kd false (t + 1) = (3, 256, []) := by
  have hl : t < 53 := kd_lt (sp := false) (by rw [h]; decide)
  revert h
  revert t
  decide +kernel
theorem rlX4_1 {t : Nat} (h : kd false t = KX4) : kd false (t + 1) = (1, 40, []) := by
  have hl : t < 53 := kd_lt (sp := false) (by rw [h]; decide)
  revert h
  revert t
  decide +kernel
theorem rlX4_2 {t : Nat} (h : kd false t = KX4) : kd false (t + 2) = (1, 52, []) := by
  have hl : t < 53 := kd_lt (sp := false) (by rw [h]; decide)
  revert h
  revert t
  decide +kernel
theorem rlX4_4 {t : Nat} (h : kd false t = KX4) : kd false (t + 3) = (1, 8, []) := by
  have hl : t < 53 := kd_lt (sp := false) (by rw [h]; decide)
  revert h
  revert t
  decide +kernel
theorem rlX4_5 {t : Nat} (h : kd false t = KX4) : kd false (t + 4) = (1, 8, []) := by
  have hl : t < 53 := kd_lt (sp := false) (by rw [h]; decide)
  revert h
  revert t
  decide +kernel
theorem rlX4_6 {t : Nat} (h : kd false t = KX4) : kd false (t + 5) = (1, 40, []) := by
  have hl : t < 53 := kd_lt (sp := false) (by rw [h]; decide)
  revert h
  revert t
  decide +kernel
theorem rlX4_7 {t : Nat} (h : kd false t = KX4) : kd false (t + 6) = (1, 40, []) := by
  have hl : t < 53 := kd_lt (sp := false) (by rw [h]; decide)
  revert h
  revert t
  decide +kernel
theorem rlX4_8 {t : Nat} (h : kd false t = KX4) : kd false (t + 7) = (1, 40, []) := by
  have hl : t < 53 := kd_lt (sp := false) (by rw [h]; decide)
  revert h
  revert t
  decide +kernel
theorem rlX4_9 {t : Nat} (h : kd false t = KX4) : kd false (t + 8) = (1, 40, []) := by
  have hl : t < 53 := kd_lt (sp := false) (by rw [h]; decide)
  revert h
  revert t
  decide +kernel
theorem rlX4_10 {t : Nat} (h : kd false t = KX4) : kd false (t + 9) = (1, 8, []) := by
  have hl : t < 53 := kd_lt (sp := false) (by rw [h]; decide)
  revert h
  revert t
  decide +kernel
theorem rlX4_11 {t : Nat} (h : kd false t = KX4) : kd false (t + 10) = (1, 8, []) := by
  have hl : t < 53 := kd_lt (sp := false) (by rw [h]; decide)
  revert h
  revert t
  decide +kernel
theorem rlX5_0 {t : Nat} (h : kd false t = KX5) : kd false (t + 1) = (1, 48, []) := by
  have hl : t < 53 := kd_lt (sp := false) (by rw [h]; decide)
  revert h
  revert t
  decide +kernel
theorem rlX6_0 {t : Nat} (h : kd false t = KX6) : kd false (t + 1) = (1, 8, []) := by
  have hl : t < 53 := kd_lt (sp := false) (by rw [h]; decide)
  revert h
  revert t
  decide +kernel
theorem rlX6_1 {t : Nat} (h : kd false t = KX6) : kd false (t + 2) = (1, 8, []) := by
  have hl : t < 53 := kd_lt (sp := false) (by rw [h]; decide)
  revert h
  revert t
  decide +kernel
theorem rlX6_2 {t : Nat} (h : kd false t = KX6) : kd false (t + 3) = (1, 8, []) := by
  have hl : t < 53 := kd_lt (sp := false) (by rw [h]; decide)
  revert h
  revert t
  decide +kernel
section FieldRows
variable {sp : Bool} {Y : MI} {M : MC} {Z : Option Value × Sg} {pc : Nat} {lv : List (Option Value)} {st : List Value} {z : Sg}
theorem gtX0_0 (hE : OK sp Y M) {t i : Nat} (hk : kd sp t = KX0) (hw : Cond.fieldLink Y.1 i "FoundVirtues$Book" "week" "[I" ∈ TB) (hdg : decode Y.2.2.1 pc = .ok (.getfield i, 3)) (kk : G sp Y M Z (pc + 3) lv (.ref (t + 1) :: st) z) : G sp Y M Z pc lv (.ref t :: st) z := g_get (T := TX0) (k := 0) (v := .ref (t + 1)) hE hk rfl inX0 (by decide) hw rfl rfl hdg kk
theorem gtX0_1 (hE : OK sp Y M) {t i : Nat} (hk : kd sp t = KX0) (hw : Cond.fieldLink Y.1 i "FoundVirtues$Book" "who" "[I" ∈ TB) (hdg : decode Y.2.2.1 pc = .ok (.getfield i, 3)) (kk : G sp Y M Z (pc + 3) lv (.ref (t + 2) :: st) z) : G sp Y M Z pc lv (.ref t :: st) z := g_get (T := TX0) (k := 1) (v := .ref (t + 2)) hE hk rfl inX0 (by decide) hw rfl rfl hdg kk
theorem gtX0_2 (hE : OK sp Y M) {t i : Nat} (hk : kd sp t = KX0) (hw : Cond.fieldLink Y.1 i "FoundVirtues$Book" "size" "I" ∈ TB) (hdg : decode Y.2.2.1 pc = .ok (.getfield i, 3)) (kk : G sp Y M Z (pc + 3) lv (.int (rI z t 2) :: st) z) : G sp Y M Z pc lv (.ref t :: st) z := g_get (T := TX0) (k := 2) (v := .int (rI z t 2)) hE hk rfl inX0 (by decide) hw rfl rfl hdg kk
theorem ptX0_2 (hE : OK sp Y M) {t i : Nat} {x : Int32} (hk : kd sp t = KX0) (hw : Cond.fieldLink Y.1 i "FoundVirtues$Book" "size" "I" ∈ TB) (hdg : decode Y.2.2.1 pc = .ok (.putfield i, 3)) (kk : G sp Y M Z (pc + 3) lv st (wI z t 2 x)) : G sp Y M Z pc lv (.int x :: .ref t :: st) z := g_putI (T := TX0) (k := 2) (ty := .int) hE tyX0 tyX0_ok nmX0 hk rfl inX0 (by decide) hw rfl (by decide +kernel) rfl rfl rfl hdg kk
theorem gtX1_0 (hE : OK sp Y M) {t i : Nat} (hk : kd sp t = KX1) (hw : Cond.fieldLink Y.1 i "FoundVirtues$Entries" "mayBeVague" "Z" ∈ TB) (hdg : decode Y.2.2.1 pc = .ok (.getfield i, 3)) (kk : G sp Y M Z (pc + 3) lv (.int (rI z t 0) :: st) z) : G sp Y M Z pc lv (.ref t :: st) z := g_get (T := TX1) (k := 0) (v := .int (rI z t 0)) hE hk rfl inX1 (by decide) hw rfl rfl hdg kk
theorem gtX1_1 (hE : OK sp Y M) {t i : Nat} (hk : kd sp t = KX1) (hw : Cond.fieldLink Y.1 i "FoundVirtues$Entries" "said" "[I" ∈ TB) (hdg : decode Y.2.2.1 pc = .ok (.getfield i, 3)) (kk : G sp Y M Z (pc + 3) lv (.ref (t + 1) :: st) z) : G sp Y M Z pc lv (.ref t :: st) z := g_get (T := TX1) (k := 1) (v := .ref (t + 1)) hE hk rfl inX1 (by decide) hw rfl rfl hdg kk
theorem gtX1_2 (hE : OK sp Y M) {t i : Nat} (hk : kd sp t = KX1) (hw : Cond.fieldLink Y.1 i "FoundVirtues$Entries" "high" "[I" ∈ TB) (hdg : decode Y.2.2.1 pc = .ok (.getfield i, 3)) (kk : G sp Y M Z (pc + 3) lv (.ref (t + 2) :: st) z) : G sp Y M Z pc lv (.ref t :: st) z := g_get (T := TX1) (k := 2) (v := .ref (t + 2)) hE hk rfl inX1 (by decide) hw rfl rfl hdg kk
theorem gtX1_3 (hE : OK sp Y M) {t i : Nat} (hk : kd sp t = KX1) (hw : Cond.fieldLink Y.1 i "FoundVirtues$Entries" "figure" "[I" ∈ TB) (hdg : decode Y.2.2.1 pc = .ok (.getfield i, 3)) (kk : G sp Y M Z (pc + 3) lv (.ref (t + 3) :: st) z) : G sp Y M Z pc lv (.ref t :: st) z := g_get (T := TX1) (k := 3) (v := .ref (t + 3)) hE hk rfl inX1 (by decide) hw rfl rfl hdg kk
theorem gtX1_4 (hE : OK sp Y M) {t i : Nat} (hk : kd sp t = KX1) (hw : Cond.fieldLink Y.1 i "FoundVirtues$Entries" "size" "I" ∈ TB) (hdg : decode Y.2.2.1 pc = .ok (.getfield i, 3)) (kk : G sp Y M Z (pc + 3) lv (.int (rI z t 4) :: st) z) : G sp Y M Z pc lv (.ref t :: st) z := g_get (T := TX1) (k := 4) (v := .int (rI z t 4)) hE hk rfl inX1 (by decide) hw rfl rfl hdg kk
theorem ptX1_4 (hE : OK sp Y M) {t i : Nat} {x : Int32} (hk : kd sp t = KX1) (hw : Cond.fieldLink Y.1 i "FoundVirtues$Entries" "size" "I" ∈ TB) (hdg : decode Y.2.2.1 pc = .ok (.putfield i, 3)) (kk : G sp Y M Z (pc + 3) lv st (wI z t 4 x)) : G sp Y M Z pc lv (.int x :: .ref t :: st) z := g_putI (T := TX1) (k := 4) (ty := .int) hE tyX1 tyX1_ok nmX1 hk rfl inX1 (by decide) hw rfl (by decide +kernel) rfl rfl rfl hdg kk
theorem gtX1_5 (hE : OK sp Y M) {t i : Nat} (hk : kd sp t = KX1) (hw : Cond.fieldLink Y.1 i "FoundVirtues$Entries" "whole" "I" ∈ TB) (hdg : decode Y.2.2.1 pc = .ok (.getfield i, 3)) (kk : G sp Y M Z (pc + 3) lv (.int (rI z t 5) :: st) z) : G sp Y M Z pc lv (.ref t :: st) z := g_get (T := TX1) (k := 5) (v := .int (rI z t 5)) hE hk rfl inX1 (by decide) hw rfl rfl hdg kk
theorem ptX1_5 (hE : OK sp Y M) {t i : Nat} {x : Int32} (hk : kd sp t = KX1) (hw : Cond.fieldLink Y.1 i "FoundVirtues$Entries" "whole" "I" ∈ TB) (hdg : decode Y.2.2.1 pc = .ok (.putfield i, 3)) (kk : G sp Y M Z (pc + 3) lv st (wI z t 5 x)) : G sp Y M Z pc lv (.int x :: .ref t :: st) z := g_putI (T := TX1) (k := 5) (ty := .int) hE tyX1 tyX1_ok nmX1 hk rfl inX1 (by decide) hw rfl (by decide +kernel) rfl rfl rfl hdg kk
theorem gtX1_6 (hE : OK sp Y M) {t i : Nat} (hk : kd sp t = KX1) (hw : Cond.fieldLink Y.1 i "FoundVirtues$Entries" "wrong" "I" ∈ TB) (hdg : decode Y.2.2.1 pc = .ok (.getfield i, 3)) (kk : G sp Y M Z (pc + 3) lv (.int (rI z t 6) :: st) z) : G sp Y M Z pc lv (.ref t :: st) z := g_get (T := TX1) (k := 6) (v := .int (rI z t 6)) hE hk rfl inX1 (by decide) hw rfl rfl hdg kk
theorem ptX1_6 (hE : OK sp Y M) {t i : Nat} {x : Int32} (hk : kd sp t = KX1) (hw : Cond.fieldLink Y.1 i "FoundVirtues$Entries" "wrong" "I" ∈ TB) (hdg : decode Y.2.2.1 pc = .ok (.putfield i, 3)) (kk : G sp Y M Z (pc + 3) lv st (wI z t 6 x)) : G sp Y M Z pc lv (.int x :: .ref t :: st) z := g_putI (T := TX1) (k := 6) (ty := .int) hE tyX1 tyX1_ok nmX1 hk rfl inX1 (by decide) hw rfl (by decide +kernel) rfl rfl rfl hdg kk
theorem gtX2_0 (hE : OK sp Y M) {t i : Nat} (hk : kd sp t = KX2) (hw : Cond.fieldLink Y.1 i "FoundVirtues$Office" "virtues" "LFoundVirtues$Entries;" ∈ TB) (hdg : decode Y.2.2.1 pc = .ok (.getfield i, 3)) (kk : G sp Y M Z (pc + 3) lv (.ref 1 :: st) z) : G sp Y M Z pc lv (.ref t :: st) z := g_get (T := TX2) (k := 0) (v := .ref 1) hE hk rfl inX2 (by decide) hw rfl rfl hdg kk
theorem gnX2_0 (hE : OK sp Y M) {t i : Nat} {host : String} (hk : kd sp t = KX2) (hw : Cond.fieldLinkNest Y.1 i "FoundVirtues$Office" "virtues" "LFoundVirtues$Entries;" host ∈ nestW) (hdg : decode Y.2.2.1 pc = .ok (.getfield i, 3)) (kk : G sp Y M Z (pc + 3) lv (.ref 1 :: st) z) : G sp Y M Z pc lv (.ref t :: st) z := g_getN (T := TX2) (k := 0) (v := .ref 1) hE hk rfl inX2 (by decide) hw rfl rfl hdg kk
theorem gtX2_1 (hE : OK sp Y M) {t i : Nat} (hk : kd sp t = KX2) (hw : Cond.fieldLink Y.1 i "FoundVirtues$Office" "claimants" "LFoundVirtues$Entries;" ∈ TB) (hdg : decode Y.2.2.1 pc = .ok (.getfield i, 3)) (kk : G sp Y M Z (pc + 3) lv (.ref 5 :: st) z) : G sp Y M Z pc lv (.ref t :: st) z := g_get (T := TX2) (k := 1) (v := .ref 5) hE hk rfl inX2 (by decide) hw rfl rfl hdg kk
theorem gnX2_1 (hE : OK sp Y M) {t i : Nat} {host : String} (hk : kd sp t = KX2) (hw : Cond.fieldLinkNest Y.1 i "FoundVirtues$Office" "claimants" "LFoundVirtues$Entries;" host ∈ nestW) (hdg : decode Y.2.2.1 pc = .ok (.getfield i, 3)) (kk : G sp Y M Z (pc + 3) lv (.ref 5 :: st) z) : G sp Y M Z pc lv (.ref t :: st) z := g_getN (T := TX2) (k := 1) (v := .ref 5) hE hk rfl inX2 (by decide) hw rfl rfl hdg kk
theorem gtX2_2 (hE : OK sp Y M) {t i : Nat} (hk : kd sp t = KX2) (hw : Cond.fieldLink Y.1 i "FoundVirtues$Office" "enough" "I" ∈ TB) (hdg : decode Y.2.2.1 pc = .ok (.getfield i, 3)) (kk : G sp Y M Z (pc + 3) lv (.int (rI z t 2) :: st) z) : G sp Y M Z pc lv (.ref t :: st) z := g_get (T := TX2) (k := 2) (v := .int (rI z t 2)) hE hk rfl inX2 (by decide) hw rfl rfl hdg kk
theorem ptX2_2 (hE : OK sp Y M) {t i : Nat} {x : Int32} (hk : kd sp t = KX2) (hw : Cond.fieldLink Y.1 i "FoundVirtues$Office" "enough" "I" ∈ TB) (hdg : decode Y.2.2.1 pc = .ok (.putfield i, 3)) (kk : G sp Y M Z (pc + 3) lv st (wI z t 2 x)) : G sp Y M Z pc lv (.int x :: .ref t :: st) z := g_putI (T := TX2) (k := 2) (ty := .int) hE tyX2 tyX2_ok nmX2 hk rfl inX2 (by decide) hw rfl (by decide +kernel) rfl rfl rfl hdg kk
theorem gtX2_3 (hE : OK sp Y M) {t i : Nat} (hk : kd sp t = KX2) (hw : Cond.fieldLink Y.1 i "FoundVirtues$Office" "secret" "I" ∈ TB) (hdg : decode Y.2.2.1 pc = .ok (.getfield i, 3)) (kk : G sp Y M Z (pc + 3) lv (.int (rI z t 3) :: st) z) : G sp Y M Z pc lv (.ref t :: st) z := g_get (T := TX2) (k := 3) (v := .int (rI z t 3)) hE hk rfl inX2 (by decide) hw rfl rfl hdg kk
theorem ptX2_3 (hE : OK sp Y M) {t i : Nat} {x : Int32} (hk : kd sp t = KX2) (hw : Cond.fieldLink Y.1 i "FoundVirtues$Office" "secret" "I" ∈ TB) (hdg : decode Y.2.2.1 pc = .ok (.putfield i, 3)) (kk : G sp Y M Z (pc + 3) lv st (wI z t 3 x)) : G sp Y M Z pc lv (.int x :: .ref t :: st) z := g_putI (T := TX2) (k := 3) (ty := .int) hE tyX2 tyX2_ok nmX2 hk rfl inX2 (by decide) hw rfl (by decide +kernel) rfl rfl rfl hdg kk
theorem gtX2_4 (hE : OK sp Y M) {t i : Nat} (hk : kd sp t = KX2) (hw : Cond.fieldLink Y.1 i "FoundVirtues$Office" "kept" "I" ∈ TB) (hdg : decode Y.2.2.1 pc = .ok (.getfield i, 3)) (kk : G sp Y M Z (pc + 3) lv (.int (rI z t 4) :: st) z) : G sp Y M Z pc lv (.ref t :: st) z := g_get (T := TX2) (k := 4) (v := .int (rI z t 4)) hE hk rfl inX2 (by decide) hw rfl rfl hdg kk
theorem ptX2_4 (hE : OK sp Y M) {t i : Nat} {x : Int32} (hk : kd sp t = KX2) (hw : Cond.fieldLink Y.1 i "FoundVirtues$Office" "kept" "I" ∈ TB) (hdg : decode Y.2.2.1 pc = .ok (.putfield i, 3)) (kk : G sp Y M Z (pc + 3) lv st (wI z t 4 x)) : G sp Y M Z pc lv (.int x :: .ref t :: st) z := g_putI (T := TX2) (k := 4) (ty := .int) hE tyX2 tyX2_ok nmX2 hk rfl inX2 (by decide) hw rfl (by decide +kernel) rfl rfl rfl hdg kk
theorem gtX3_0 (hE : OK sp Y M) {t i : Nat} (hk : kd sp t = KX3) (hw : Cond.fieldLink Y.1 i "FoundVirtues$Rows" "best" "[J" ∈ TB) (hdg : decode Y.2.2.1 pc = .ok (.getfield i, 3)) (kk : G sp Y M Z (pc + 3) lv (.ref (t + 1) :: st) z) : G sp Y M Z pc lv (.ref t :: st) z := g_get (T := TX3) (k := 0) (v := .ref (t + 1)) hE hk rfl inX3 (by decide) hw rfl rfl hdg kk
theorem gtX3_1 (hE : OK sp Y M) {t i : Nat} (hk : kd sp t = KX3) (hw : Cond.fieldLink Y.1 i "FoundVirtues$Rows" "matched" "J" ∈ TB) (hdg : decode Y.2.2.1 pc = .ok (.getfield i, 3)) (kk : G sp Y M Z (pc + 3) lv (.long (rJ z t 1) :: st) z) : G sp Y M Z pc lv (.ref t :: st) z := g_get (T := TX3) (k := 1) (v := .long (rJ z t 1)) hE hk rfl inX3 (by decide) hw rfl rfl hdg kk
theorem ptX3_1 (hE : OK sp Y M) {t i : Nat} {x : Int64} (hk : kd sp t = KX3) (hw : Cond.fieldLink Y.1 i "FoundVirtues$Rows" "matched" "J" ∈ TB) (hdg : decode Y.2.2.1 pc = .ok (.putfield i, 3)) (kk : G sp Y M Z (pc + 3) lv st (wJ z t 1 x)) : G sp Y M Z pc lv (.long x :: .ref t :: st) z := g_putJ (T := TX3) (k := 1) hE tyX3 tyX3_ok nmX3 hk rfl inX3 (by decide) hw rfl (by decide +kernel) rfl hdg kk
theorem gtX3_2 (hE : OK sp Y M) {t i : Nat} (hk : kd sp t = KX3) (hw : Cond.fieldLink Y.1 i "FoundVirtues$Rows" "paired" "J" ∈ TB) (hdg : decode Y.2.2.1 pc = .ok (.getfield i, 3)) (kk : G sp Y M Z (pc + 3) lv (.long (rJ z t 2) :: st) z) : G sp Y M Z pc lv (.ref t :: st) z := g_get (T := TX3) (k := 2) (v := .long (rJ z t 2)) hE hk rfl inX3 (by decide) hw rfl rfl hdg kk
theorem ptX3_2 (hE : OK sp Y M) {t i : Nat} {x : Int64} (hk : kd sp t = KX3) (hw : Cond.fieldLink Y.1 i "FoundVirtues$Rows" "paired" "J" ∈ TB) (hdg : decode Y.2.2.1 pc = .ok (.putfield i, 3)) (kk : G sp Y M Z (pc + 3) lv st (wJ z t 2 x)) : G sp Y M Z pc lv (.long x :: .ref t :: st) z := g_putJ (T := TX3) (k := 2) hE tyX3 tyX3_ok nmX3 hk rfl inX3 (by decide) hw rfl (by decide +kernel) rfl hdg kk
theorem gtX4_0 (hE : OK sp Y M) {t i : Nat} (hk : kd sp t = KX4) (hw : Cond.fieldLink Y.1 i "FoundVirtues$Run" "office" "LFoundVirtues$Office;" ∈ TB) (hdg : decode Y.2.2.1 pc = .ok (.getfield i, 3)) (kk : G sp Y M Z (pc + 3) lv (.ref 9 :: st) z) : G sp Y M Z pc lv (.ref t :: st) z := g_get (T := TX4) (k := 0) (v := .ref 9) hE hk rfl inX4 (by decide) hw rfl rfl hdg kk
theorem gtX4_1 (hE : OK sp Y M) {t i : Nat} (hk : kd sp t = KX4) (hw : Cond.fieldLink Y.1 i "FoundVirtues$Run" "handed" "[I" ∈ TB) (hdg : decode Y.2.2.1 pc = .ok (.getfield i, 3)) (kk : G sp Y M Z (pc + 3) lv (.ref (t + 1) :: st) z) : G sp Y M Z pc lv (.ref t :: st) z := g_get (T := TX4) (k := 1) (v := .ref (t + 1)) hE hk rfl inX4 (by decide) hw rfl rfl hdg kk
theorem gtX4_2 (hE : OK sp Y M) {t i : Nat} (hk : kd sp t = KX4) (hw : Cond.fieldLink Y.1 i "FoundVirtues$Run" "queue" "[I" ∈ TB) (hdg : decode Y.2.2.1 pc = .ok (.getfield i, 3)) (kk : G sp Y M Z (pc + 3) lv (.ref (t + 2) :: st) z) : G sp Y M Z pc lv (.ref t :: st) z := g_get (T := TX4) (k := 2) (v := .ref (t + 2)) hE hk rfl inX4 (by decide) hw rfl rfl hdg kk
theorem gtX4_3 (hE : OK sp Y M) {t i : Nat} (hk : kd sp t = KX4) (hw : Cond.fieldLink Y.1 i "FoundVirtues$Run" "queued" "I" ∈ TB) (hdg : decode Y.2.2.1 pc = .ok (.getfield i, 3)) (kk : G sp Y M Z (pc + 3) lv (.int (rI z t 3) :: st) z) : G sp Y M Z pc lv (.ref t :: st) z := g_get (T := TX4) (k := 3) (v := .int (rI z t 3)) hE hk rfl inX4 (by decide) hw rfl rfl hdg kk
theorem ptX4_3 (hE : OK sp Y M) {t i : Nat} {x : Int32} (hk : kd sp t = KX4) (hw : Cond.fieldLink Y.1 i "FoundVirtues$Run" "queued" "I" ∈ TB) (hdg : decode Y.2.2.1 pc = .ok (.putfield i, 3)) (kk : G sp Y M Z (pc + 3) lv st (wI z t 3 x)) : G sp Y M Z pc lv (.int x :: .ref t :: st) z := g_putI (T := TX4) (k := 3) (ty := .int) hE tyX4 tyX4_ok nmX4 hk rfl inX4 (by decide) hw rfl (by decide +kernel) rfl rfl rfl hdg kk
theorem gtX4_4 (hE : OK sp Y M) {t i : Nat} (hk : kd sp t = KX4) (hw : Cond.fieldLink Y.1 i "FoundVirtues$Run" "fitted" "[I" ∈ TB) (hdg : decode Y.2.2.1 pc = .ok (.getfield i, 3)) (kk : G sp Y M Z (pc + 3) lv (.ref (t + 3) :: st) z) : G sp Y M Z pc lv (.ref t :: st) z := g_get (T := TX4) (k := 4) (v := .ref (t + 3)) hE hk rfl inX4 (by decide) hw rfl rfl hdg kk
theorem gtX4_5 (hE : OK sp Y M) {t i : Nat} (hk : kd sp t = KX4) (hw : Cond.fieldLink Y.1 i "FoundVirtues$Run" "allowed" "[I" ∈ TB) (hdg : decode Y.2.2.1 pc = .ok (.getfield i, 3)) (kk : G sp Y M Z (pc + 3) lv (.ref (t + 4) :: st) z) : G sp Y M Z pc lv (.ref t :: st) z := g_get (T := TX4) (k := 5) (v := .ref (t + 4)) hE hk rfl inX4 (by decide) hw rfl rfl hdg kk
theorem gtX4_6 (hE : OK sp Y M) {t i : Nat} (hk : kd sp t = KX4) (hw : Cond.fieldLink Y.1 i "FoundVirtues$Run" "arrived" "[I" ∈ TB) (hdg : decode Y.2.2.1 pc = .ok (.getfield i, 3)) (kk : G sp Y M Z (pc + 3) lv (.ref (t + 5) :: st) z) : G sp Y M Z pc lv (.ref t :: st) z := g_get (T := TX4) (k := 6) (v := .ref (t + 5)) hE hk rfl inX4 (by decide) hw rfl rfl hdg kk
theorem gtX4_7 (hE : OK sp Y M) {t i : Nat} (hk : kd sp t = KX4) (hw : Cond.fieldLink Y.1 i "FoundVirtues$Run" "shelfBehind" "[I" ∈ TB) (hdg : decode Y.2.2.1 pc = .ok (.getfield i, 3)) (kk : G sp Y M Z (pc + 3) lv (.ref (t + 6) :: st) z) : G sp Y M Z pc lv (.ref t :: st) z := g_get (T := TX4) (k := 7) (v := .ref (t + 6)) hE hk rfl inX4 (by decide) hw rfl rfl hdg kk
theorem gtX4_8 (hE : OK sp Y M) {t i : Nat} (hk : kd sp t = KX4) (hw : Cond.fieldLink Y.1 i "FoundVirtues$Run" "givenBehind" "[I" ∈ TB) (hdg : decode Y.2.2.1 pc = .ok (.getfield i, 3)) (kk : G sp Y M Z (pc + 3) lv (.ref (t + 7) :: st) z) : G sp Y M Z pc lv (.ref t :: st) z := g_get (T := TX4) (k := 8) (v := .ref (t + 7)) hE hk rfl inX4 (by decide) hw rfl rfl hdg kk
theorem gtX4_9 (hE : OK sp Y M) {t i : Nat} (hk : kd sp t = KX4) (hw : Cond.fieldLink Y.1 i "FoundVirtues$Run" "soldBehind" "[I" ∈ TB) (hdg : decode Y.2.2.1 pc = .ok (.getfield i, 3)) (kk : G sp Y M Z (pc + 3) lv (.ref (t + 8) :: st) z) : G sp Y M Z pc lv (.ref t :: st) z := g_get (T := TX4) (k := 9) (v := .ref (t + 8)) hE hk rfl inX4 (by decide) hw rfl rfl hdg kk
theorem gtX4_10 (hE : OK sp Y M) {t i : Nat} (hk : kd sp t = KX4) (hw : Cond.fieldLink Y.1 i "FoundVirtues$Run" "taker" "[I" ∈ TB) (hdg : decode Y.2.2.1 pc = .ok (.getfield i, 3)) (kk : G sp Y M Z (pc + 3) lv (.ref (t + 9) :: st) z) : G sp Y M Z pc lv (.ref t :: st) z := g_get (T := TX4) (k := 10) (v := .ref (t + 9)) hE hk rfl inX4 (by decide) hw rfl rfl hdg kk
theorem gtX4_11 (hE : OK sp Y M) {t i : Nat} (hk : kd sp t = KX4) (hw : Cond.fieldLink Y.1 i "FoundVirtues$Run" "goneWeek" "[I" ∈ TB) (hdg : decode Y.2.2.1 pc = .ok (.getfield i, 3)) (kk : G sp Y M Z (pc + 3) lv (.ref (t + 10) :: st) z) : G sp Y M Z pc lv (.ref t :: st) z := g_get (T := TX4) (k := 11) (v := .ref (t + 10)) hE hk rfl inX4 (by decide) hw rfl rfl hdg kk
theorem gtX4_12 (hE : OK sp Y M) {t i : Nat} (hk : kd sp t = KX4) (hw : Cond.fieldLink Y.1 i "FoundVirtues$Run" "shelf" "I" ∈ TB) (hdg : decode Y.2.2.1 pc = .ok (.getfield i, 3)) (kk : G sp Y M Z (pc + 3) lv (.int (rI z t 12) :: st) z) : G sp Y M Z pc lv (.ref t :: st) z := g_get (T := TX4) (k := 12) (v := .int (rI z t 12)) hE hk rfl inX4 (by decide) hw rfl rfl hdg kk
theorem ptX4_12 (hE : OK sp Y M) {t i : Nat} {x : Int32} (hk : kd sp t = KX4) (hw : Cond.fieldLink Y.1 i "FoundVirtues$Run" "shelf" "I" ∈ TB) (hdg : decode Y.2.2.1 pc = .ok (.putfield i, 3)) (kk : G sp Y M Z (pc + 3) lv st (wI z t 12 x)) : G sp Y M Z pc lv (.int x :: .ref t :: st) z := g_putI (T := TX4) (k := 12) (ty := .int) hE tyX4 tyX4_ok nmX4 hk rfl inX4 (by decide) hw rfl (by decide +kernel) rfl rfl rfl hdg kk
theorem gtX4_13 (hE : OK sp Y M) {t i : Nat} (hk : kd sp t = KX4) (hw : Cond.fieldLink Y.1 i "FoundVirtues$Run" "given" "I" ∈ TB) (hdg : decode Y.2.2.1 pc = .ok (.getfield i, 3)) (kk : G sp Y M Z (pc + 3) lv (.int (rI z t 13) :: st) z) : G sp Y M Z pc lv (.ref t :: st) z := g_get (T := TX4) (k := 13) (v := .int (rI z t 13)) hE hk rfl inX4 (by decide) hw rfl rfl hdg kk
theorem ptX4_13 (hE : OK sp Y M) {t i : Nat} {x : Int32} (hk : kd sp t = KX4) (hw : Cond.fieldLink Y.1 i "FoundVirtues$Run" "given" "I" ∈ TB) (hdg : decode Y.2.2.1 pc = .ok (.putfield i, 3)) (kk : G sp Y M Z (pc + 3) lv st (wI z t 13 x)) : G sp Y M Z pc lv (.int x :: .ref t :: st) z := g_putI (T := TX4) (k := 13) (ty := .int) hE tyX4 tyX4_ok nmX4 hk rfl inX4 (by decide) hw rfl (by decide +kernel) rfl rfl rfl hdg kk
theorem gtX4_14 (hE : OK sp Y M) {t i : Nat} (hk : kd sp t = KX4) (hw : Cond.fieldLink Y.1 i "FoundVirtues$Run" "sold" "I" ∈ TB) (hdg : decode Y.2.2.1 pc = .ok (.getfield i, 3)) (kk : G sp Y M Z (pc + 3) lv (.int (rI z t 14) :: st) z) : G sp Y M Z pc lv (.ref t :: st) z := g_get (T := TX4) (k := 14) (v := .int (rI z t 14)) hE hk rfl inX4 (by decide) hw rfl rfl hdg kk
theorem ptX4_14 (hE : OK sp Y M) {t i : Nat} {x : Int32} (hk : kd sp t = KX4) (hw : Cond.fieldLink Y.1 i "FoundVirtues$Run" "sold" "I" ∈ TB) (hdg : decode Y.2.2.1 pc = .ok (.putfield i, 3)) (kk : G sp Y M Z (pc + 3) lv st (wI z t 14 x)) : G sp Y M Z pc lv (.int x :: .ref t :: st) z := g_putI (T := TX4) (k := 14) (ty := .int) hE tyX4 tyX4_ok nmX4 hk rfl inX4 (by decide) hw rfl (by decide +kernel) rfl rfl rfl hdg kk
theorem gtX4_15 (hE : OK sp Y M) {t i : Nat} (hk : kd sp t = KX4) (hw : Cond.fieldLink Y.1 i "FoundVirtues$Run" "served" "J" ∈ TB) (hdg : decode Y.2.2.1 pc = .ok (.getfield i, 3)) (kk : G sp Y M Z (pc + 3) lv (.long (rJ z t 15) :: st) z) : G sp Y M Z pc lv (.ref t :: st) z := g_get (T := TX4) (k := 15) (v := .long (rJ z t 15)) hE hk rfl inX4 (by decide) hw rfl rfl hdg kk
theorem ptX4_15 (hE : OK sp Y M) {t i : Nat} {x : Int64} (hk : kd sp t = KX4) (hw : Cond.fieldLink Y.1 i "FoundVirtues$Run" "served" "J" ∈ TB) (hdg : decode Y.2.2.1 pc = .ok (.putfield i, 3)) (kk : G sp Y M Z (pc + 3) lv st (wJ z t 15 x)) : G sp Y M Z pc lv (.long x :: .ref t :: st) z := g_putJ (T := TX4) (k := 15) hE tyX4 tyX4_ok nmX4 hk rfl inX4 (by decide) hw rfl (by decide +kernel) rfl hdg kk
theorem gtX4_16 (hE : OK sp Y M) {t i : Nat} (hk : kd sp t = KX4) (hw : Cond.fieldLink Y.1 i "FoundVirtues$Run" "saint" "I" ∈ TB) (hdg : decode Y.2.2.1 pc = .ok (.getfield i, 3)) (kk : G sp Y M Z (pc + 3) lv (.int (rI z t 16) :: st) z) : G sp Y M Z pc lv (.ref t :: st) z := g_get (T := TX4) (k := 16) (v := .int (rI z t 16)) hE hk rfl inX4 (by decide) hw rfl rfl hdg kk
theorem ptX4_16 (hE : OK sp Y M) {t i : Nat} {x : Int32} (hk : kd sp t = KX4) (hw : Cond.fieldLink Y.1 i "FoundVirtues$Run" "saint" "I" ∈ TB) (hdg : decode Y.2.2.1 pc = .ok (.putfield i, 3)) (kk : G sp Y M Z (pc + 3) lv st (wI z t 16 x)) : G sp Y M Z pc lv (.int x :: .ref t :: st) z := g_putI (T := TX4) (k := 16) (ty := .int) hE tyX4 tyX4_ok nmX4 hk rfl inX4 (by decide) hw rfl (by decide +kernel) rfl rfl rfl hdg kk
theorem gtX5_0 (hE : OK sp Y M) {t i : Nat} (hk : kd sp t = KX5) (hw : Cond.fieldLink Y.1 i "FoundVirtues$Sheet" "items" "[I" ∈ TB) (hdg : decode Y.2.2.1 pc = .ok (.getfield i, 3)) (kk : G sp Y M Z (pc + 3) lv (.ref (t + 1) :: st) z) : G sp Y M Z pc lv (.ref t :: st) z := g_get (T := TX5) (k := 0) (v := .ref (t + 1)) hE hk rfl inX5 (by decide) hw rfl rfl hdg kk
theorem gtX5_1 (hE : OK sp Y M) {t i : Nat} (hk : kd sp t = KX5) (hw : Cond.fieldLink Y.1 i "FoundVirtues$Sheet" "size" "I" ∈ TB) (hdg : decode Y.2.2.1 pc = .ok (.getfield i, 3)) (kk : G sp Y M Z (pc + 3) lv (.int (rI z t 1) :: st) z) : G sp Y M Z pc lv (.ref t :: st) z := g_get (T := TX5) (k := 1) (v := .int (rI z t 1)) hE hk rfl inX5 (by decide) hw rfl rfl hdg kk
theorem ptX5_1 (hE : OK sp Y M) {t i : Nat} {x : Int32} (hk : kd sp t = KX5) (hw : Cond.fieldLink Y.1 i "FoundVirtues$Sheet" "size" "I" ∈ TB) (hdg : decode Y.2.2.1 pc = .ok (.putfield i, 3)) (kk : G sp Y M Z (pc + 3) lv st (wI z t 1 x)) : G sp Y M Z pc lv (.int x :: .ref t :: st) z := g_putI (T := TX5) (k := 1) (ty := .int) hE tyX5 tyX5_ok nmX5 hk rfl inX5 (by decide) hw rfl (by decide +kernel) rfl rfl rfl hdg kk
theorem gtX5_2 (hE : OK sp Y M) {t i : Nat} (hk : kd sp t = KX5) (hw : Cond.fieldLink Y.1 i "FoundVirtues$Sheet" "form" "I" ∈ TB) (hdg : decode Y.2.2.1 pc = .ok (.getfield i, 3)) (kk : G sp Y M Z (pc + 3) lv (.int (rI z t 2) :: st) z) : G sp Y M Z pc lv (.ref t :: st) z := g_get (T := TX5) (k := 2) (v := .int (rI z t 2)) hE hk rfl inX5 (by decide) hw rfl rfl hdg kk
theorem ptX5_2 (hE : OK sp Y M) {t i : Nat} {x : Int32} (hk : kd sp t = KX5) (hw : Cond.fieldLink Y.1 i "FoundVirtues$Sheet" "form" "I" ∈ TB) (hdg : decode Y.2.2.1 pc = .ok (.putfield i, 3)) (kk : G sp Y M Z (pc + 3) lv st (wI z t 2 x)) : G sp Y M Z pc lv (.int x :: .ref t :: st) z := g_putI (T := TX5) (k := 2) (ty := .int) hE tyX5 tyX5_ok nmX5 hk rfl inX5 (by decide) hw rfl (by decide +kernel) rfl rfl rfl hdg kk
theorem gtX6_0 (hE : OK sp Y M) {t i : Nat} (hk : kd sp t = KX6) (hw : Cond.fieldLink Y.1 i "FoundVirtues$Sightings" "week" "[I" ∈ TB) (hdg : decode Y.2.2.1 pc = .ok (.getfield i, 3)) (kk : G sp Y M Z (pc + 3) lv (.ref (t + 1) :: st) z) : G sp Y M Z pc lv (.ref t :: st) z := g_get (T := TX6) (k := 0) (v := .ref (t + 1)) hE hk rfl inX6 (by decide) hw rfl rfl hdg kk
theorem gtX6_1 (hE : OK sp Y M) {t i : Nat} (hk : kd sp t = KX6) (hw : Cond.fieldLink Y.1 i "FoundVirtues$Sightings" "virtue" "[I" ∈ TB) (hdg : decode Y.2.2.1 pc = .ok (.getfield i, 3)) (kk : G sp Y M Z (pc + 3) lv (.ref (t + 2) :: st) z) : G sp Y M Z pc lv (.ref t :: st) z := g_get (T := TX6) (k := 1) (v := .ref (t + 2)) hE hk rfl inX6 (by decide) hw rfl rfl hdg kk
theorem gtX6_2 (hE : OK sp Y M) {t i : Nat} (hk : kd sp t = KX6) (hw : Cond.fieldLink Y.1 i "FoundVirtues$Sightings" "was" "[I" ∈ TB) (hdg : decode Y.2.2.1 pc = .ok (.getfield i, 3)) (kk : G sp Y M Z (pc + 3) lv (.ref (t + 3) :: st) z) : G sp Y M Z pc lv (.ref t :: st) z := g_get (T := TX6) (k := 2) (v := .ref (t + 3)) hE hk rfl inX6 (by decide) hw rfl rfl hdg kk
theorem gtX6_3 (hE : OK sp Y M) {t i : Nat} (hk : kd sp t = KX6) (hw : Cond.fieldLink Y.1 i "FoundVirtues$Sightings" "size" "I" ∈ TB) (hdg : decode Y.2.2.1 pc = .ok (.getfield i, 3)) (kk : G sp Y M Z (pc + 3) lv (.int (rI z t 3) :: st) z) : G sp Y M Z pc lv (.ref t :: st) z := g_get (T := TX6) (k := 3) (v := .int (rI z t 3)) hE hk rfl inX6 (by decide) hw rfl rfl hdg kk
theorem ptX6_3 (hE : OK sp Y M) {t i : Nat} {x : Int32} (hk : kd sp t = KX6) (hw : Cond.fieldLink Y.1 i "FoundVirtues$Sightings" "size" "I" ∈ TB) (hdg : decode Y.2.2.1 pc = .ok (.putfield i, 3)) (kk : G sp Y M Z (pc + 3) lv st (wI z t 3 x)) : G sp Y M Z pc lv (.int x :: .ref t :: st) z := g_putI (T := TX6) (k := 3) (ty := .int) hE tyX6 tyX6_ok nmX6 hk rfl inX6 (by decide) hw rfl (by decide +kernel) rfl rfl rfl hdg kk
theorem gtX7_0 (hE : OK sp Y M) {t i : Nat} (hk : kd sp t = KX7) (hw : Cond.fieldLink Y.1 i "FoundVirtues" "virtues" "LFoundVirtues$Entries;" ∈ TB) (hdg : decode Y.2.2.1 pc = .ok (.getfield i, 3)) (kk : G sp Y M Z (pc + 3) lv (.ref 1 :: st) z) : G sp Y M Z pc lv (.ref t :: st) z := g_get (T := TX7) (k := 0) (v := .ref 1) hE hk rfl inX7 (by decide) hw rfl rfl hdg kk
theorem gtX7_1 (hE : OK sp Y M) {t i : Nat} (hk : kd sp t = KX7) (hw : Cond.fieldLink Y.1 i "FoundVirtues" "claimants" "LFoundVirtues$Entries;" ∈ TB) (hdg : decode Y.2.2.1 pc = .ok (.getfield i, 3)) (kk : G sp Y M Z (pc + 3) lv (.ref 5 :: st) z) : G sp Y M Z pc lv (.ref t :: st) z := g_get (T := TX7) (k := 1) (v := .ref 5) hE hk rfl inX7 (by decide) hw rfl rfl hdg kk
theorem gtX7_2 (hE : OK sp Y M) {t i : Nat} (hk : kd sp t = KX7) (hw : Cond.fieldLink Y.1 i "FoundVirtues" "office" "LFoundVirtues$Office;" ∈ TB) (hdg : decode Y.2.2.1 pc = .ok (.getfield i, 3)) (kk : G sp Y M Z (pc + 3) lv (.ref 9 :: st) z) : G sp Y M Z pc lv (.ref t :: st) z := g_get (T := TX7) (k := 2) (v := .ref 9) hE hk rfl inX7 (by decide) hw rfl rfl hdg kk
theorem gtX7_3 (hE : OK sp Y M) {t i : Nat} (hk : kd sp t = KX7) (hw : Cond.fieldLink Y.1 i "FoundVirtues" "handings" "LFoundVirtues$Book;" ∈ TB) (hdg : decode Y.2.2.1 pc = .ok (.getfield i, 3)) (kk : G sp Y M Z (pc + 3) lv (.ref 10 :: st) z) : G sp Y M Z pc lv (.ref t :: st) z := g_get (T := TX7) (k := 3) (v := .ref 10) hE hk rfl inX7 (by decide) hw rfl rfl hdg kk
theorem gtX7_4 (hE : OK sp Y M) {t i : Nat} (hk : kd sp t = KX7) (hw : Cond.fieldLink Y.1 i "FoundVirtues" "claims" "LFoundVirtues$Book;" ∈ TB) (hdg : decode Y.2.2.1 pc = .ok (.getfield i, 3)) (kk : G sp Y M Z (pc + 3) lv (.ref 13 :: st) z) : G sp Y M Z pc lv (.ref t :: st) z := g_get (T := TX7) (k := 4) (v := .ref 13) hE hk rfl inX7 (by decide) hw rfl rfl hdg kk
theorem gtX7_5 (hE : OK sp Y M) {t i : Nat} (hk : kd sp t = KX7) (hw : Cond.fieldLink Y.1 i "FoundVirtues" "sightings" "LFoundVirtues$Sightings;" ∈ TB) (hdg : decode Y.2.2.1 pc = .ok (.getfield i, 3)) (kk : G sp Y M Z (pc + 3) lv (.ref 16 :: st) z) : G sp Y M Z pc lv (.ref t :: st) z := g_get (T := TX7) (k := 5) (v := .ref 16) hE hk rfl inX7 (by decide) hw rfl rfl hdg kk
theorem gtX7_6 (hE : OK sp Y M) {t i : Nat} (hk : kd sp t = KX7) (hw : Cond.fieldLink Y.1 i "FoundVirtues" "told" "LFoundVirtues$Run;" ∈ TB) (hdg : decode Y.2.2.1 pc = .ok (.getfield i, 3)) (kk : G sp Y M Z (pc + 3) lv (.ref 20 :: st) z) : G sp Y M Z pc lv (.ref t :: st) z := g_get (T := TX7) (k := 6) (v := .ref 20) hE hk rfl inX7 (by decide) hw rfl rfl hdg kk
theorem gtX7_7 (hE : OK sp Y M) {t i : Nat} (hk : kd sp t = KX7) (hw : Cond.fieldLink Y.1 i "FoundVirtues" "trial" "LFoundVirtues$Run;" ∈ TB) (hdg : decode Y.2.2.1 pc = .ok (.getfield i, 3)) (kk : G sp Y M Z (pc + 3) lv (.ref 31 :: st) z) : G sp Y M Z pc lv (.ref t :: st) z := g_get (T := TX7) (k := 7) (v := .ref 31) hE hk rfl inX7 (by decide) hw rfl rfl hdg kk
theorem gtX7_8 (hE : OK sp Y M) {t i : Nat} (hk : kd sp t = KX7) (hw : Cond.fieldLink Y.1 i "FoundVirtues" "rows" "LFoundVirtues$Rows;" ∈ TB) (hdg : decode Y.2.2.1 pc = .ok (.getfield i, 3)) (kk : G sp Y M Z (pc + 3) lv (.ref 42 :: st) z) : G sp Y M Z pc lv (.ref t :: st) z := g_get (T := TX7) (k := 8) (v := .ref 42) hE hk rfl inX7 (by decide) hw rfl rfl hdg kk
theorem gtX7_9 (hE : OK sp Y M) {t i : Nat} (hk : kd sp t = KX7) (hw : Cond.fieldLink Y.1 i "FoundVirtues" "sheets" "[LFoundVirtues$Sheet;" ∈ TB) (hdg : decode Y.2.2.1 pc = .ok (.getfield i, 3)) (kk : G sp Y M Z (pc + 3) lv (.ref 44 :: st) z) : G sp Y M Z pc lv (.ref t :: st) z := g_get (T := TX7) (k := 9) (v := .ref 44) hE hk rfl inX7 (by decide) hw rfl rfl hdg kk
theorem gtX7_10 (hE : OK sp Y M) {t i : Nat} (hk : kd sp t = KX7) (hw : Cond.fieldLink Y.1 i "FoundVirtues" "toldStands" "Z" ∈ TB) (hdg : decode Y.2.2.1 pc = .ok (.getfield i, 3)) (kk : G sp Y M Z (pc + 3) lv (.int (rI z t 10) :: st) z) : G sp Y M Z pc lv (.ref t :: st) z := g_get (T := TX7) (k := 10) (v := .int (rI z t 10)) hE hk rfl inX7 (by decide) hw rfl rfl hdg kk
theorem ptX7_10 (hE : OK sp Y M) {t i : Nat} {x : Int32} (hk : kd sp t = KX7) (hw : Cond.fieldLink Y.1 i "FoundVirtues" "toldStands" "Z" ∈ TB) (hn : narrow .boolean (.int x) = .int x) (hfit : fits .boolean (.int x) = true) (hdg : decode Y.2.2.1 pc = .ok (.putfield i, 3)) (kk : G sp Y M Z (pc + 3) lv st (wI z t 10 x)) : G sp Y M Z pc lv (.int x :: .ref t :: st) z := g_putI (T := TX7) (k := 10) (ty := .boolean) hE tyX7 tyX7_ok nmX7 hk rfl inX7 (by decide) hw rfl (by decide +kernel) hn hfit rfl hdg kk
theorem gtX7_11 (hE : OK sp Y M) {t i : Nat} (hk : kd sp t = KX7) (hw : Cond.fieldLink Y.1 i "FoundVirtues" "rowsStand" "Z" ∈ TB) (hdg : decode Y.2.2.1 pc = .ok (.getfield i, 3)) (kk : G sp Y M Z (pc + 3) lv (.int (rI z t 11) :: st) z) : G sp Y M Z pc lv (.ref t :: st) z := g_get (T := TX7) (k := 11) (v := .int (rI z t 11)) hE hk rfl inX7 (by decide) hw rfl rfl hdg kk
theorem ptX7_11 (hE : OK sp Y M) {t i : Nat} {x : Int32} (hk : kd sp t = KX7) (hw : Cond.fieldLink Y.1 i "FoundVirtues" "rowsStand" "Z" ∈ TB) (hn : narrow .boolean (.int x) = .int x) (hfit : fits .boolean (.int x) = true) (hdg : decode Y.2.2.1 pc = .ok (.putfield i, 3)) (kk : G sp Y M Z (pc + 3) lv st (wI z t 11 x)) : G sp Y M Z pc lv (.int x :: .ref t :: st) z := g_putI (T := TX7) (k := 11) (ty := .boolean) hE tyX7 tyX7_ok nmX7 hk rfl inX7 (by decide) hw rfl (by decide +kernel) hn hfit rfl hdg kk
theorem gtX7_12 (hE : OK sp Y M) {t i : Nat} (hk : kd sp t = KX7) (hw : Cond.fieldLink Y.1 i "FoundVirtues" "latestFinding" "I" ∈ TB) (hdg : decode Y.2.2.1 pc = .ok (.getfield i, 3)) (kk : G sp Y M Z (pc + 3) lv (.int (rI z t 12) :: st) z) : G sp Y M Z pc lv (.ref t :: st) z := g_get (T := TX7) (k := 12) (v := .int (rI z t 12)) hE hk rfl inX7 (by decide) hw rfl rfl hdg kk
theorem ptX7_12 (hE : OK sp Y M) {t i : Nat} {x : Int32} (hk : kd sp t = KX7) (hw : Cond.fieldLink Y.1 i "FoundVirtues" "latestFinding" "I" ∈ TB) (hdg : decode Y.2.2.1 pc = .ok (.putfield i, 3)) (kk : G sp Y M Z (pc + 3) lv st (wI z t 12 x)) : G sp Y M Z pc lv (.int x :: .ref t :: st) z := g_putI (T := TX7) (k := 12) (ty := .int) hE tyX7 tyX7_ok nmX7 hk rfl inX7 (by decide) hw rfl (by decide +kernel) rfl rfl rfl hdg kk
theorem gtX8_0 (hE : OK sp Y M) {t i : Nat} (hk : kd sp t = KX8) (hw : Cond.fieldLink Y.1 i "FoundVirtuesModel" "typed" "[I" ∈ TB) (hdg : decode Y.2.2.1 pc = .ok (.getfield i, 3)) (kk : G sp Y M Z (pc + 3) lv (.ref 1 :: st) z) : G sp Y M Z pc lv (.ref t :: st) z := g_get (T := TX8) (k := 0) (v := .ref 1) hE hk rfl inX8 (by decide) hw rfl rfl hdg kk
theorem gtX8_1 (hE : OK sp Y M) {t i : Nat} (hk : kd sp t = KX8) (hw : Cond.fieldLink Y.1 i "FoundVirtuesModel" "texts" "[I" ∈ TB) (hdg : decode Y.2.2.1 pc = .ok (.getfield i, 3)) (kk : G sp Y M Z (pc + 3) lv (.ref 2 :: st) z) : G sp Y M Z pc lv (.ref t :: st) z := g_get (T := TX8) (k := 1) (v := .ref 2) hE hk rfl inX8 (by decide) hw rfl rfl hdg kk
theorem gtX8_2 (hE : OK sp Y M) {t i : Nat} (hk : kd sp t = KX8) (hw : Cond.fieldLink Y.1 i "FoundVirtuesModel" "virtues" "I" ∈ TB) (hdg : decode Y.2.2.1 pc = .ok (.getfield i, 3)) (kk : G sp Y M Z (pc + 3) lv (.int (rI z t 2) :: st) z) : G sp Y M Z pc lv (.ref t :: st) z := g_get (T := TX8) (k := 2) (v := .int (rI z t 2)) hE hk rfl inX8 (by decide) hw rfl rfl hdg kk
theorem ptX8_2 (hE : OK sp Y M) {t i : Nat} {x : Int32} (hk : kd sp t = KX8) (hw : Cond.fieldLink Y.1 i "FoundVirtuesModel" "virtues" "I" ∈ TB) (hdg : decode Y.2.2.1 pc = .ok (.putfield i, 3)) (kk : G sp Y M Z (pc + 3) lv st (wI z t 2 x)) : G sp Y M Z pc lv (.int x :: .ref t :: st) z := g_putI (T := TX8) (k := 2) (ty := .int) hE tyX8 tyX8_ok nmX8 hk rfl inX8 (by decide) hw rfl (by decide +kernel) rfl rfl rfl hdg kk
theorem gtX8_3 (hE : OK sp Y M) {t i : Nat} (hk : kd sp t = KX8) (hw : Cond.fieldLink Y.1 i "FoundVirtuesModel" "marks" "[I" ∈ TB) (hdg : decode Y.2.2.1 pc = .ok (.getfield i, 3)) (kk : G sp Y M Z (pc + 3) lv (.ref 3 :: st) z) : G sp Y M Z pc lv (.ref t :: st) z := g_get (T := TX8) (k := 3) (v := .ref 3) hE hk rfl inX8 (by decide) hw rfl rfl hdg kk
theorem gtX8_4 (hE : OK sp Y M) {t i : Nat} (hk : kd sp t = KX8) (hw : Cond.fieldLink Y.1 i "FoundVirtuesModel" "worths" "[I" ∈ TB) (hdg : decode Y.2.2.1 pc = .ok (.getfield i, 3)) (kk : G sp Y M Z (pc + 3) lv (.ref 4 :: st) z) : G sp Y M Z pc lv (.ref t :: st) z := g_get (T := TX8) (k := 4) (v := .ref 4) hE hk rfl inX8 (by decide) hw rfl rfl hdg kk
theorem gtX8_5 (hE : OK sp Y M) {t i : Nat} (hk : kd sp t = KX8) (hw : Cond.fieldLink Y.1 i "FoundVirtuesModel" "claimants" "I" ∈ TB) (hdg : decode Y.2.2.1 pc = .ok (.getfield i, 3)) (kk : G sp Y M Z (pc + 3) lv (.int (rI z t 5) :: st) z) : G sp Y M Z pc lv (.ref t :: st) z := g_get (T := TX8) (k := 5) (v := .int (rI z t 5)) hE hk rfl inX8 (by decide) hw rfl rfl hdg kk
theorem ptX8_5 (hE : OK sp Y M) {t i : Nat} {x : Int32} (hk : kd sp t = KX8) (hw : Cond.fieldLink Y.1 i "FoundVirtuesModel" "claimants" "I" ∈ TB) (hdg : decode Y.2.2.1 pc = .ok (.putfield i, 3)) (kk : G sp Y M Z (pc + 3) lv st (wI z t 5 x)) : G sp Y M Z pc lv (.int x :: .ref t :: st) z := g_putI (T := TX8) (k := 5) (ty := .int) hE tyX8 tyX8_ok nmX8 hk rfl inX8 (by decide) hw rfl (by decide +kernel) rfl rfl rfl hdg kk
theorem gtX8_6 (hE : OK sp Y M) {t i : Nat} (hk : kd sp t = KX8) (hw : Cond.fieldLink Y.1 i "FoundVirtuesModel" "says" "[I" ∈ TB) (hdg : decode Y.2.2.1 pc = .ok (.getfield i, 3)) (kk : G sp Y M Z (pc + 3) lv (.ref 5 :: st) z) : G sp Y M Z pc lv (.ref t :: st) z := g_get (T := TX8) (k := 6) (v := .ref 5) hE hk rfl inX8 (by decide) hw rfl rfl hdg kk
theorem gtX8_7 (hE : OK sp Y M) {t i : Nat} (hk : kd sp t = KX8) (hw : Cond.fieldLink Y.1 i "FoundVirtuesModel" "saysHigh" "[I" ∈ TB) (hdg : decode Y.2.2.1 pc = .ok (.getfield i, 3)) (kk : G sp Y M Z (pc + 3) lv (.ref 6 :: st) z) : G sp Y M Z pc lv (.ref t :: st) z := g_get (T := TX8) (k := 7) (v := .ref 6) hE hk rfl inX8 (by decide) hw rfl rfl hdg kk
theorem gtX8_8 (hE : OK sp Y M) {t i : Nat} (hk : kd sp t = KX8) (hw : Cond.fieldLink Y.1 i "FoundVirtuesModel" "riches" "[I" ∈ TB) (hdg : decode Y.2.2.1 pc = .ok (.getfield i, 3)) (kk : G sp Y M Z (pc + 3) lv (.ref 7 :: st) z) : G sp Y M Z pc lv (.ref t :: st) z := g_get (T := TX8) (k := 8) (v := .ref 7) hE hk rfl inX8 (by decide) hw rfl rfl hdg kk
theorem gtX8_9 (hE : OK sp Y M) {t i : Nat} (hk : kd sp t = KX8) (hw : Cond.fieldLink Y.1 i "FoundVirtuesModel" "enough" "I" ∈ TB) (hdg : decode Y.2.2.1 pc = .ok (.getfield i, 3)) (kk : G sp Y M Z (pc + 3) lv (.int (rI z t 9) :: st) z) : G sp Y M Z pc lv (.ref t :: st) z := g_get (T := TX8) (k := 9) (v := .int (rI z t 9)) hE hk rfl inX8 (by decide) hw rfl rfl hdg kk
theorem ptX8_9 (hE : OK sp Y M) {t i : Nat} {x : Int32} (hk : kd sp t = KX8) (hw : Cond.fieldLink Y.1 i "FoundVirtuesModel" "enough" "I" ∈ TB) (hdg : decode Y.2.2.1 pc = .ok (.putfield i, 3)) (kk : G sp Y M Z (pc + 3) lv st (wI z t 9 x)) : G sp Y M Z pc lv (.int x :: .ref t :: st) z := g_putI (T := TX8) (k := 9) (ty := .int) hE tyX8 tyX8_ok nmX8 hk rfl inX8 (by decide) hw rfl (by decide +kernel) rfl rfl rfl hdg kk
theorem gtX8_10 (hE : OK sp Y M) {t i : Nat} (hk : kd sp t = KX8) (hw : Cond.fieldLink Y.1 i "FoundVirtuesModel" "secret" "I" ∈ TB) (hdg : decode Y.2.2.1 pc = .ok (.getfield i, 3)) (kk : G sp Y M Z (pc + 3) lv (.int (rI z t 10) :: st) z) : G sp Y M Z pc lv (.ref t :: st) z := g_get (T := TX8) (k := 10) (v := .int (rI z t 10)) hE hk rfl inX8 (by decide) hw rfl rfl hdg kk
theorem ptX8_10 (hE : OK sp Y M) {t i : Nat} {x : Int32} (hk : kd sp t = KX8) (hw : Cond.fieldLink Y.1 i "FoundVirtuesModel" "secret" "I" ∈ TB) (hdg : decode Y.2.2.1 pc = .ok (.putfield i, 3)) (kk : G sp Y M Z (pc + 3) lv st (wI z t 10 x)) : G sp Y M Z pc lv (.int x :: .ref t :: st) z := g_putI (T := TX8) (k := 10) (ty := .int) hE tyX8 tyX8_ok nmX8 hk rfl inX8 (by decide) hw rfl (by decide +kernel) rfl rfl rfl hdg kk
theorem gtX8_11 (hE : OK sp Y M) {t i : Nat} (hk : kd sp t = KX8) (hw : Cond.fieldLink Y.1 i "FoundVirtuesModel" "kept" "I" ∈ TB) (hdg : decode Y.2.2.1 pc = .ok (.getfield i, 3)) (kk : G sp Y M Z (pc + 3) lv (.int (rI z t 11) :: st) z) : G sp Y M Z pc lv (.ref t :: st) z := g_get (T := TX8) (k := 11) (v := .int (rI z t 11)) hE hk rfl inX8 (by decide) hw rfl rfl hdg kk
theorem ptX8_11 (hE : OK sp Y M) {t i : Nat} {x : Int32} (hk : kd sp t = KX8) (hw : Cond.fieldLink Y.1 i "FoundVirtuesModel" "kept" "I" ∈ TB) (hdg : decode Y.2.2.1 pc = .ok (.putfield i, 3)) (kk : G sp Y M Z (pc + 3) lv st (wI z t 11 x)) : G sp Y M Z pc lv (.int x :: .ref t :: st) z := g_putI (T := TX8) (k := 11) (ty := .int) hE tyX8 tyX8_ok nmX8 hk rfl inX8 (by decide) hw rfl (by decide +kernel) rfl rfl rfl hdg kk
theorem gtX8_12 (hE : OK sp Y M) {t i : Nat} (hk : kd sp t = KX8) (hw : Cond.fieldLink Y.1 i "FoundVirtuesModel" "handings" "I" ∈ TB) (hdg : decode Y.2.2.1 pc = .ok (.getfield i, 3)) (kk : G sp Y M Z (pc + 3) lv (.int (rI z t 12) :: st) z) : G sp Y M Z pc lv (.ref t :: st) z := g_get (T := TX8) (k := 12) (v := .int (rI z t 12)) hE hk rfl inX8 (by decide) hw rfl rfl hdg kk
theorem ptX8_12 (hE : OK sp Y M) {t i : Nat} {x : Int32} (hk : kd sp t = KX8) (hw : Cond.fieldLink Y.1 i "FoundVirtuesModel" "handings" "I" ∈ TB) (hdg : decode Y.2.2.1 pc = .ok (.putfield i, 3)) (kk : G sp Y M Z (pc + 3) lv st (wI z t 12 x)) : G sp Y M Z pc lv (.int x :: .ref t :: st) z := g_putI (T := TX8) (k := 12) (ty := .int) hE tyX8 tyX8_ok nmX8 hk rfl inX8 (by decide) hw rfl (by decide +kernel) rfl rfl rfl hdg kk
theorem gtX8_13 (hE : OK sp Y M) {t i : Nat} (hk : kd sp t = KX8) (hw : Cond.fieldLink Y.1 i "FoundVirtuesModel" "handWeek" "[I" ∈ TB) (hdg : decode Y.2.2.1 pc = .ok (.getfield i, 3)) (kk : G sp Y M Z (pc + 3) lv (.ref 8 :: st) z) : G sp Y M Z pc lv (.ref t :: st) z := g_get (T := TX8) (k := 13) (v := .ref 8) hE hk rfl inX8 (by decide) hw rfl rfl hdg kk
theorem gtX8_14 (hE : OK sp Y M) {t i : Nat} (hk : kd sp t = KX8) (hw : Cond.fieldLink Y.1 i "FoundVirtuesModel" "handVirtue" "[I" ∈ TB) (hdg : decode Y.2.2.1 pc = .ok (.getfield i, 3)) (kk : G sp Y M Z (pc + 3) lv (.ref 9 :: st) z) : G sp Y M Z pc lv (.ref t :: st) z := g_get (T := TX8) (k := 14) (v := .ref 9) hE hk rfl inX8 (by decide) hw rfl rfl hdg kk
theorem gtX8_15 (hE : OK sp Y M) {t i : Nat} (hk : kd sp t = KX8) (hw : Cond.fieldLink Y.1 i "FoundVirtuesModel" "claims" "I" ∈ TB) (hdg : decode Y.2.2.1 pc = .ok (.getfield i, 3)) (kk : G sp Y M Z (pc + 3) lv (.int (rI z t 15) :: st) z) : G sp Y M Z pc lv (.ref t :: st) z := g_get (T := TX8) (k := 15) (v := .int (rI z t 15)) hE hk rfl inX8 (by decide) hw rfl rfl hdg kk
theorem ptX8_15 (hE : OK sp Y M) {t i : Nat} {x : Int32} (hk : kd sp t = KX8) (hw : Cond.fieldLink Y.1 i "FoundVirtuesModel" "claims" "I" ∈ TB) (hdg : decode Y.2.2.1 pc = .ok (.putfield i, 3)) (kk : G sp Y M Z (pc + 3) lv st (wI z t 15 x)) : G sp Y M Z pc lv (.int x :: .ref t :: st) z := g_putI (T := TX8) (k := 15) (ty := .int) hE tyX8 tyX8_ok nmX8 hk rfl inX8 (by decide) hw rfl (by decide +kernel) rfl rfl rfl hdg kk
theorem gtX8_16 (hE : OK sp Y M) {t i : Nat} (hk : kd sp t = KX8) (hw : Cond.fieldLink Y.1 i "FoundVirtuesModel" "claimWeek" "[I" ∈ TB) (hdg : decode Y.2.2.1 pc = .ok (.getfield i, 3)) (kk : G sp Y M Z (pc + 3) lv (.ref 10 :: st) z) : G sp Y M Z pc lv (.ref t :: st) z := g_get (T := TX8) (k := 16) (v := .ref 10) hE hk rfl inX8 (by decide) hw rfl rfl hdg kk
theorem gtX8_17 (hE : OK sp Y M) {t i : Nat} (hk : kd sp t = KX8) (hw : Cond.fieldLink Y.1 i "FoundVirtuesModel" "claimOf" "[I" ∈ TB) (hdg : decode Y.2.2.1 pc = .ok (.getfield i, 3)) (kk : G sp Y M Z (pc + 3) lv (.ref 11 :: st) z) : G sp Y M Z pc lv (.ref t :: st) z := g_get (T := TX8) (k := 17) (v := .ref 11) hE hk rfl inX8 (by decide) hw rfl rfl hdg kk
theorem gtX8_18 (hE : OK sp Y M) {t i : Nat} (hk : kd sp t = KX8) (hw : Cond.fieldLink Y.1 i "FoundVirtuesModel" "cameIn" "[I" ∈ TB) (hdg : decode Y.2.2.1 pc = .ok (.getfield i, 3)) (kk : G sp Y M Z (pc + 3) lv (.ref 12 :: st) z) : G sp Y M Z pc lv (.ref t :: st) z := g_get (T := TX8) (k := 18) (v := .ref 12) hE hk rfl inX8 (by decide) hw rfl rfl hdg kk
theorem gtX8_19 (hE : OK sp Y M) {t i : Nat} (hk : kd sp t = KX8) (hw : Cond.fieldLink Y.1 i "FoundVirtuesModel" "goneIn" "[I" ∈ TB) (hdg : decode Y.2.2.1 pc = .ok (.getfield i, 3)) (kk : G sp Y M Z (pc + 3) lv (.ref 13 :: st) z) : G sp Y M Z pc lv (.ref t :: st) z := g_get (T := TX8) (k := 19) (v := .ref 13) hE hk rfl inX8 (by decide) hw rfl rfl hdg kk
theorem gtX8_20 (hE : OK sp Y M) {t i : Nat} (hk : kd sp t = KX8) (hw : Cond.fieldLink Y.1 i "FoundVirtuesModel" "goneTo" "[I" ∈ TB) (hdg : decode Y.2.2.1 pc = .ok (.getfield i, 3)) (kk : G sp Y M Z (pc + 3) lv (.ref 14 :: st) z) : G sp Y M Z pc lv (.ref t :: st) z := g_get (T := TX8) (k := 20) (v := .ref 14) hE hk rfl inX8 (by decide) hw rfl rfl hdg kk
theorem gtX8_21 (hE : OK sp Y M) {t i : Nat} (hk : kd sp t = KX8) (hw : Cond.fieldLink Y.1 i "FoundVirtuesModel" "emptyBits" "I" ∈ TB) (hdg : decode Y.2.2.1 pc = .ok (.getfield i, 3)) (kk : G sp Y M Z (pc + 3) lv (.int (rI z t 21) :: st) z) : G sp Y M Z pc lv (.ref t :: st) z := g_get (T := TX8) (k := 21) (v := .int (rI z t 21)) hE hk rfl inX8 (by decide) hw rfl rfl hdg kk
theorem ptX8_21 (hE : OK sp Y M) {t i : Nat} {x : Int32} (hk : kd sp t = KX8) (hw : Cond.fieldLink Y.1 i "FoundVirtuesModel" "emptyBits" "I" ∈ TB) (hdg : decode Y.2.2.1 pc = .ok (.putfield i, 3)) (kk : G sp Y M Z (pc + 3) lv st (wI z t 21 x)) : G sp Y M Z pc lv (.int x :: .ref t :: st) z := g_putI (T := TX8) (k := 21) (ty := .int) hE tyX8 tyX8_ok nmX8 hk rfl inX8 (by decide) hw rfl (by decide +kernel) rfl rfl rfl hdg kk
theorem gtX8_22 (hE : OK sp Y M) {t i : Nat} (hk : kd sp t = KX8) (hw : Cond.fieldLink Y.1 i "FoundVirtuesModel" "saintNow" "I" ∈ TB) (hdg : decode Y.2.2.1 pc = .ok (.getfield i, 3)) (kk : G sp Y M Z (pc + 3) lv (.int (rI z t 22) :: st) z) : G sp Y M Z pc lv (.ref t :: st) z := g_get (T := TX8) (k := 22) (v := .int (rI z t 22)) hE hk rfl inX8 (by decide) hw rfl rfl hdg kk
theorem ptX8_22 (hE : OK sp Y M) {t i : Nat} {x : Int32} (hk : kd sp t = KX8) (hw : Cond.fieldLink Y.1 i "FoundVirtuesModel" "saintNow" "I" ∈ TB) (hdg : decode Y.2.2.1 pc = .ok (.putfield i, 3)) (kk : G sp Y M Z (pc + 3) lv st (wI z t 22 x)) : G sp Y M Z pc lv (.int x :: .ref t :: st) z := g_putI (T := TX8) (k := 22) (ty := .int) hE tyX8 tyX8_ok nmX8 hk rfl inX8 (by decide) hw rfl (by decide +kernel) rfl rfl rfl hdg kk
theorem gtX8_23 (hE : OK sp Y M) {t i : Nat} (hk : kd sp t = KX8) (hw : Cond.fieldLink Y.1 i "FoundVirtuesModel" "matches" "[I" ∈ TB) (hdg : decode Y.2.2.1 pc = .ok (.getfield i, 3)) (kk : G sp Y M Z (pc + 3) lv (.ref 15 :: st) z) : G sp Y M Z pc lv (.ref t :: st) z := g_get (T := TX8) (k := 23) (v := .ref 15) hE hk rfl inX8 (by decide) hw rfl rfl hdg kk
theorem gtX8_24 (hE : OK sp Y M) {t i : Nat} (hk : kd sp t = KX8) (hw : Cond.fieldLink Y.1 i "FoundVirtuesModel" "matchOf" "[I" ∈ TB) (hdg : decode Y.2.2.1 pc = .ok (.getfield i, 3)) (kk : G sp Y M Z (pc + 3) lv (.ref 16 :: st) z) : G sp Y M Z pc lv (.ref t :: st) z := g_get (T := TX8) (k := 24) (v := .ref 16) hE hk rfl inX8 (by decide) hw rfl rfl hdg kk
theorem gtX8_25 (hE : OK sp Y M) {t i : Nat} (hk : kd sp t = KX8) (hw : Cond.fieldLink Y.1 i "FoundVirtuesModel" "pairs" "[I" ∈ TB) (hdg : decode Y.2.2.1 pc = .ok (.getfield i, 3)) (kk : G sp Y M Z (pc + 3) lv (.ref 17 :: st) z) : G sp Y M Z pc lv (.ref t :: st) z := g_get (T := TX8) (k := 25) (v := .ref 17) hE hk rfl inX8 (by decide) hw rfl rfl hdg kk
theorem gtX8_26 (hE : OK sp Y M) {t i : Nat} (hk : kd sp t = KX8) (hw : Cond.fieldLink Y.1 i "FoundVirtuesModel" "pairOf" "[I" ∈ TB) (hdg : decode Y.2.2.1 pc = .ok (.getfield i, 3)) (kk : G sp Y M Z (pc + 3) lv (.ref 18 :: st) z) : G sp Y M Z pc lv (.ref t :: st) z := g_get (T := TX8) (k := 26) (v := .ref 18) hE hk rfl inX8 (by decide) hw rfl rfl hdg kk
theorem gtX8_27 (hE : OK sp Y M) {t i : Nat} (hk : kd sp t = KX8) (hw : Cond.fieldLink Y.1 i "FoundVirtuesModel" "seens" "I" ∈ TB) (hdg : decode Y.2.2.1 pc = .ok (.getfield i, 3)) (kk : G sp Y M Z (pc + 3) lv (.int (rI z t 27) :: st) z) : G sp Y M Z pc lv (.ref t :: st) z := g_get (T := TX8) (k := 27) (v := .int (rI z t 27)) hE hk rfl inX8 (by decide) hw rfl rfl hdg kk
theorem ptX8_27 (hE : OK sp Y M) {t i : Nat} {x : Int32} (hk : kd sp t = KX8) (hw : Cond.fieldLink Y.1 i "FoundVirtuesModel" "seens" "I" ∈ TB) (hdg : decode Y.2.2.1 pc = .ok (.putfield i, 3)) (kk : G sp Y M Z (pc + 3) lv st (wI z t 27 x)) : G sp Y M Z pc lv (.int x :: .ref t :: st) z := g_putI (T := TX8) (k := 27) (ty := .int) hE tyX8 tyX8_ok nmX8 hk rfl inX8 (by decide) hw rfl (by decide +kernel) rfl rfl rfl hdg kk
theorem gtX8_28 (hE : OK sp Y M) {t i : Nat} (hk : kd sp t = KX8) (hw : Cond.fieldLink Y.1 i "FoundVirtuesModel" "seenWeek" "[I" ∈ TB) (hdg : decode Y.2.2.1 pc = .ok (.getfield i, 3)) (kk : G sp Y M Z (pc + 3) lv (.ref 19 :: st) z) : G sp Y M Z pc lv (.ref t :: st) z := g_get (T := TX8) (k := 28) (v := .ref 19) hE hk rfl inX8 (by decide) hw rfl rfl hdg kk
theorem gtX8_29 (hE : OK sp Y M) {t i : Nat} (hk : kd sp t = KX8) (hw : Cond.fieldLink Y.1 i "FoundVirtuesModel" "seenVirtue" "[I" ∈ TB) (hdg : decode Y.2.2.1 pc = .ok (.getfield i, 3)) (kk : G sp Y M Z (pc + 3) lv (.ref 20 :: st) z) : G sp Y M Z pc lv (.ref t :: st) z := g_get (T := TX8) (k := 29) (v := .ref 20) hE hk rfl inX8 (by decide) hw rfl rfl hdg kk
theorem gtX8_30 (hE : OK sp Y M) {t i : Nat} (hk : kd sp t = KX8) (hw : Cond.fieldLink Y.1 i "FoundVirtuesModel" "seenIs" "[I" ∈ TB) (hdg : decode Y.2.2.1 pc = .ok (.getfield i, 3)) (kk : G sp Y M Z (pc + 3) lv (.ref 21 :: st) z) : G sp Y M Z pc lv (.ref t :: st) z := g_get (T := TX8) (k := 30) (v := .ref 21) hE hk rfl inX8 (by decide) hw rfl rfl hdg kk
theorem gtX8_31 (hE : OK sp Y M) {t i : Nat} (hk : kd sp t = KX8) (hw : Cond.fieldLink Y.1 i "FoundVirtuesModel" "isThere" "[Z" ∈ TB) (hdg : decode Y.2.2.1 pc = .ok (.getfield i, 3)) (kk : G sp Y M Z (pc + 3) lv (.ref 22 :: st) z) : G sp Y M Z pc lv (.ref t :: st) z := g_get (T := TX8) (k := 31) (v := .ref 22) hE hk rfl inX8 (by decide) hw rfl rfl hdg kk
theorem gtX8_32 (hE : OK sp Y M) {t i : Nat} (hk : kd sp t = KX8) (hw : Cond.fieldLink Y.1 i "FoundVirtuesModel" "forms" "[I" ∈ TB) (hdg : decode Y.2.2.1 pc = .ok (.getfield i, 3)) (kk : G sp Y M Z (pc + 3) lv (.ref 23 :: st) z) : G sp Y M Z pc lv (.ref t :: st) z := g_get (T := TX8) (k := 32) (v := .ref 23) hE hk rfl inX8 (by decide) hw rfl rfl hdg kk
theorem gtX8_33 (hE : OK sp Y M) {t i : Nat} (hk : kd sp t = KX8) (hw : Cond.fieldLink Y.1 i "FoundVirtuesModel" "sizes" "[I" ∈ TB) (hdg : decode Y.2.2.1 pc = .ok (.getfield i, 3)) (kk : G sp Y M Z (pc + 3) lv (.ref 24 :: st) z) : G sp Y M Z pc lv (.ref t :: st) z := g_get (T := TX8) (k := 33) (v := .ref 24) hE hk rfl inX8 (by decide) hw rfl rfl hdg kk
theorem gtX8_34 (hE : OK sp Y M) {t i : Nat} (hk : kd sp t = KX8) (hw : Cond.fieldLink Y.1 i "FoundVirtuesModel" "items" "[I" ∈ TB) (hdg : decode Y.2.2.1 pc = .ok (.getfield i, 3)) (kk : G sp Y M Z (pc + 3) lv (.ref 25 :: st) z) : G sp Y M Z pc lv (.ref t :: st) z := g_get (T := TX8) (k := 34) (v := .ref 25) hE hk rfl inX8 (by decide) hw rfl rfl hdg kk
theorem gtX8_35 (hE : OK sp Y M) {t i : Nat} (hk : kd sp t = KX8) (hw : Cond.fieldLink Y.1 i "FoundVirtuesModel" "moved" "[I" ∈ TB) (hdg : decode Y.2.2.1 pc = .ok (.getfield i, 3)) (kk : G sp Y M Z (pc + 3) lv (.ref 26 :: st) z) : G sp Y M Z pc lv (.ref t :: st) z := g_get (T := TX8) (k := 35) (v := .ref 26) hE hk rfl inX8 (by decide) hw rfl rfl hdg kk
theorem gtX8_36 (hE : OK sp Y M) {t i : Nat} (hk : kd sp t = KX8) (hw : Cond.fieldLink Y.1 i "FoundVirtuesModel" "finding" "I" ∈ TB) (hdg : decode Y.2.2.1 pc = .ok (.getfield i, 3)) (kk : G sp Y M Z (pc + 3) lv (.int (rI z t 36) :: st) z) : G sp Y M Z pc lv (.ref t :: st) z := g_get (T := TX8) (k := 36) (v := .int (rI z t 36)) hE hk rfl inX8 (by decide) hw rfl rfl hdg kk
theorem ptX8_36 (hE : OK sp Y M) {t i : Nat} {x : Int32} (hk : kd sp t = KX8) (hw : Cond.fieldLink Y.1 i "FoundVirtuesModel" "finding" "I" ∈ TB) (hdg : decode Y.2.2.1 pc = .ok (.putfield i, 3)) (kk : G sp Y M Z (pc + 3) lv st (wI z t 36 x)) : G sp Y M Z pc lv (.int x :: .ref t :: st) z := g_putI (T := TX8) (k := 36) (ty := .int) hE tyX8 tyX8_ok nmX8 hk rfl inX8 (by decide) hw rfl (by decide +kernel) rfl rfl rfl hdg kk
theorem g_callV0r {Y' : MI} {C : String} {i ci N t : Nat} {T : u_T} {fl : List (Nat × Nat)} {x : Value} {z' : Sg} (hE : OK sp Y M) (hM : MV Y' C 0) (hk : kd sp t = (0, ci, fl)) (hc : vwCl[ci]? = some (C, T, N)) (hw : Cond.methodLink Y.1 i Y'.2.1 ∈ TB) (hd : Y'.2.2.2.2.2 < Y.2.2.2.2.2) (hr : (st.map fun v => v.category).sum ≤ 8) (hdg : decode Y.2.2.1 pc = .ok (.invokevirtual i, 3)) (h : CT sp M.1.2.1 Y' M.2.2 (.ref t :: []) z (some x) z') (k : G sp Y M Z (pc + 3) lv (x :: st) z') : G sp Y M Z pc lv (.ref t :: st) z := g_callV (K := (0, 0)) (As := []) (rest := st) hE hM hk hc hw hd rfl rfl hr hdg h k
theorem g_callS0r {Y' : MI} {i : Nat} {x : Value} {z' : Sg} (hE : OK sp Y M) (hM : MS Y' 0) (hw : Cond.methodLink Y.1 i Y'.2.1 ∈ TB) (hd : Y'.2.2.2.2.2 < Y.2.2.2.2.2) (hr : (st.map fun v => v.category).sum ≤ 8) (hdg : decode Y.2.2.1 pc = .ok (.invokestatic i, 3)) (h : CT sp M.1.2.1 Y' M.2.2 [] z (some x) z') (k : G sp Y M Z (pc + 3) lv (x :: st) z') : G sp Y M Z pc lv (st) z := g_callS (As := []) (rest := st) hE hM hw hd rfl rfl hr hdg h k
theorem g_callN0r {Y' : MI} {i : Nat} {host : String} {x : Value} {z' : Sg} (hE : OK sp Y M) (hM : MS Y' 0) (hw : Cond.methodLinkNest Y.1 i Y'.2.1 host ∈ nestW) (hd : Y'.2.2.2.2.2 < Y.2.2.2.2.2) (hr : (st.map fun v => v.category).sum ≤ 8) (hdg : decode Y.2.2.1 pc = .ok (.invokestatic i, 3)) (h : CT sp M.1.2.1 Y' M.2.2 [] z (some x) z') (k : G sp Y M Z (pc + 3) lv (x :: st) z') : G sp Y M Z pc lv (st) z := g_callSN (As := []) (rest := st) hE hM hw hd rfl rfl hr hdg h k
theorem g_callV0v {Y' : MI} {C : String} {i ci N t : Nat} {T : u_T} {fl : List (Nat × Nat)} {z' : Sg} (hE : OK sp Y M) (hM : MV Y' C 0) (hk : kd sp t = (0, ci, fl)) (hc : vwCl[ci]? = some (C, T, N)) (hw : Cond.methodLink Y.1 i Y'.2.1 ∈ TB) (hd : Y'.2.2.2.2.2 < Y.2.2.2.2.2) (hr : (st.map fun v => v.category).sum ≤ 8) (hdg : decode Y.2.2.1 pc = .ok (.invokevirtual i, 3)) (h : CT sp M.1.2.1 Y' M.2.2 (.ref t :: []) z none z') (k : G sp Y M Z (pc + 3) lv (st) z') : G sp Y M Z pc lv (.ref t :: st) z := g_callV (K := (0, 0)) (As := []) (rest := st) hE hM hk hc hw hd rfl rfl hr hdg h k
theorem g_callS0v {Y' : MI} {i : Nat} {z' : Sg} (hE : OK sp Y M) (hM : MS Y' 0) (hw : Cond.methodLink Y.1 i Y'.2.1 ∈ TB) (hd : Y'.2.2.2.2.2 < Y.2.2.2.2.2) (hr : (st.map fun v => v.category).sum ≤ 8) (hdg : decode Y.2.2.1 pc = .ok (.invokestatic i, 3)) (h : CT sp M.1.2.1 Y' M.2.2 [] z none z') (k : G sp Y M Z (pc + 3) lv (st) z') : G sp Y M Z pc lv (st) z := g_callS (As := []) (rest := st) hE hM hw hd rfl rfl hr hdg h k
theorem g_callN0v {Y' : MI} {i : Nat} {host : String} {z' : Sg} (hE : OK sp Y M) (hM : MS Y' 0) (hw : Cond.methodLinkNest Y.1 i Y'.2.1 host ∈ nestW) (hd : Y'.2.2.2.2.2 < Y.2.2.2.2.2) (hr : (st.map fun v => v.category).sum ≤ 8) (hdg : decode Y.2.2.1 pc = .ok (.invokestatic i, 3)) (h : CT sp M.1.2.1 Y' M.2.2 [] z none z') (k : G sp Y M Z (pc + 3) lv (st) z') : G sp Y M Z pc lv (st) z := g_callSN (As := []) (rest := st) hE hM hw hd rfl rfl hr hdg h k
theorem g_callV1r {Y' : MI} {C : String} {i ci N t : Nat} {T : u_T} {fl : List (Nat × Nat)} {a1 : Value} {x : Value} {z' : Sg} (hE : OK sp Y M) (hM : MV Y' C 1) (hk : kd sp t = (0, ci, fl)) (hc : vwCl[ci]? = some (C, T, N)) (hw : Cond.methodLink Y.1 i Y'.2.1 ∈ TB) (hd : Y'.2.2.2.2.2 < Y.2.2.2.2.2) (hr : (st.map fun v => v.category).sum ≤ 8) (hdg : decode Y.2.2.1 pc = .ok (.invokevirtual i, 3)) (h : CT sp M.1.2.1 Y' M.2.2 (.ref t :: [a1]) z (some x) z') (k : G sp Y M Z (pc + 3) lv (x :: st) z') : G sp Y M Z pc lv (a1 :: .ref t :: st) z := g_callV (K := (0, 0)) (As := [a1]) (rest := st) hE hM hk hc hw hd rfl rfl hr hdg h k
theorem g_callS1r {Y' : MI} {i : Nat} {a1 : Value} {x : Value} {z' : Sg} (hE : OK sp Y M) (hM : MS Y' 1) (hw : Cond.methodLink Y.1 i Y'.2.1 ∈ TB) (hd : Y'.2.2.2.2.2 < Y.2.2.2.2.2) (hr : (st.map fun v => v.category).sum ≤ 8) (hdg : decode Y.2.2.1 pc = .ok (.invokestatic i, 3)) (h : CT sp M.1.2.1 Y' M.2.2 [a1] z (some x) z') (k : G sp Y M Z (pc + 3) lv (x :: st) z') : G sp Y M Z pc lv (a1 :: st) z := g_callS (As := [a1]) (rest := st) hE hM hw hd rfl rfl hr hdg h k
theorem g_callN1r {Y' : MI} {i : Nat} {host : String} {a1 : Value} {x : Value} {z' : Sg} (hE : OK sp Y M) (hM : MS Y' 1) (hw : Cond.methodLinkNest Y.1 i Y'.2.1 host ∈ nestW) (hd : Y'.2.2.2.2.2 < Y.2.2.2.2.2) (hr : (st.map fun v => v.category).sum ≤ 8) (hdg : decode Y.2.2.1 pc = .ok (.invokestatic i, 3)) (h : CT sp M.1.2.1 Y' M.2.2 [a1] z (some x) z') (k : G sp Y M Z (pc + 3) lv (x :: st) z') : G sp Y M Z pc lv (a1 :: st) z := g_callSN (As := [a1]) (rest := st) hE hM hw hd rfl rfl hr hdg h k
theorem g_callV1v {Y' : MI} {C : String} {i ci N t : Nat} {T : u_T} {fl : List (Nat × Nat)} {a1 : Value} {z' : Sg} (hE : OK sp Y M) (hM : MV Y' C 1) (hk : kd sp t = (0, ci, fl)) (hc : vwCl[ci]? = some (C, T, N)) (hw : Cond.methodLink Y.1 i Y'.2.1 ∈ TB) (hd : Y'.2.2.2.2.2 < Y.2.2.2.2.2) (hr : (st.map fun v => v.category).sum ≤ 8) (hdg : decode Y.2.2.1 pc = .ok (.invokevirtual i, 3)) (h : CT sp M.1.2.1 Y' M.2.2 (.ref t :: [a1]) z none z') (k : G sp Y M Z (pc + 3) lv (st) z') : G sp Y M Z pc lv (a1 :: .ref t :: st) z := g_callV (K := (0, 0)) (As := [a1]) (rest := st) hE hM hk hc hw hd rfl rfl hr hdg h k
theorem g_callS1v {Y' : MI} {i : Nat} {a1 : Value} {z' : Sg} (hE : OK sp Y M) (hM : MS Y' 1) (hw : Cond.methodLink Y.1 i Y'.2.1 ∈ TB) (hd : Y'.2.2.2.2.2 < Y.2.2.2.2.2) (hr : (st.map fun v => v.category).sum ≤ 8) (hdg : decode Y.2.2.1 pc = .ok (.invokestatic i, 3)) (h : CT sp M.1.2.1 Y' M.2.2 [a1] z none z') (k : G sp Y M Z (pc + 3) lv (st) z') : G sp Y M Z pc lv (a1 :: st) z := g_callS (As := [a1]) (rest := st) hE hM hw hd rfl rfl hr hdg h k
theorem g_callN1v {Y' : MI} {i : Nat} {host : String} {a1 : Value} {z' : Sg} (hE : OK sp Y M) (hM : MS Y' 1) (hw : Cond.methodLinkNest Y.1 i Y'.2.1 host ∈ nestW) (hd : Y'.2.2.2.2.2 < Y.2.2.2.2.2) (hr : (st.map fun v => v.category).sum ≤ 8) (hdg : decode Y.2.2.1 pc = .ok (.invokestatic i, 3)) (h : CT sp M.1.2.1 Y' M.2.2 [a1] z none z') (k : G sp Y M Z (pc + 3) lv (st) z') : G sp Y M Z pc lv (a1 :: st) z := g_callSN (As := [a1]) (rest := st) hE hM hw hd rfl rfl hr hdg h k
theorem g_callV2r {Y' : MI} {C : String} {i ci N t : Nat} {T : u_T} {fl : List (Nat × Nat)} {a1 a2 : Value} {x : Value} {z' : Sg} (hE : OK sp Y M) (hM : MV Y' C 2) (hk : kd sp t = (0, ci, fl)) (hc : vwCl[ci]? = some (C, T, N)) (hw : Cond.methodLink Y.1 i Y'.2.1 ∈ TB) (hd : Y'.2.2.2.2.2 < Y.2.2.2.2.2) (hr : (st.map fun v => v.category).sum ≤ 8) (hdg : decode Y.2.2.1 pc = .ok (.invokevirtual i, 3)) (h : CT sp M.1.2.1 Y' M.2.2 (.ref t :: [a1, a2]) z (some x) z') (k : G sp Y M Z (pc + 3) lv (x :: st) z') : G sp Y M Z pc lv (a2 :: a1 :: .ref t :: st) z := g_callV (K := (0, 0)) (As := [a1, a2]) (rest := st) hE hM hk hc hw hd rfl rfl hr hdg h k
theorem g_callS2r {Y' : MI} {i : Nat} {a1 a2 : Value} {x : Value} {z' : Sg} (hE : OK sp Y M) (hM : MS Y' 2) (hw : Cond.methodLink Y.1 i Y'.2.1 ∈ TB) (hd : Y'.2.2.2.2.2 < Y.2.2.2.2.2) (hr : (st.map fun v => v.category).sum ≤ 8) (hdg : decode Y.2.2.1 pc = .ok (.invokestatic i, 3)) (h : CT sp M.1.2.1 Y' M.2.2 [a1, a2] z (some x) z') (k : G sp Y M Z (pc + 3) lv (x :: st) z') : G sp Y M Z pc lv (a2 :: a1 :: st) z := g_callS (As := [a1, a2]) (rest := st) hE hM hw hd rfl rfl hr hdg h k
theorem g_callN2r {Y' : MI} {i : Nat} {host : String} {a1 a2 : Value} {x : Value} {z' : Sg} (hE : OK sp Y M) (hM : MS Y' 2) (hw : Cond.methodLinkNest Y.1 i Y'.2.1 host ∈ nestW) (hd : Y'.2.2.2.2.2 < Y.2.2.2.2.2) (hr : (st.map fun v => v.category).sum ≤ 8) (hdg : decode Y.2.2.1 pc = .ok (.invokestatic i, 3)) (h : CT sp M.1.2.1 Y' M.2.2 [a1, a2] z (some x) z') (k : G sp Y M Z (pc + 3) lv (x :: st) z') : G sp Y M Z pc lv (a2 :: a1 :: st) z := g_callSN (As := [a1, a2]) (rest := st) hE hM hw hd rfl rfl hr hdg h k
theorem g_callV2v {Y' : MI} {C : String} {i ci N t : Nat} {T : u_T} {fl : List (Nat × Nat)} {a1 a2 : Value} {z' : Sg} (hE : OK sp Y M) (hM : MV Y' C 2) (hk : kd sp t = (0, ci, fl)) (hc : vwCl[ci]? = some (C, T, N)) (hw : Cond.methodLink Y.1 i Y'.2.1 ∈ TB) (hd : Y'.2.2.2.2.2 < Y.2.2.2.2.2) (hr : (st.map fun v => v.category).sum ≤ 8) (hdg : decode Y.2.2.1 pc = .ok (.invokevirtual i, 3)) (h : CT sp M.1.2.1 Y' M.2.2 (.ref t :: [a1, a2]) z none z') (k : G sp Y M Z (pc + 3) lv (st) z') : G sp Y M Z pc lv (a2 :: a1 :: .ref t :: st) z := g_callV (K := (0, 0)) (As := [a1, a2]) (rest := st) hE hM hk hc hw hd rfl rfl hr hdg h k
theorem g_callS2v {Y' : MI} {i : Nat} {a1 a2 : Value} {z' : Sg} (hE : OK sp Y M) (hM : MS Y' 2) (hw : Cond.methodLink Y.1 i Y'.2.1 ∈ TB) (hd : Y'.2.2.2.2.2 < Y.2.2.2.2.2) (hr : (st.map fun v => v.category).sum ≤ 8) (hdg : decode Y.2.2.1 pc = .ok (.invokestatic i, 3)) (h : CT sp M.1.2.1 Y' M.2.2 [a1, a2] z none z') (k : G sp Y M Z (pc + 3) lv (st) z') : G sp Y M Z pc lv (a2 :: a1 :: st) z := g_callS (As := [a1, a2]) (rest := st) hE hM hw hd rfl rfl hr hdg h k
theorem g_callN2v {Y' : MI} {i : Nat} {host : String} {a1 a2 : Value} {z' : Sg} (hE : OK sp Y M) (hM : MS Y' 2) (hw : Cond.methodLinkNest Y.1 i Y'.2.1 host ∈ nestW) (hd : Y'.2.2.2.2.2 < Y.2.2.2.2.2) (hr : (st.map fun v => v.category).sum ≤ 8) (hdg : decode Y.2.2.1 pc = .ok (.invokestatic i, 3)) (h : CT sp M.1.2.1 Y' M.2.2 [a1, a2] z none z') (k : G sp Y M Z (pc + 3) lv (st) z') : G sp Y M Z pc lv (a2 :: a1 :: st) z := g_callSN (As := [a1, a2]) (rest := st) hE hM hw hd rfl rfl hr hdg h k
theorem g_callV3r {Y' : MI} {C : String} {i ci N t : Nat} {T : u_T} {fl : List (Nat × Nat)} {a1 a2 a3 : Value} {x : Value} {z' : Sg} (hE : OK sp Y M) (hM : MV Y' C 3) (hk : kd sp t = (0, ci, fl)) (hc : vwCl[ci]? = some (C, T, N)) (hw : Cond.methodLink Y.1 i Y'.2.1 ∈ TB) (hd : Y'.2.2.2.2.2 < Y.2.2.2.2.2) (hr : (st.map fun v => v.category).sum ≤ 8) (hdg : decode Y.2.2.1 pc = .ok (.invokevirtual i, 3)) (h : CT sp M.1.2.1 Y' M.2.2 (.ref t :: [a1, a2, a3]) z (some x) z') (k : G sp Y M Z (pc + 3) lv (x :: st) z') : G sp Y M Z pc lv (a3 :: a2 :: a1 :: .ref t :: st) z := g_callV (K := (0, 0)) (As := [a1, a2, a3]) (rest := st) hE hM hk hc hw hd rfl rfl hr hdg h k
theorem g_callS3r {Y' : MI} {i : Nat} {a1 a2 a3 : Value} {x : Value} {z' : Sg} (hE : OK sp Y M) (hM : MS Y' 3) (hw : Cond.methodLink Y.1 i Y'.2.1 ∈ TB) (hd : Y'.2.2.2.2.2 < Y.2.2.2.2.2) (hr : (st.map fun v => v.category).sum ≤ 8) (hdg : decode Y.2.2.1 pc = .ok (.invokestatic i, 3)) (h : CT sp M.1.2.1 Y' M.2.2 [a1, a2, a3] z (some x) z') (k : G sp Y M Z (pc + 3) lv (x :: st) z') : G sp Y M Z pc lv (a3 :: a2 :: a1 :: st) z := g_callS (As := [a1, a2, a3]) (rest := st) hE hM hw hd rfl rfl hr hdg h k
theorem g_callN3r {Y' : MI} {i : Nat} {host : String} {a1 a2 a3 : Value} {x : Value} {z' : Sg} (hE : OK sp Y M) (hM : MS Y' 3) (hw : Cond.methodLinkNest Y.1 i Y'.2.1 host ∈ nestW) (hd : Y'.2.2.2.2.2 < Y.2.2.2.2.2) (hr : (st.map fun v => v.category).sum ≤ 8) (hdg : decode Y.2.2.1 pc = .ok (.invokestatic i, 3)) (h : CT sp M.1.2.1 Y' M.2.2 [a1, a2, a3] z (some x) z') (k : G sp Y M Z (pc + 3) lv (x :: st) z') : G sp Y M Z pc lv (a3 :: a2 :: a1 :: st) z := g_callSN (As := [a1, a2, a3]) (rest := st) hE hM hw hd rfl rfl hr hdg h k
theorem g_callV3v {Y' : MI} {C : String} {i ci N t : Nat} {T : u_T} {fl : List (Nat × Nat)} {a1 a2 a3 : Value} {z' : Sg} (hE : OK sp Y M) (hM : MV Y' C 3) (hk : kd sp t = (0, ci, fl)) (hc : vwCl[ci]? = some (C, T, N)) (hw : Cond.methodLink Y.1 i Y'.2.1 ∈ TB) (hd : Y'.2.2.2.2.2 < Y.2.2.2.2.2) (hr : (st.map fun v => v.category).sum ≤ 8) (hdg : decode Y.2.2.1 pc = .ok (.invokevirtual i, 3)) (h : CT sp M.1.2.1 Y' M.2.2 (.ref t :: [a1, a2, a3]) z none z') (k : G sp Y M Z (pc + 3) lv (st) z') : G sp Y M Z pc lv (a3 :: a2 :: a1 :: .ref t :: st) z := g_callV (K := (0, 0)) (As := [a1, a2, a3]) (rest := st) hE hM hk hc hw hd rfl rfl hr hdg h k
theorem g_callS3v {Y' : MI} {i : Nat} {a1 a2 a3 : Value} {z' : Sg} (hE : OK sp Y M) (hM : MS Y' 3) (hw : Cond.methodLink Y.1 i Y'.2.1 ∈ TB) (hd : Y'.2.2.2.2.2 < Y.2.2.2.2.2) (hr : (st.map fun v => v.category).sum ≤ 8) (hdg : decode Y.2.2.1 pc = .ok (.invokestatic i, 3)) (h : CT sp M.1.2.1 Y' M.2.2 [a1, a2, a3] z none z') (k : G sp Y M Z (pc + 3) lv (st) z') : G sp Y M Z pc lv (a3 :: a2 :: a1 :: st) z := g_callS (As := [a1, a2, a3]) (rest := st) hE hM hw hd rfl rfl hr hdg h k
theorem g_callN3v {Y' : MI} {i : Nat} {host : String} {a1 a2 a3 : Value} {z' : Sg} (hE : OK sp Y M) (hM : MS Y' 3) (hw : Cond.methodLinkNest Y.1 i Y'.2.1 host ∈ nestW) (hd : Y'.2.2.2.2.2 < Y.2.2.2.2.2) (hr : (st.map fun v => v.category).sum ≤ 8) (hdg : decode Y.2.2.1 pc = .ok (.invokestatic i, 3)) (h : CT sp M.1.2.1 Y' M.2.2 [a1, a2, a3] z none z') (k : G sp Y M Z (pc + 3) lv (st) z') : G sp Y M Z pc lv (a3 :: a2 :: a1 :: st) z := g_callSN (As := [a1, a2, a3]) (rest := st) hE hM hw hd rfl rfl hr hdg h k
theorem g_callV4r {Y' : MI} {C : String} {i ci N t : Nat} {T : u_T} {fl : List (Nat × Nat)} {a1 a2 a3 a4 : Value} {x : Value} {z' : Sg} (hE : OK sp Y M) (hM : MV Y' C 4) (hk : kd sp t = (0, ci, fl)) (hc : vwCl[ci]? = some (C, T, N)) (hw : Cond.methodLink Y.1 i Y'.2.1 ∈ TB) (hd : Y'.2.2.2.2.2 < Y.2.2.2.2.2) (hr : (st.map fun v => v.category).sum ≤ 8) (hdg : decode Y.2.2.1 pc = .ok (.invokevirtual i, 3)) (h : CT sp M.1.2.1 Y' M.2.2 (.ref t :: [a1, a2, a3, a4]) z (some x) z') (k : G sp Y M Z (pc + 3) lv (x :: st) z') : G sp Y M Z pc lv (a4 :: a3 :: a2 :: a1 :: .ref t :: st) z := g_callV (K := (0, 0)) (As := [a1, a2, a3, a4]) (rest := st) hE hM hk hc hw hd rfl rfl hr hdg h k
theorem g_callS4r {Y' : MI} {i : Nat} {a1 a2 a3 a4 : Value} {x : Value} {z' : Sg} (hE : OK sp Y M) (hM : MS Y' 4) (hw : Cond.methodLink Y.1 i Y'.2.1 ∈ TB) (hd : Y'.2.2.2.2.2 < Y.2.2.2.2.2) (hr : (st.map fun v => v.category).sum ≤ 8) (hdg : decode Y.2.2.1 pc = .ok (.invokestatic i, 3)) (h : CT sp M.1.2.1 Y' M.2.2 [a1, a2, a3, a4] z (some x) z') (k : G sp Y M Z (pc + 3) lv (x :: st) z') : G sp Y M Z pc lv (a4 :: a3 :: a2 :: a1 :: st) z := g_callS (As := [a1, a2, a3, a4]) (rest := st) hE hM hw hd rfl rfl hr hdg h k
theorem g_callN4r {Y' : MI} {i : Nat} {host : String} {a1 a2 a3 a4 : Value} {x : Value} {z' : Sg} (hE : OK sp Y M) (hM : MS Y' 4) (hw : Cond.methodLinkNest Y.1 i Y'.2.1 host ∈ nestW) (hd : Y'.2.2.2.2.2 < Y.2.2.2.2.2) (hr : (st.map fun v => v.category).sum ≤ 8) (hdg : decode Y.2.2.1 pc = .ok (.invokestatic i, 3)) (h : CT sp M.1.2.1 Y' M.2.2 [a1, a2, a3, a4] z (some x) z') (k : G sp Y M Z (pc + 3) lv (x :: st) z') : G sp Y M Z pc lv (a4 :: a3 :: a2 :: a1 :: st) z := g_callSN (As := [a1, a2, a3, a4]) (rest := st) hE hM hw hd rfl rfl hr hdg h k
theorem g_callV4v {Y' : MI} {C : String} {i ci N t : Nat} {T : u_T} {fl : List (Nat × Nat)} {a1 a2 a3 a4 : Value} {z' : Sg} (hE : OK sp Y M) (hM : MV Y' C 4) (hk : kd sp t = (0, ci, fl)) (hc : vwCl[ci]? = some (C, T, N)) (hw : Cond.methodLink Y.1 i Y'.2.1 ∈ TB) (hd : Y'.2.2.2.2.2 < Y.2.2.2.2.2) (hr : (st.map fun v => v.category).sum ≤ 8) (hdg : decode Y.2.2.1 pc = .ok (.invokevirtual i, 3)) (h : CT sp M.1.2.1 Y' M.2.2 (.ref t :: [a1, a2, a3, a4]) z none z') (k : G sp Y M Z (pc + 3) lv (st) z') : G sp Y M Z pc lv (a4 :: a3 :: a2 :: a1 :: .ref t :: st) z := g_callV (K := (0, 0)) (As := [a1, a2, a3, a4]) (rest := st) hE hM hk hc hw hd rfl rfl hr hdg h k
theorem g_callS4v {Y' : MI} {i : Nat} {a1 a2 a3 a4 : Value} {z' : Sg} (hE : OK sp Y M) (hM : MS Y' 4) (hw : Cond.methodLink Y.1 i Y'.2.1 ∈ TB) (hd : Y'.2.2.2.2.2 < Y.2.2.2.2.2) (hr : (st.map fun v => v.category).sum ≤ 8) (hdg : decode Y.2.2.1 pc = .ok (.invokestatic i, 3)) (h : CT sp M.1.2.1 Y' M.2.2 [a1, a2, a3, a4] z none z') (k : G sp Y M Z (pc + 3) lv (st) z') : G sp Y M Z pc lv (a4 :: a3 :: a2 :: a1 :: st) z := g_callS (As := [a1, a2, a3, a4]) (rest := st) hE hM hw hd rfl rfl hr hdg h k
theorem g_callN4v {Y' : MI} {i : Nat} {host : String} {a1 a2 a3 a4 : Value} {z' : Sg} (hE : OK sp Y M) (hM : MS Y' 4) (hw : Cond.methodLinkNest Y.1 i Y'.2.1 host ∈ nestW) (hd : Y'.2.2.2.2.2 < Y.2.2.2.2.2) (hr : (st.map fun v => v.category).sum ≤ 8) (hdg : decode Y.2.2.1 pc = .ok (.invokestatic i, 3)) (h : CT sp M.1.2.1 Y' M.2.2 [a1, a2, a3, a4] z none z') (k : G sp Y M Z (pc + 3) lv (st) z') : G sp Y M Z pc lv (a4 :: a3 :: a2 :: a1 :: st) z := g_callSN (As := [a1, a2, a3, a4]) (rest := st) hE hM hw hd rfl rfl hr hdg h k
theorem g_callV5r {Y' : MI} {C : String} {i ci N t : Nat} {T : u_T} {fl : List (Nat × Nat)} {a1 a2 a3 a4 a5 : Value} {x : Value} {z' : Sg} (hE : OK sp Y M) (hM : MV Y' C 5) (hk : kd sp t = (0, ci, fl)) (hc : vwCl[ci]? = some (C, T, N)) (hw : Cond.methodLink Y.1 i Y'.2.1 ∈ TB) (hd : Y'.2.2.2.2.2 < Y.2.2.2.2.2) (hr : (st.map fun v => v.category).sum ≤ 8) (hdg : decode Y.2.2.1 pc = .ok (.invokevirtual i, 3)) (h : CT sp M.1.2.1 Y' M.2.2 (.ref t :: [a1, a2, a3, a4, a5]) z (some x) z') (k : G sp Y M Z (pc + 3) lv (x :: st) z') : G sp Y M Z pc lv (a5 :: a4 :: a3 :: a2 :: a1 :: .ref t :: st) z := g_callV (K := (0, 0)) (As := [a1, a2, a3, a4, a5]) (rest := st) hE hM hk hc hw hd rfl rfl hr hdg h k
theorem g_callS5r {Y' : MI} {i : Nat} {a1 a2 a3 a4 a5 : Value} {x : Value} {z' : Sg} (hE : OK sp Y M) (hM : MS Y' 5) (hw : Cond.methodLink Y.1 i Y'.2.1 ∈ TB) (hd : Y'.2.2.2.2.2 < Y.2.2.2.2.2) (hr : (st.map fun v => v.category).sum ≤ 8) (hdg : decode Y.2.2.1 pc = .ok (.invokestatic i, 3)) (h : CT sp M.1.2.1 Y' M.2.2 [a1, a2, a3, a4, a5] z (some x) z') (k : G sp Y M Z (pc + 3) lv (x :: st) z') : G sp Y M Z pc lv (a5 :: a4 :: a3 :: a2 :: a1 :: st) z := g_callS (As := [a1, a2, a3, a4, a5]) (rest := st) hE hM hw hd rfl rfl hr hdg h k
theorem g_callN5r {Y' : MI} {i : Nat} {host : String} {a1 a2 a3 a4 a5 : Value} {x : Value} {z' : Sg} (hE : OK sp Y M) (hM : MS Y' 5) (hw : Cond.methodLinkNest Y.1 i Y'.2.1 host ∈ nestW) (hd : Y'.2.2.2.2.2 < Y.2.2.2.2.2) (hr : (st.map fun v => v.category).sum ≤ 8) (hdg : decode Y.2.2.1 pc = .ok (.invokestatic i, 3)) (h : CT sp M.1.2.1 Y' M.2.2 [a1, a2, a3, a4, a5] z (some x) z') (k : G sp Y M Z (pc + 3) lv (x :: st) z') : G sp Y M Z pc lv (a5 :: a4 :: a3 :: a2 :: a1 :: st) z := g_callSN (As := [a1, a2, a3, a4, a5]) (rest := st) hE hM hw hd rfl rfl hr hdg h k
theorem g_callV5v {Y' : MI} {C : String} {i ci N t : Nat} {T : u_T} {fl : List (Nat × Nat)} {a1 a2 a3 a4 a5 : Value} {z' : Sg} (hE : OK sp Y M) (hM : MV Y' C 5) (hk : kd sp t = (0, ci, fl)) (hc : vwCl[ci]? = some (C, T, N)) (hw : Cond.methodLink Y.1 i Y'.2.1 ∈ TB) (hd : Y'.2.2.2.2.2 < Y.2.2.2.2.2) (hr : (st.map fun v => v.category).sum ≤ 8) (hdg : decode Y.2.2.1 pc = .ok (.invokevirtual i, 3)) (h : CT sp M.1.2.1 Y' M.2.2 (.ref t :: [a1, a2, a3, a4, a5]) z none z') (k : G sp Y M Z (pc + 3) lv (st) z') : G sp Y M Z pc lv (a5 :: a4 :: a3 :: a2 :: a1 :: .ref t :: st) z := g_callV (K := (0, 0)) (As := [a1, a2, a3, a4, a5]) (rest := st) hE hM hk hc hw hd rfl rfl hr hdg h k
theorem g_callS5v {Y' : MI} {i : Nat} {a1 a2 a3 a4 a5 : Value} {z' : Sg} (hE : OK sp Y M) (hM : MS Y' 5) (hw : Cond.methodLink Y.1 i Y'.2.1 ∈ TB) (hd : Y'.2.2.2.2.2 < Y.2.2.2.2.2) (hr : (st.map fun v => v.category).sum ≤ 8) (hdg : decode Y.2.2.1 pc = .ok (.invokestatic i, 3)) (h : CT sp M.1.2.1 Y' M.2.2 [a1, a2, a3, a4, a5] z none z') (k : G sp Y M Z (pc + 3) lv (st) z') : G sp Y M Z pc lv (a5 :: a4 :: a3 :: a2 :: a1 :: st) z := g_callS (As := [a1, a2, a3, a4, a5]) (rest := st) hE hM hw hd rfl rfl hr hdg h k
theorem g_callN5v {Y' : MI} {i : Nat} {host : String} {a1 a2 a3 a4 a5 : Value} {z' : Sg} (hE : OK sp Y M) (hM : MS Y' 5) (hw : Cond.methodLinkNest Y.1 i Y'.2.1 host ∈ nestW) (hd : Y'.2.2.2.2.2 < Y.2.2.2.2.2) (hr : (st.map fun v => v.category).sum ≤ 8) (hdg : decode Y.2.2.1 pc = .ok (.invokestatic i, 3)) (h : CT sp M.1.2.1 Y' M.2.2 [a1, a2, a3, a4, a5] z none z') (k : G sp Y M Z (pc + 3) lv (st) z') : G sp Y M Z pc lv (a5 :: a4 :: a3 :: a2 :: a1 :: st) z := g_callSN (As := [a1, a2, a3, a4, a5]) (rest := st) hE hM hw hd rfl rfl hr hdg h k
end FieldRows
abbrev iX1_faultPlace : MI := (RX1, yX1_faultPlace, cX1_faultPlace, 1, (some .int), 0)
theorem mv_X1_faultPlace : MV iX1_faultPlace RX1 0 := ⟨tbm 381 (by decide +kernel) (by decide +kernel), tbm 379 (by decide +kernel) (by decide +kernel), tbm 380 (by decide +kernel) (by decide +kernel), tbm 68 (by decide +kernel) (by decide +kernel), by decide +kernel, by decide⟩
abbrev iX1_countWhole : MI := (RX1, yX1_countWhole, cX1_countWhole, 1, none, 1)
theorem mv_X1_countWhole : MV iX1_countWhole RX1 0 := ⟨tbm 377 (by decide +kernel) (by decide +kernel), tbm 376 (by decide +kernel) (by decide +kernel), tbm 4 (by decide +kernel) (by decide +kernel), tbm 68 (by decide +kernel) (by decide +kernel), by decide +kernel, by decide⟩
abbrev iX1_takesFigure : MI := (RX1, yX1_takesFigure, cX1_takesFigure, 3, (some .boolean), 0)
theorem mv_X1_takesFigure : MV iX1_takesFigure RX1 2 := ⟨tbm 373 (by decide +kernel) (by decide +kernel), tbm 372 (by decide +kernel) (by decide +kernel), tbm 3 (by decide +kernel) (by decide +kernel), tbm 68 (by decide +kernel) (by decide +kernel), by decide +kernel, by decide⟩
abbrev iX1_takesLetter : MI := (RX1, yX1_takesLetter, cX1_takesLetter, 4, (some .boolean), 0)
theorem mv_X1_takesLetter : MV iX1_takesLetter RX1 3 := ⟨tbm 369 (by decide +kernel) (by decide +kernel), tbm 368 (by decide +kernel) (by decide +kernel), tbm 2 (by decide +kernel) (by decide +kernel), tbm 68 (by decide +kernel) (by decide +kernel), by decide +kernel, by decide⟩
abbrev iX1_takes : MI := (RX1, yX1_takes, cX1_takes, 4, (some .boolean), 1)
theorem mv_X1_takes : MV iX1_takes RX1 1 := ⟨tbm 365 (by decide +kernel) (by decide +kernel), tbm 364 (by decide +kernel) (by decide +kernel), tbm 1 (by decide +kernel) (by decide +kernel), tbm 68 (by decide +kernel) (by decide +kernel), by decide +kernel, by decide⟩
abbrev iX1_add : MI := (RX1, yX1_add, cX1_add, 2, none, 2)
theorem mv_X1_add : MV iX1_add RX1 1 := ⟨tbm 361 (by decide +kernel) (by decide +kernel), tbm 359 (by decide +kernel) (by decide +kernel), tbm 360 (by decide +kernel) (by decide +kernel), tbm 68 (by decide +kernel) (by decide +kernel), by decide +kernel, by decide⟩
abbrev iX7_outside : MI := (RX7, yX7_outside, cX7_outside, 2, (some .boolean), 0)
theorem ms_X7_outside : MS iX7_outside 2 := ⟨tbm 353 (by decide +kernel) (by decide +kernel), tbm 352 (by decide +kernel) (by decide +kernel), tbm 67 (by decide +kernel) (by decide +kernel), by decide +kernel, by decide⟩
abbrev iX7_textChanged : MI := (RX7, yX7_textChanged, cX7_textChanged, 1, none, 0)
theorem mv_X7_textChanged : MV iX7_textChanged RX7 0 := ⟨tbm 385 (by decide +kernel) (by decide +kernel), tbm 384 (by decide +kernel) (by decide +kernel), tbm 5 (by decide +kernel) (by decide +kernel), tbm 67 (by decide +kernel) (by decide +kernel), by decide +kernel, by decide⟩
abbrev iX7_textOf : MI := (RX7, yX7_textOf, cX7_textOf, 2, (some (.object "FoundVirtues$Entries")), 0)
theorem mv_X7_textOf : MV iX7_textOf RX7 1 := ⟨tbm 357 (by decide +kernel) (by decide +kernel), tbm 356 (by decide +kernel) (by decide +kernel), tbm 0 (by decide +kernel) (by decide +kernel), tbm 67 (by decide +kernel) (by decide +kernel), by decide +kernel, by decide⟩
abbrev iX7_type : MI := (RX7, yX7_type, cX7_type, 4, (some .int), 3)
theorem mv_X7_type : MV iX7_type RX7 2 := ⟨tbm 350 (by decide +kernel) (by decide +kernel), tbm 348 (by decide +kernel) (by decide +kernel), tbm 349 (by decide +kernel) (by decide +kernel), tbm 67 (by decide +kernel) (by decide +kernel), by decide +kernel, by decide⟩
abbrev iX1_clear : MI := (RX1, yX1_clear, cX1_clear, 1, none, 0)
theorem mv_X1_clear : MV iX1_clear RX1 0 := ⟨tbm 393 (by decide +kernel) (by decide +kernel), tbm 391 (by decide +kernel) (by decide +kernel), tbm 392 (by decide +kernel) (by decide +kernel), tbm 68 (by decide +kernel) (by decide +kernel), by decide +kernel, by decide⟩
abbrev iX7_wipe : MI := (RX7, yX7_wipe, cX7_wipe, 4, (some .int), 1)
theorem mv_X7_wipe : MV iX7_wipe RX7 1 := ⟨tbm 389 (by decide +kernel) (by decide +kernel), tbm 387 (by decide +kernel) (by decide +kernel), tbm 388 (by decide +kernel) (by decide +kernel), tbm 67 (by decide +kernel) (by decide +kernel), by decide +kernel, by decide⟩
abbrev iX1_dropLast : MI := (RX1, yX1_dropLast, cX1_dropLast, 1, none, 2)
theorem mv_X1_dropLast : MV iX1_dropLast RX1 0 := ⟨tbm 401 (by decide +kernel) (by decide +kernel), tbm 399 (by decide +kernel) (by decide +kernel), tbm 400 (by decide +kernel) (by decide +kernel), tbm 68 (by decide +kernel) (by decide +kernel), by decide +kernel, by decide⟩
abbrev iX7_undo : MI := (RX7, yX7_undo, cX7_undo, 3, (some .int), 3)
theorem mv_X7_undo : MV iX7_undo RX7 1 := ⟨tbm 397 (by decide +kernel) (by decide +kernel), tbm 395 (by decide +kernel) (by decide +kernel), tbm 396 (by decide +kernel) (by decide +kernel), tbm 67 (by decide +kernel) (by decide +kernel), by decide +kernel, by decide⟩
abbrev iX7_fault : MI := (RX7, yX7_fault, cX7_fault, 2, (some .int), 1)
theorem mv_X7_fault : MV iX7_fault RX7 1 := ⟨tbm 405 (by decide +kernel) (by decide +kernel), tbm 403 (by decide +kernel) (by decide +kernel), tbm 404 (by decide +kernel) (by decide +kernel), tbm 67 (by decide +kernel) (by decide +kernel), by decide +kernel, by decide⟩
abbrev iX7_noVirtue : MI := (RX7, yX7_noVirtue, cX7_noVirtue, 2, (some .boolean), 1)
theorem mv_X7_noVirtue : MV iX7_noVirtue RX7 1 := ⟨tbm 414 (by decide +kernel) (by decide +kernel), tbm 413 (by decide +kernel) (by decide +kernel), tbm 6 (by decide +kernel) (by decide +kernel), tbm 67 (by decide +kernel) (by decide +kernel), by decide +kernel, by decide⟩
abbrev iX7_virtue : MI := (RX7, yX7_virtue, cX7_virtue, 3, (some .int), 2)
theorem mv_X7_virtue : MV iX7_virtue RX7 2 := ⟨tbm 410 (by decide +kernel) (by decide +kernel), tbm 408 (by decide +kernel) (by decide +kernel), tbm 409 (by decide +kernel) (by decide +kernel), tbm 67 (by decide +kernel) (by decide +kernel), by decide +kernel, by decide⟩
abbrev iX7_noClaimant : MI := (RX7, yX7_noClaimant, cX7_noClaimant, 2, (some .boolean), 1)
theorem mv_X7_noClaimant : MV iX7_noClaimant RX7 1 := ⟨tbm 422 (by decide +kernel) (by decide +kernel), tbm 421 (by decide +kernel) (by decide +kernel), tbm 7 (by decide +kernel) (by decide +kernel), tbm 67 (by decide +kernel) (by decide +kernel), by decide +kernel, by decide⟩
abbrev iX7_claimant : MI := (RX7, yX7_claimant, cX7_claimant, 3, (some .int), 2)
theorem mv_X7_claimant : MV iX7_claimant RX7 2 := ⟨tbm 418 (by decide +kernel) (by decide +kernel), tbm 416 (by decide +kernel) (by decide +kernel), tbm 417 (by decide +kernel) (by decide +kernel), tbm 67 (by decide +kernel) (by decide +kernel), by decide +kernel, by decide⟩
abbrev iX7_set : MI := (RX7, yX7_set, cX7_set, 4, (some .int), 0)
theorem mv_X7_set : MV iX7_set RX7 2 := ⟨tbm 426 (by decide +kernel) (by decide +kernel), tbm 424 (by decide +kernel) (by decide +kernel), tbm 425 (by decide +kernel) (by decide +kernel), tbm 67 (by decide +kernel) (by decide +kernel), by decide +kernel, by decide⟩
abbrev iX0_add : MI := (RX0, yX0_add, cX0_add, 3, (some .int), 1)
theorem mv_X0_add : MV iX0_add RX0 2 := ⟨tbm 434 (by decide +kernel) (by decide +kernel), tbm 432 (by decide +kernel) (by decide +kernel), tbm 433 (by decide +kernel) (by decide +kernel), tbm 70 (by decide +kernel) (by decide +kernel), by decide +kernel, by decide⟩
abbrev iX7_handing : MI := (RX7, yX7_handing, cX7_handing, 3, (some .int), 2)
theorem mv_X7_handing : MV iX7_handing RX7 2 := ⟨tbm 430 (by decide +kernel) (by decide +kernel), tbm 428 (by decide +kernel) (by decide +kernel), tbm 429 (by decide +kernel) (by decide +kernel), tbm 67 (by decide +kernel) (by decide +kernel), by decide +kernel, by decide⟩
abbrev iX7_claim : MI := (RX7, yX7_claim, cX7_claim, 3, (some .int), 2)
theorem mv_X7_claim : MV iX7_claim RX7 2 := ⟨tbm 439 (by decide +kernel) (by decide +kernel), tbm 437 (by decide +kernel) (by decide +kernel), tbm 438 (by decide +kernel) (by decide +kernel), tbm 67 (by decide +kernel) (by decide +kernel), by decide +kernel, by decide⟩
abbrev iX7_back : MI := (RX7, yX7_back, cX7_back, 3, (some .int), 1)
theorem mv_X7_back : MV iX7_back RX7 1 := ⟨tbm 443 (by decide +kernel) (by decide +kernel), tbm 441 (by decide +kernel) (by decide +kernel), tbm 442 (by decide +kernel) (by decide +kernel), tbm 67 (by decide +kernel) (by decide +kernel), by decide +kernel, by decide⟩
abbrev iX7_found : MI := (RX7, yX7_found, cX7_found, 2, (some .int), 0)
theorem mv_X7_found : MV iX7_found RX7 1 := ⟨tbm 455 (by decide +kernel) (by decide +kernel), tbm 454 (by decide +kernel) (by decide +kernel), tbm 8 (by decide +kernel) (by decide +kernel), tbm 67 (by decide +kernel) (by decide +kernel), by decide +kernel, by decide⟩
abbrev iX5_isLost : MI := (RX5, yX5_isLost, cX5_isLost, 1, (some .boolean), 0)
theorem mv_X5_isLost : MV iX5_isLost RX5 0 := ⟨tbm 451 (by decide +kernel) (by decide +kernel), tbm 449 (by decide +kernel) (by decide +kernel), tbm 450 (by decide +kernel) (by decide +kernel), tbm 74 (by decide +kernel) (by decide +kernel), by decide +kernel, by decide⟩
abbrev iX7_read : MI := (RX7, yX7_read, cX7_read, 5, (some .int), 3)
theorem mv_X7_read : MV iX7_read RX7 1 := ⟨tbm 447 (by decide +kernel) (by decide +kernel), tbm 445 (by decide +kernel) (by decide +kernel), tbm 446 (by decide +kernel) (by decide +kernel), tbm 67 (by decide +kernel) (by decide +kernel), by decide +kernel, by decide⟩
abbrev iJ7_fill_53178 : MI := (RJ7, yJ7_fill_53178, cJ7_fill_53178, 4, none, 0)
theorem ms_J7_fill_53178 : MS iJ7_fill_53178 2 := ⟨tbm 471 (by decide +kernel) (by decide +kernel), tbm 470 (by decide +kernel) (by decide +kernel), tbm 76 (by decide +kernel) (by decide +kernel), by decide +kernel, by decide⟩
abbrev iJ6_bitCount_0f7a4 : MI := (RJ6, yJ6_bitCount_0f7a4, cJ6_bitCount_0f7a4, 1, (some .int), 0)
theorem ms_J6_bitCount_0f7a4 : MS iJ6_bitCount_0f7a4 1 := ⟨tbm 486 (by decide +kernel) (by decide +kernel), tbm 485 (by decide +kernel) (by decide +kernel), tbm 77 (by decide +kernel) (by decide +kernel), by decide +kernel, by decide⟩
abbrev iX2_saysEnough : MI := (RX2, yX2_saysEnough, cX2_saysEnough, 2, (some .boolean), 1)
theorem mv_X2_saysEnough : MV iX2_saysEnough RX2 1 := ⟨tbm 483 (by decide +kernel) (by decide +kernel), tbm 481 (by decide +kernel) (by decide +kernel), tbm 482 (by decide +kernel) (by decide +kernel), tbm 69 (by decide +kernel) (by decide +kernel), by decide +kernel, by decide⟩
abbrev iX2_isFitting : MI := (RX2, yX2_isFitting, cX2_isFitting, 4, (some .boolean), 0)
theorem mv_X2_isFitting : MV iX2_isFitting RX2 2 := ⟨tbm 479 (by decide +kernel) (by decide +kernel), tbm 478 (by decide +kernel) (by decide +kernel), tbm 10 (by decide +kernel) (by decide +kernel), tbm 69 (by decide +kernel) (by decide +kernel), by decide +kernel, by decide⟩
abbrev iX2_virtuesFittedBy : MI := (RX2, yX2_virtuesFittedBy, cX2_virtuesFittedBy, 4, (some .int), 1)
theorem mv_X2_virtuesFittedBy : MV iX2_virtuesFittedBy RX2 1 := ⟨tbm 475 (by decide +kernel) (by decide +kernel), tbm 473 (by decide +kernel) (by decide +kernel), tbm 474 (by decide +kernel) (by decide +kernel), tbm 69 (by decide +kernel) (by decide +kernel), by decide +kernel, by decide⟩
abbrev iX4_come : MI := (RX4, yX4_come, cX4_come, 7, none, 0)
theorem mv_X4_come : MV iX4_come RX4 3 := ⟨tbm 497 (by decide +kernel) (by decide +kernel), tbm 495 (by decide +kernel) (by decide +kernel), tbm 496 (by decide +kernel) (by decide +kernel), tbm 72 (by decide +kernel) (by decide +kernel), by decide +kernel, by decide⟩
abbrev iX4_hand : MI := (RX4, yX4_hand, cX4_hand, 3, none, 0)
theorem mv_X4_hand : MV iX4_hand RX4 2 := ⟨tbm 493 (by decide +kernel) (by decide +kernel), tbm 491 (by decide +kernel) (by decide +kernel), tbm 492 (by decide +kernel) (by decide +kernel), tbm 72 (by decide +kernel) (by decide +kernel), by decide +kernel, by decide⟩
abbrev iX4_load : MI := (RX4, yX4_load, cX4_load, 4, none, 2)
theorem mv_X4_load : MV iX4_load RX4 2 := ⟨tbm 468 (by decide +kernel) (by decide +kernel), tbm 466 (by decide +kernel) (by decide +kernel), tbm 467 (by decide +kernel) (by decide +kernel), tbm 72 (by decide +kernel) (by decide +kernel), by decide +kernel, by decide⟩
abbrev iX4_begin : MI := (RX4, yX4_begin, cX4_begin, 1, none, 1)
theorem mv_X4_begin : MV iX4_begin RX4 0 := ⟨tbm 505 (by decide +kernel) (by decide +kernel), tbm 504 (by decide +kernel) (by decide +kernel), tbm 11 (by decide +kernel) (by decide +kernel), tbm 72 (by decide +kernel) (by decide +kernel), by decide +kernel, by decide⟩
abbrev iX4_bringIn : MI := (RX4, yX4_bringIn, cX4_bringIn, 3, none, 0)
theorem mv_X4_bringIn : MV iX4_bringIn RX4 1 := ⟨tbm 509 (by decide +kernel) (by decide +kernel), tbm 508 (by decide +kernel) (by decide +kernel), tbm 12 (by decide +kernel) (by decide +kernel), tbm 72 (by decide +kernel) (by decide +kernel), by decide +kernel, by decide⟩
abbrev iX4_sell : MI := (RX4, yX4_sell, cX4_sell, 5, none, 0)
theorem mv_X4_sell : MV iX4_sell RX4 1 := ⟨tbm 525 (by decide +kernel) (by decide +kernel), tbm 524 (by decide +kernel) (by decide +kernel), tbm 15 (by decide +kernel) (by decide +kernel), tbm 72 (by decide +kernel) (by decide +kernel), by decide +kernel, by decide⟩
abbrev iX2_leastWorthOf : MI := (RX2, yX2_leastWorthOf, cX2_leastWorthOf, 5, (some .int), 0)
theorem mv_X2_leastWorthOf : MV iX2_leastWorthOf RX2 1 := ⟨tbm 517 (by decide +kernel) (by decide +kernel), tbm 515 (by decide +kernel) (by decide +kernel), tbm 516 (by decide +kernel) (by decide +kernel), tbm 69 (by decide +kernel) (by decide +kernel), by decide +kernel, by decide⟩
abbrev iX4_give : MI := (RX4, yX4_give, cX4_give, 4, none, 0)
theorem mv_X4_give : MV iX4_give RX4 3 := ⟨tbm 521 (by decide +kernel) (by decide +kernel), tbm 520 (by decide +kernel) (by decide +kernel), tbm 14 (by decide +kernel) (by decide +kernel), tbm 72 (by decide +kernel) (by decide +kernel), by decide +kernel, by decide⟩
abbrev iX4_serve : MI := (RX4, yX4_serve, cX4_serve, 6, none, 1)
theorem mv_X4_serve : MV iX4_serve RX4 2 := ⟨tbm 513 (by decide +kernel) (by decide +kernel), tbm 512 (by decide +kernel) (by decide +kernel), tbm 13 (by decide +kernel) (by decide +kernel), tbm 72 (by decide +kernel) (by decide +kernel), by decide +kernel, by decide⟩
abbrev iX4_play : MI := (RX4, yX4_play, cX4_play, 4, none, 2)
theorem mv_X4_play : MV iX4_play RX4 1 := ⟨tbm 501 (by decide +kernel) (by decide +kernel), tbm 499 (by decide +kernel) (by decide +kernel), tbm 500 (by decide +kernel) (by decide +kernel), tbm 72 (by decide +kernel) (by decide +kernel), by decide +kernel, by decide⟩
abbrev iX7_toldRun : MI := (RX7, yX7_toldRun, cX7_toldRun, 1, (some (.object "FoundVirtues$Run")), 3)
theorem mv_X7_toldRun : MV iX7_toldRun RX7 0 := ⟨tbm 464 (by decide +kernel) (by decide +kernel), tbm 463 (by decide +kernel) (by decide +kernel), tbm 9 (by decide +kernel) (by decide +kernel), tbm 67 (by decide +kernel) (by decide +kernel), by decide +kernel, by decide⟩
abbrev iX7_behind : MI := (RX7, yX7_behind, cX7_behind, 4, (some .int), 4)
theorem mv_X7_behind : MV iX7_behind RX7 2 := ⟨tbm 460 (by decide +kernel) (by decide +kernel), tbm 458 (by decide +kernel) (by decide +kernel), tbm 459 (by decide +kernel) (by decide +kernel), tbm 67 (by decide +kernel) (by decide +kernel), by decide +kernel, by decide⟩
abbrev iX7_gone : MI := (RX7, yX7_gone, cX7_gone, 4, (some .int), 4)
theorem mv_X7_gone : MV iX7_gone RX7 2 := ⟨tbm 529 (by decide +kernel) (by decide +kernel), tbm 527 (by decide +kernel) (by decide +kernel), tbm 528 (by decide +kernel) (by decide +kernel), tbm 67 (by decide +kernel) (by decide +kernel), by decide +kernel, by decide⟩
abbrev iX7_empty : MI := (RX7, yX7_empty, cX7_empty, 4, (some .int), 4)
theorem mv_X7_empty : MV iX7_empty RX7 0 := ⟨tbm 533 (by decide +kernel) (by decide +kernel), tbm 531 (by decide +kernel) (by decide +kernel), tbm 532 (by decide +kernel) (by decide +kernel), tbm 67 (by decide +kernel) (by decide +kernel), by decide +kernel, by decide⟩
abbrev iX7_sale : MI := (RX7, yX7_sale, cX7_sale, 4, (some .int), 4)
theorem mv_X7_sale : MV iX7_sale RX7 0 := ⟨tbm 537 (by decide +kernel) (by decide +kernel), tbm 535 (by decide +kernel) (by decide +kernel), tbm 536 (by decide +kernel) (by decide +kernel), tbm 67 (by decide +kernel) (by decide +kernel), by decide +kernel, by decide⟩
abbrev iX7_saint : MI := (RX7, yX7_saint, cX7_saint, 1, (some .int), 4)
theorem mv_X7_saint : MV iX7_saint RX7 0 := ⟨tbm 541 (by decide +kernel) (by decide +kernel), tbm 539 (by decide +kernel) (by decide +kernel), tbm 540 (by decide +kernel) (by decide +kernel), tbm 67 (by decide +kernel) (by decide +kernel), by decide +kernel, by decide⟩
abbrev iX2_claimantsFitting : MI := (RX2, yX2_claimantsFitting, cX2_claimantsFitting, 4, (some .int), 1)
theorem mv_X2_claimantsFitting : MV iX2_claimantsFitting RX2 1 := ⟨tbm 550 (by decide +kernel) (by decide +kernel), tbm 548 (by decide +kernel) (by decide +kernel), tbm 549 (by decide +kernel) (by decide +kernel), tbm 69 (by decide +kernel) (by decide +kernel), by decide +kernel, by decide⟩
abbrev iX7_fitting : MI := (RX7, yX7_fitting, cX7_fitting, 3, (some .int), 2)
theorem mv_X7_fitting : MV iX7_fitting RX7 2 := ⟨tbm 545 (by decide +kernel) (by decide +kernel), tbm 543 (by decide +kernel) (by decide +kernel), tbm 544 (by decide +kernel) (by decide +kernel), tbm 67 (by decide +kernel) (by decide +kernel), by decide +kernel, by decide⟩
abbrev iJ7_fill_d0a16 : MI := (RJ7, yJ7_fill_d0a16, cJ7_fill_d0a16, 5, none, 0)
theorem ms_J7_fill_d0a16 : MS iJ7_fill_d0a16 2 := ⟨tbm 565 (by decide +kernel) (by decide +kernel), tbm 564 (by decide +kernel) (by decide +kernel), tbm 76 (by decide +kernel) (by decide +kernel), by decide +kernel, by decide⟩
abbrev iJ9_max_f86c9 : MI := (RJ9, yJ9_max_f86c9, cJ9_max_f86c9, 4, (some .long), 0)
theorem ms_J9_max_f86c9 : MS iJ9_max_f86c9 2 := ⟨tbm 577 (by decide +kernel) (by decide +kernel), tbm 576 (by decide +kernel) (by decide +kernel), tbm 78 (by decide +kernel) (by decide +kernel), by decide +kernel, by decide⟩
abbrev iX3_digit : MI := (RX3, yX3_digit, cX3_digit, 2, (some .long), 0)
theorem ms_X3_digit : MS iX3_digit 2 := ⟨tbm 574 (by decide +kernel) (by decide +kernel), tbm 573 (by decide +kernel) (by decide +kernel), tbm 73 (by decide +kernel) (by decide +kernel), by decide +kernel, by decide⟩
abbrev iX3_withOneMore : MI := (RX3, yX3_withOneMore, cX3_withOneMore, 11, (some .long), 1)
theorem mv_X3_withOneMore : MV iX3_withOneMore RX3 4 := ⟨tbm 570 (by decide +kernel) (by decide +kernel), tbm 569 (by decide +kernel) (by decide +kernel), tbm 17 (by decide +kernel) (by decide +kernel), tbm 73 (by decide +kernel) (by decide +kernel), by decide +kernel, by decide⟩
abbrev iX3_findMatch : MI := (RX3, yX3_findMatch, cX3_findMatch, 8, none, 2)
theorem mv_X3_findMatch : MV iX3_findMatch RX3 1 := ⟨tbm 562 (by decide +kernel) (by decide +kernel), tbm 560 (by decide +kernel) (by decide +kernel), tbm 561 (by decide +kernel) (by decide +kernel), tbm 73 (by decide +kernel) (by decide +kernel), by decide +kernel, by decide⟩
abbrev iJ6_numberOfTrailingZeros_0f7a4 : MI := (RJ6, yJ6_numberOfTrailingZeros_0f7a4, cJ6_numberOfTrailingZeros_0f7a4, 2, (some .int), 0)
theorem ms_J6_numberOfTrailingZeros_0f7a4 : MS iJ6_numberOfTrailingZeros_0f7a4 1 := ⟨tbm 588 (by decide +kernel) (by decide +kernel), tbm 587 (by decide +kernel) (by decide +kernel), tbm 77 (by decide +kernel) (by decide +kernel), by decide +kernel, by decide⟩
abbrev iX3_firstPaired : MI := (RX3, yX3_firstPaired, cX3_firstPaired, 11, (some .long), 1)
theorem mv_X3_firstPaired : MV iX3_firstPaired RX3 2 := ⟨tbm 585 (by decide +kernel) (by decide +kernel), tbm 584 (by decide +kernel) (by decide +kernel), tbm 18 (by decide +kernel) (by decide +kernel), tbm 73 (by decide +kernel) (by decide +kernel), by decide +kernel, by decide⟩
abbrev iX3_findPairs : MI := (RX3, yX3_findPairs, cX3_findPairs, 4, none, 2)
theorem mv_X3_findPairs : MV iX3_findPairs RX3 1 := ⟨tbm 581 (by decide +kernel) (by decide +kernel), tbm 579 (by decide +kernel) (by decide +kernel), tbm 580 (by decide +kernel) (by decide +kernel), tbm 73 (by decide +kernel) (by decide +kernel), by decide +kernel, by decide⟩
abbrev iX7_bestRows : MI := (RX7, yX7_bestRows, cX7_bestRows, 1, (some (.object "FoundVirtues$Rows")), 3)
theorem mv_X7_bestRows : MV iX7_bestRows RX7 0 := ⟨tbm 558 (by decide +kernel) (by decide +kernel), tbm 557 (by decide +kernel) (by decide +kernel), tbm 16 (by decide +kernel) (by decide +kernel), tbm 67 (by decide +kernel) (by decide +kernel), by decide +kernel, by decide⟩
abbrev iX3_countOf : MI := (RX3, yX3_countOf, cX3_countOf, 2, (some .int), 0)
theorem ms_X3_countOf : MS iX3_countOf 1 := ⟨tbm 593 (by decide +kernel) (by decide +kernel), tbm 592 (by decide +kernel) (by decide +kernel), tbm 73 (by decide +kernel) (by decide +kernel), by decide +kernel, by decide⟩
abbrev iX3_otherOf : MI := (RX3, yX3_otherOf, cX3_otherOf, 4, (some .int), 0)
theorem ms_X3_otherOf : MS iX3_otherOf 2 := ⟨tbm 599 (by decide +kernel) (by decide +kernel), tbm 598 (by decide +kernel) (by decide +kernel), tbm 73 (by decide +kernel) (by decide +kernel), by decide +kernel, by decide⟩
abbrev iX3_worthOf : MI := (RX3, yX3_worthOf, cX3_worthOf, 2, (some .int), 0)
theorem ms_X3_worthOf : MS iX3_worthOf 1 := ⟨tbm 596 (by decide +kernel) (by decide +kernel), tbm 595 (by decide +kernel) (by decide +kernel), tbm 73 (by decide +kernel) (by decide +kernel), by decide +kernel, by decide⟩
abbrev iX7_match : MI := (RX7, yX7_match, cX7_match, 4, (some .int), 4)
theorem mv_X7_match : MV iX7_match RX7 1 := ⟨tbm 554 (by decide +kernel) (by decide +kernel), tbm 552 (by decide +kernel) (by decide +kernel), tbm 553 (by decide +kernel) (by decide +kernel), tbm 67 (by decide +kernel) (by decide +kernel), by decide +kernel, by decide⟩
abbrev iJ9_max_7cf53 : MI := (RJ9, yJ9_max_7cf53, cJ9_max_7cf53, 2, (some .int), 0)
theorem ms_J9_max_7cf53 : MS iJ9_max_7cf53 2 := ⟨tbm 611 (by decide +kernel) (by decide +kernel), tbm 610 (by decide +kernel) (by decide +kernel), tbm 78 (by decide +kernel) (by decide +kernel), by decide +kernel, by decide⟩
abbrev iX2_highOf : MI := (RX2, yX2_highOf, cX2_highOf, 5, (some .int), 0)
theorem mv_X2_highOf : MV iX2_highOf RX2 2 := ⟨tbm 607 (by decide +kernel) (by decide +kernel), tbm 605 (by decide +kernel) (by decide +kernel), tbm 606 (by decide +kernel) (by decide +kernel), tbm 69 (by decide +kernel) (by decide +kernel), by decide +kernel, by decide⟩
abbrev iX7_ask : MI := (RX7, yX7_ask, cX7_ask, 8, (some .int), 2)
theorem mv_X7_ask : MV iX7_ask RX7 1 := ⟨tbm 603 (by decide +kernel) (by decide +kernel), tbm 601 (by decide +kernel) (by decide +kernel), tbm 602 (by decide +kernel) (by decide +kernel), tbm 67 (by decide +kernel) (by decide +kernel), by decide +kernel, by decide⟩
abbrev iX2_alikeIn : MI := (RX2, yX2_alikeIn, cX2_alikeIn, 5, (some .int), 0)
theorem mv_X2_alikeIn : MV iX2_alikeIn RX2 2 := ⟨tbm 623 (by decide +kernel) (by decide +kernel), tbm 622 (by decide +kernel) (by decide +kernel), tbm 19 (by decide +kernel) (by decide +kernel), tbm 69 (by decide +kernel) (by decide +kernel), by decide +kernel, by decide⟩
abbrev iX2_onlyOneSuch : MI := (RX2, yX2_onlyOneSuch, cX2_onlyOneSuch, 3, (some .boolean), 1)
theorem mv_X2_onlyOneSuch : MV iX2_onlyOneSuch RX2 2 := ⟨tbm 619 (by decide +kernel) (by decide +kernel), tbm 617 (by decide +kernel) (by decide +kernel), tbm 618 (by decide +kernel) (by decide +kernel), tbm 69 (by decide +kernel) (by decide +kernel), by decide +kernel, by decide⟩
abbrev iX7_lie : MI := (RX7, yX7_lie, cX7_lie, 6, (some .int), 2)
theorem mv_X7_lie : MV iX7_lie RX7 1 := ⟨tbm 615 (by decide +kernel) (by decide +kernel), tbm 613 (by decide +kernel) (by decide +kernel), tbm 614 (by decide +kernel) (by decide +kernel), tbm 67 (by decide +kernel) (by decide +kernel), by decide +kernel, by decide⟩
abbrev iJ9_min_7cf53 : MI := (RJ9, yJ9_min_7cf53, cJ9_min_7cf53, 2, (some .int), 0)
theorem ms_J9_min_7cf53 : MS iJ9_min_7cf53 2 := ⟨tbm 643 (by decide +kernel) (by decide +kernel), tbm 642 (by decide +kernel) (by decide +kernel), tbm 78 (by decide +kernel) (by decide +kernel), by decide +kernel, by decide⟩
abbrev iX7_greatestDivisor : MI := (RX7, yX7_greatestDivisor, cX7_greatestDivisor, 3, (some .int), 1)
theorem ms_X7_greatestDivisor : MS iX7_greatestDivisor 2 := ⟨tbm 640 (by decide +kernel) (by decide +kernel), tbm 639 (by decide +kernel) (by decide +kernel), tbm 67 (by decide +kernel) (by decide +kernel), by decide +kernel, by decide⟩
abbrev iX2_alikeInOpen : MI := (RX2, yX2_alikeInOpen, cX2_alikeInOpen, 3, (some .int), 1)
theorem mv_X2_alikeInOpen : MV iX2_alikeInOpen RX2 2 := ⟨tbm 632 (by decide +kernel) (by decide +kernel), tbm 630 (by decide +kernel) (by decide +kernel), tbm 631 (by decide +kernel) (by decide +kernel), tbm 69 (by decide +kernel) (by decide +kernel), by decide +kernel, by decide⟩
abbrev iX2_mostOfOneKind : MI := (RX2, yX2_mostOfOneKind, cX2_mostOfOneKind, 5, (some .int), 1)
theorem mv_X2_mostOfOneKind : MV iX2_mostOfOneKind RX2 1 := ⟨tbm 636 (by decide +kernel) (by decide +kernel), tbm 634 (by decide +kernel) (by decide +kernel), tbm 635 (by decide +kernel) (by decide +kernel), tbm 69 (by decide +kernel) (by decide +kernel), by decide +kernel, by decide⟩
abbrev iX7_guess : MI := (RX7, yX7_guess, cX7_guess, 7, (some .long), 2)
theorem mv_X7_guess : MV iX7_guess RX7 2 := ⟨tbm 627 (by decide +kernel) (by decide +kernel), tbm 625 (by decide +kernel) (by decide +kernel), tbm 626 (by decide +kernel) (by decide +kernel), tbm 67 (by decide +kernel) (by decide +kernel), by decide +kernel, by decide⟩
abbrev iX7_guarded : MI := (RX7, yX7_guarded, cX7_guarded, 5, (some .boolean), 2)
theorem mv_X7_guarded : MV iX7_guarded RX7 2 := ⟨tbm 651 (by decide +kernel) (by decide +kernel), tbm 650 (by decide +kernel) (by decide +kernel), tbm 20 (by decide +kernel) (by decide +kernel), tbm 67 (by decide +kernel) (by decide +kernel), by decide +kernel, by decide⟩
abbrev iX7_guard : MI := (RX7, yX7_guard, cX7_guard, 6, (some .int), 3)
theorem mv_X7_guard : MV iX7_guard RX7 1 := ⟨tbm 647 (by decide +kernel) (by decide +kernel), tbm 645 (by decide +kernel) (by decide +kernel), tbm 646 (by decide +kernel) (by decide +kernel), tbm 67 (by decide +kernel) (by decide +kernel), by decide +kernel, by decide⟩
abbrev iX2_wantedBy : MI := (RX2, yX2_wantedBy, cX2_wantedBy, 2, (some .int), 2)
theorem mv_X2_wantedBy : MV iX2_wantedBy RX2 1 := ⟨tbm 663 (by decide +kernel) (by decide +kernel), tbm 661 (by decide +kernel) (by decide +kernel), tbm 662 (by decide +kernel) (by decide +kernel), tbm 69 (by decide +kernel) (by decide +kernel), by decide +kernel, by decide⟩
abbrev iX7_shelfPlace : MI := (RX7, yX7_shelfPlace, cX7_shelfPlace, 7, (some .int), 3)
theorem mv_X7_shelfPlace : MV iX7_shelfPlace RX7 2 := ⟨tbm 659 (by decide +kernel) (by decide +kernel), tbm 658 (by decide +kernel) (by decide +kernel), tbm 21 (by decide +kernel) (by decide +kernel), tbm 67 (by decide +kernel) (by decide +kernel), by decide +kernel, by decide⟩
abbrev iX7_shelves : MI := (RX7, yX7_shelves, cX7_shelves, 6, (some .int), 4)
theorem mv_X7_shelves : MV iX7_shelves RX7 1 := ⟨tbm 655 (by decide +kernel) (by decide +kernel), tbm 653 (by decide +kernel) (by decide +kernel), tbm 654 (by decide +kernel) (by decide +kernel), tbm 67 (by decide +kernel) (by decide +kernel), by decide +kernel, by decide⟩
abbrev iX7_together : MI := (RX7, yX7_together, cX7_together, 4, (some .int), 4)
theorem mv_X7_together : MV iX7_together RX7 1 := ⟨tbm 668 (by decide +kernel) (by decide +kernel), tbm 666 (by decide +kernel) (by decide +kernel), tbm 667 (by decide +kernel) (by decide +kernel), tbm 67 (by decide +kernel) (by decide +kernel), by decide +kernel, by decide⟩
abbrev iX6_add : MI := (RX6, yX6_add, cX6_add, 4, (some .int), 1)
theorem mv_X6_add : MV iX6_add RX6 3 := ⟨tbm 676 (by decide +kernel) (by decide +kernel), tbm 674 (by decide +kernel) (by decide +kernel), tbm 675 (by decide +kernel) (by decide +kernel), tbm 71 (by decide +kernel) (by decide +kernel), by decide +kernel, by decide⟩
abbrev iX7_seen : MI := (RX7, yX7_seen, cX7_seen, 4, (some .int), 2)
theorem mv_X7_seen : MV iX7_seen RX7 3 := ⟨tbm 672 (by decide +kernel) (by decide +kernel), tbm 670 (by decide +kernel) (by decide +kernel), tbm 671 (by decide +kernel) (by decide +kernel), tbm 67 (by decide +kernel) (by decide +kernel), by decide +kernel, by decide⟩
abbrev iX7_forget : MI := (RX7, yX7_forget, cX7_forget, 2, (some .int), 0)
theorem mv_X7_forget : MV iX7_forget RX7 0 := ⟨tbm 681 (by decide +kernel) (by decide +kernel), tbm 679 (by decide +kernel) (by decide +kernel), tbm 680 (by decide +kernel) (by decide +kernel), tbm 67 (by decide +kernel) (by decide +kernel), by decide +kernel, by decide⟩
abbrev iX6_agreeWith : MI := (RX6, yX6_agreeWith, cX6_agreeWith, 3, (some .boolean), 0)
theorem mv_X6_agreeWith : MV iX6_agreeWith RX6 1 := ⟨tbm 699 (by decide +kernel) (by decide +kernel), tbm 697 (by decide +kernel) (by decide +kernel), tbm 698 (by decide +kernel) (by decide +kernel), tbm 71 (by decide +kernel) (by decide +kernel), by decide +kernel, by decide⟩
abbrev iX6_lastWeek : MI := (RX6, yX6_lastWeek, cX6_lastWeek, 3, (some .int), 1)
theorem mv_X6_lastWeek : MV iX6_lastWeek RX6 0 := ⟨tbm 694 (by decide +kernel) (by decide +kernel), tbm 692 (by decide +kernel) (by decide +kernel), tbm 693 (by decide +kernel) (by decide +kernel), tbm 71 (by decide +kernel) (by decide +kernel), by decide +kernel, by decide⟩
abbrev iX7_comesOutSo : MI := (RX7, yX7_comesOutSo, cX7_comesOutSo, 4, (some .boolean), 3)
theorem mv_X7_comesOutSo : MV iX7_comesOutSo RX7 2 := ⟨tbm 689 (by decide +kernel) (by decide +kernel), tbm 688 (by decide +kernel) (by decide +kernel), tbm 22 (by decide +kernel) (by decide +kernel), tbm 67 (by decide +kernel) (by decide +kernel), by decide +kernel, by decide⟩
abbrev iX7_when : MI := (RX7, yX7_when, cX7_when, 4, (some .int), 4)
theorem mv_X7_when : MV iX7_when RX7 1 := ⟨tbm 685 (by decide +kernel) (by decide +kernel), tbm 683 (by decide +kernel) (by decide +kernel), tbm 684 (by decide +kernel) (by decide +kernel), tbm 67 (by decide +kernel) (by decide +kernel), by decide +kernel, by decide⟩
abbrev iX7_nextSeed : MI := (RX7, yX7_nextSeed, cX7_nextSeed, 1, (some .int), 0)
theorem ms_X7_nextSeed : MS iX7_nextSeed 1 := ⟨tbm 710 (by decide +kernel) (by decide +kernel), tbm 709 (by decide +kernel) (by decide +kernel), tbm 67 (by decide +kernel) (by decide +kernel), by decide +kernel, by decide⟩
abbrev iX7_drawLots : MI := (RX7, yX7_drawLots, cX7_drawLots, 7, none, 1)
theorem mv_X7_drawLots : MV iX7_drawLots RX7 2 := ⟨tbm 707 (by decide +kernel) (by decide +kernel), tbm 706 (by decide +kernel) (by decide +kernel), tbm 23 (by decide +kernel) (by decide +kernel), tbm 67 (by decide +kernel) (by decide +kernel), by decide +kernel, by decide⟩
abbrev iX7_weeks : MI := (RX7, yX7_weeks, cX7_weeks, 4, (some .int), 3)
theorem mv_X7_weeks : MV iX7_weeks RX7 3 := ⟨tbm 703 (by decide +kernel) (by decide +kernel), tbm 701 (by decide +kernel) (by decide +kernel), tbm 702 (by decide +kernel) (by decide +kernel), tbm 67 (by decide +kernel) (by decide +kernel), by decide +kernel, by decide⟩
abbrev iX5_renew : MI := (RX5, yX5_renew, cX5_renew, 3, none, 1)
theorem mv_X5_renew : MV iX5_renew RX5 2 := ⟨tbm 720 (by decide +kernel) (by decide +kernel), tbm 718 (by decide +kernel) (by decide +kernel), tbm 719 (by decide +kernel) (by decide +kernel), tbm 74 (by decide +kernel) (by decide +kernel), by decide +kernel, by decide⟩
abbrev iX7_sheet : MI := (RX7, yX7_sheet, cX7_sheet, 4, (some .int), 2)
theorem mv_X7_sheet : MV iX7_sheet RX7 3 := ⟨tbm 716 (by decide +kernel) (by decide +kernel), tbm 714 (by decide +kernel) (by decide +kernel), tbm 715 (by decide +kernel) (by decide +kernel), tbm 67 (by decide +kernel) (by decide +kernel), by decide +kernel, by decide⟩
abbrev iX7_lose : MI := (RX7, yX7_lose, cX7_lose, 4, (some .int), 1)
theorem mv_X7_lose : MV iX7_lose RX7 1 := ⟨tbm 725 (by decide +kernel) (by decide +kernel), tbm 723 (by decide +kernel) (by decide +kernel), tbm 724 (by decide +kernel) (by decide +kernel), tbm 67 (by decide +kernel) (by decide +kernel), by decide +kernel, by decide⟩
abbrev iX5_findingAt : MI := (RX5, yX5_findingAt, cX5_findingAt, 3, (some .int), 1)
theorem mv_X5_findingAt : MV iX5_findingAt RX5 2 := ⟨tbm 733 (by decide +kernel) (by decide +kernel), tbm 731 (by decide +kernel) (by decide +kernel), tbm 732 (by decide +kernel) (by decide +kernel), tbm 74 (by decide +kernel) (by decide +kernel), by decide +kernel, by decide⟩
abbrev iX5_store : MI := (RX5, yX5_store, cX5_store, 3, none, 0)
theorem mv_X5_store : MV iX5_store RX5 2 := ⟨tbm 739 (by decide +kernel) (by decide +kernel), tbm 737 (by decide +kernel) (by decide +kernel), tbm 738 (by decide +kernel) (by decide +kernel), tbm 74 (by decide +kernel) (by decide +kernel), by decide +kernel, by decide⟩
abbrev iX7_put : MI := (RX7, yX7_put, cX7_put, 6, (some .int), 2)
theorem mv_X7_put : MV iX7_put RX7 4 := ⟨tbm 729 (by decide +kernel) (by decide +kernel), tbm 727 (by decide +kernel) (by decide +kernel), tbm 728 (by decide +kernel) (by decide +kernel), tbm 67 (by decide +kernel) (by decide +kernel), by decide +kernel, by decide⟩
abbrev iX7_get : MI := (RX7, yX7_get, cX7_get, 5, (some .int), 2)
theorem mv_X7_get : MV iX7_get RX7 3 := ⟨tbm 743 (by decide +kernel) (by decide +kernel), tbm 741 (by decide +kernel) (by decide +kernel), tbm 742 (by decide +kernel) (by decide +kernel), tbm 67 (by decide +kernel) (by decide +kernel), by decide +kernel, by decide⟩
abbrev iX5_hasRange : MI := (RX5, yX5_hasRange, cX5_hasRange, 3, (some .boolean), 0)
theorem mv_X5_hasRange : MV iX5_hasRange RX5 2 := ⟨tbm 752 (by decide +kernel) (by decide +kernel), tbm 750 (by decide +kernel) (by decide +kernel), tbm 751 (by decide +kernel) (by decide +kernel), tbm 74 (by decide +kernel) (by decide +kernel), by decide +kernel, by decide⟩
abbrev iX7_copy : MI := (RX7, yX7_copy, cX7_copy, 8, (some .int), 1)
theorem mv_X7_copy : MV iX7_copy RX7 5 := ⟨tbm 748 (by decide +kernel) (by decide +kernel), tbm 746 (by decide +kernel) (by decide +kernel), tbm 747 (by decide +kernel) (by decide +kernel), tbm 67 (by decide +kernel) (by decide +kernel), by decide +kernel, by decide⟩
abbrev iX7_write : MI := (RX7, yX7_write, cX7_write, 6, (some .int), 4)
theorem mv_X7_write : MV iX7_write RX7 1 := ⟨tbm 759 (by decide +kernel) (by decide +kernel), tbm 757 (by decide +kernel) (by decide +kernel), tbm 758 (by decide +kernel) (by decide +kernel), tbm 67 (by decide +kernel) (by decide +kernel), by decide +kernel, by decide⟩
abbrev iX2_worthOfAll : MI := (RX2, yX2_worthOfAll, cX2_worthOfAll, 3, (some .int), 0)
theorem mv_X2_worthOfAll : MV iX2_worthOfAll RX2 0 := ⟨tbm 767 (by decide +kernel) (by decide +kernel), tbm 765 (by decide +kernel) (by decide +kernel), tbm 766 (by decide +kernel) (by decide +kernel), tbm 69 (by decide +kernel) (by decide +kernel), by decide +kernel, by decide⟩
abbrev iX7_count : MI := (RX7, yX7_count, cX7_count, 2, (some .int), 1)
theorem mv_X7_count : MV iX7_count RX7 1 := ⟨tbm 763 (by decide +kernel) (by decide +kernel), tbm 761 (by decide +kernel) (by decide +kernel), tbm 762 (by decide +kernel) (by decide +kernel), tbm 67 (by decide +kernel) (by decide +kernel), by decide +kernel, by decide⟩
abbrev iX7_mixed : MI := (RX7, yX7_mixed, cX7_mixed, 4, (some .long), 0)
theorem ms_X7_mixed : MS iX7_mixed 2 := ⟨tbm 776 (by decide +kernel) (by decide +kernel), tbm 775 (by decide +kernel) (by decide +kernel), tbm 67 (by decide +kernel) (by decide +kernel), by decide +kernel, by decide⟩
abbrev iX7_claimantMixed : MI := (RX7, yX7_claimantMixed, cX7_claimantMixed, 6, (some .long), 3)
theorem mv_X7_claimantMixed : MV iX7_claimantMixed RX7 2 := ⟨tbm 794 (by decide +kernel) (by decide +kernel), tbm 793 (by decide +kernel) (by decide +kernel), tbm 25 (by decide +kernel) (by decide +kernel), tbm 67 (by decide +kernel) (by decide +kernel), by decide +kernel, by decide⟩
abbrev iX7_virtueMixed : MI := (RX7, yX7_virtueMixed, cX7_virtueMixed, 6, (some .long), 5)
theorem mv_X7_virtueMixed : MV iX7_virtueMixed RX7 2 := ⟨tbm 782 (by decide +kernel) (by decide +kernel), tbm 781 (by decide +kernel) (by decide +kernel), tbm 24 (by decide +kernel) (by decide +kernel), tbm 67 (by decide +kernel) (by decide +kernel), by decide +kernel, by decide⟩
abbrev iX7_weekMixed : MI := (RX7, yX7_weekMixed, cX7_weekMixed, 6, (some .long), 5)
theorem mv_X7_weekMixed : MV iX7_weekMixed RX7 2 := ⟨tbm 800 (by decide +kernel) (by decide +kernel), tbm 799 (by decide +kernel) (by decide +kernel), tbm 26 (by decide +kernel) (by decide +kernel), tbm 67 (by decide +kernel) (by decide +kernel), by decide +kernel, by decide⟩
abbrev iX7_wholeMixed : MI := (RX7, yX7_wholeMixed, cX7_wholeMixed, 5, (some .long), 5)
theorem mv_X7_wholeMixed : MV iX7_wholeMixed RX7 1 := ⟨tbm 805 (by decide +kernel) (by decide +kernel), tbm 804 (by decide +kernel) (by decide +kernel), tbm 27 (by decide +kernel) (by decide +kernel), tbm 67 (by decide +kernel) (by decide +kernel), by decide +kernel, by decide⟩
abbrev iX7_digest : MI := (RX7, yX7_digest, cX7_digest, 4, (some .long), 6)
theorem mv_X7_digest : MV iX7_digest RX7 0 := ⟨tbm 771 (by decide +kernel) (by decide +kernel), tbm 769 (by decide +kernel) (by decide +kernel), tbm 770 (by decide +kernel) (by decide +kernel), tbm 67 (by decide +kernel) (by decide +kernel), by decide +kernel, by decide⟩
abbrev iX8_in : MI := (RX8, yX8_in, cX8_in, 3, (some .boolean), 0)
theorem ms_X8_in : MS iX8_in 3 := ⟨tbm 940 (by decide +kernel) (by decide +kernel), tbm 939 (by decide +kernel) (by decide +kernel), tbm 75 (by decide +kernel) (by decide +kernel), by decide +kernel, by decide⟩
abbrev iX8_isIn : MI := (RX8, yX8_isIn, cX8_isIn, 2, (some .boolean), 0)
theorem ms_X8_isIn : MS iX8_isIn 2 := ⟨tbm 1088 (by decide +kernel) (by decide +kernel), tbm 1087 (by decide +kernel) (by decide +kernel), tbm 75 (by decide +kernel) (by decide +kernel), by decide +kernel, by decide⟩
abbrev iX8_ones : MI := (RX8, yX8_ones, cX8_ones, 3, (some .int), 0)
theorem ms_X8_ones : MS iX8_ones 1 := ⟨tbm 1053 (by decide +kernel) (by decide +kernel), tbm 1052 (by decide +kernel) (by decide +kernel), tbm 75 (by decide +kernel) (by decide +kernel), by decide +kernel, by decide⟩
abbrev iX8_no : MI := (RX8, yX8_no, cX8_no, 1, (some .long), 0)
theorem ms_X8_no : MS iX8_no 1 := ⟨tbm 1146 (by decide +kernel) (by decide +kernel), tbm 1145 (by decide +kernel) (by decide +kernel), tbm 75 (by decide +kernel) (by decide +kernel), by decide +kernel, by decide⟩
abbrev iX8_lowest : MI := (RX8, yX8_lowest, cX8_lowest, 11, (some .long), 0)
theorem ms_X8_lowest : MS iX8_lowest 3 := ⟨tbm 1143 (by decide +kernel) (by decide +kernel), tbm 1142 (by decide +kernel) (by decide +kernel), tbm 75 (by decide +kernel) (by decide +kernel), by decide +kernel, by decide⟩
abbrev iX8_isText : MI := (RX8, yX8_isText, cX8_isText, 1, (some .boolean), 1)
theorem ms_X8_isText : MS iX8_isText 1 := ⟨tbm 937 (by decide +kernel) (by decide +kernel), tbm 936 (by decide +kernel) (by decide +kernel), tbm 75 (by decide +kernel) (by decide +kernel), by decide +kernel, by decide⟩
abbrev iX8_isEight : MI := (RX8, yX8_isEight, cX8_isEight, 1, (some .boolean), 1)
theorem ms_X8_isEight : MS iX8_isEight 1 := ⟨tbm 1002 (by decide +kernel) (by decide +kernel), tbm 1001 (by decide +kernel) (by decide +kernel), tbm 75 (by decide +kernel) (by decide +kernel), by decide +kernel, by decide⟩
abbrev iX8_isWeek : MI := (RX8, yX8_isWeek, cX8_isWeek, 1, (some .boolean), 1)
theorem ms_X8_isWeek : MS iX8_isWeek 1 := ⟨tbm 999 (by decide +kernel) (by decide +kernel), tbm 998 (by decide +kernel) (by decide +kernel), tbm 75 (by decide +kernel) (by decide +kernel), by decide +kernel, by decide⟩
abbrev iX8_type : MI := (RX8, yX8_type, cX8_type, 3, (some .int), 2)
theorem mv_X8_type : MV iX8_type RX8 2 := ⟨tbm 934 (by decide +kernel) (by decide +kernel), tbm 932 (by decide +kernel) (by decide +kernel), tbm 933 (by decide +kernel) (by decide +kernel), tbm 75 (by decide +kernel) (by decide +kernel), by decide +kernel, by decide⟩
abbrev iX8_wipe : MI := (RX8, yX8_wipe, cX8_wipe, 3, (some .int), 2)
theorem mv_X8_wipe : MV iX8_wipe RX8 1 := ⟨tbm 944 (by decide +kernel) (by decide +kernel), tbm 942 (by decide +kernel) (by decide +kernel), tbm 943 (by decide +kernel) (by decide +kernel), tbm 75 (by decide +kernel) (by decide +kernel), by decide +kernel, by decide⟩
abbrev iX8_undo : MI := (RX8, yX8_undo, cX8_undo, 2, (some .int), 2)
theorem mv_X8_undo : MV iX8_undo RX8 1 := ⟨tbm 948 (by decide +kernel) (by decide +kernel), tbm 946 (by decide +kernel) (by decide +kernel), tbm 947 (by decide +kernel) (by decide +kernel), tbm 75 (by decide +kernel) (by decide +kernel), by decide +kernel, by decide⟩
abbrev iX8_readsOne : MI := (RX8, yX8_readsOne, cX8_readsOne, 8, (some .int), 1)
theorem mv_X8_readsOne : MV iX8_readsOne RX8 3 := ⟨tbm 964 (by decide +kernel) (by decide +kernel), tbm 963 (by decide +kernel) (by decide +kernel), tbm 30 (by decide +kernel) (by decide +kernel), tbm 75 (by decide +kernel) (by decide +kernel), by decide +kernel, by decide⟩
abbrev iX8_readsText : MI := (RX8, yX8_readsText, cX8_readsText, 5, (some .int), 2)
theorem mv_X8_readsText : MV iX8_readsText RX8 1 := ⟨tbm 960 (by decide +kernel) (by decide +kernel), tbm 959 (by decide +kernel) (by decide +kernel), tbm 29 (by decide +kernel) (by decide +kernel), tbm 75 (by decide +kernel) (by decide +kernel), by decide +kernel, by decide⟩
abbrev iX8_faultOf : MI := (RX8, yX8_faultOf, cX8_faultOf, 4, (some .int), 3)
theorem mv_X8_faultOf : MV iX8_faultOf RX8 1 := ⟨tbm 956 (by decide +kernel) (by decide +kernel), tbm 955 (by decide +kernel) (by decide +kernel), tbm 28 (by decide +kernel) (by decide +kernel), tbm 75 (by decide +kernel) (by decide +kernel), by decide +kernel, by decide⟩
abbrev iX8_reads : MI := (RX8, yX8_reads, cX8_reads, 2, none, 4)
theorem mv_X8_reads : MV iX8_reads RX8 0 := ⟨tbm 976 (by decide +kernel) (by decide +kernel), tbm 975 (by decide +kernel) (by decide +kernel), tbm 32 (by decide +kernel) (by decide +kernel), tbm 75 (by decide +kernel) (by decide +kernel), by decide +kernel, by decide⟩
abbrev iX8_fault : MI := (RX8, yX8_fault, cX8_fault, 2, (some .int), 4)
theorem mv_X8_fault : MV iX8_fault RX8 1 := ⟨tbm 952 (by decide +kernel) (by decide +kernel), tbm 950 (by decide +kernel) (by decide +kernel), tbm 951 (by decide +kernel) (by decide +kernel), tbm 75 (by decide +kernel) (by decide +kernel), by decide +kernel, by decide⟩
abbrev iX8_isVirtue : MI := (RX8, yX8_isVirtue, cX8_isVirtue, 2, (some .boolean), 5)
theorem mv_X8_isVirtue : MV iX8_isVirtue RX8 1 := ⟨tbm 972 (by decide +kernel) (by decide +kernel), tbm 971 (by decide +kernel) (by decide +kernel), tbm 31 (by decide +kernel) (by decide +kernel), tbm 75 (by decide +kernel) (by decide +kernel), by decide +kernel, by decide⟩
abbrev iX8_isClaimant : MI := (RX8, yX8_isClaimant, cX8_isClaimant, 2, (some .boolean), 5)
theorem mv_X8_isClaimant : MV iX8_isClaimant RX8 1 := ⟨tbm 984 (by decide +kernel) (by decide +kernel), tbm 983 (by decide +kernel) (by decide +kernel), tbm 33 (by decide +kernel) (by decide +kernel), tbm 75 (by decide +kernel) (by decide +kernel), by decide +kernel, by decide⟩
abbrev iX8_virtue : MI := (RX8, yX8_virtue, cX8_virtue, 3, (some .int), 6)
theorem mv_X8_virtue : MV iX8_virtue RX8 2 := ⟨tbm 968 (by decide +kernel) (by decide +kernel), tbm 966 (by decide +kernel) (by decide +kernel), tbm 967 (by decide +kernel) (by decide +kernel), tbm 75 (by decide +kernel) (by decide +kernel), by decide +kernel, by decide⟩
abbrev iX8_claimantOf : MI := (RX8, yX8_claimantOf, cX8_claimantOf, 3, (some .int), 0)
theorem mv_X8_claimantOf : MV iX8_claimantOf RX8 2 := ⟨tbm 988 (by decide +kernel) (by decide +kernel), tbm 987 (by decide +kernel) (by decide +kernel), tbm 34 (by decide +kernel) (by decide +kernel), tbm 75 (by decide +kernel) (by decide +kernel), by decide +kernel, by decide⟩
abbrev iX8_claimant : MI := (RX8, yX8_claimant, cX8_claimant, 3, (some .int), 6)
theorem mv_X8_claimant : MV iX8_claimant RX8 2 := ⟨tbm 980 (by decide +kernel) (by decide +kernel), tbm 978 (by decide +kernel) (by decide +kernel), tbm 979 (by decide +kernel) (by decide +kernel), tbm 75 (by decide +kernel) (by decide +kernel), by decide +kernel, by decide⟩
abbrev iX8_set : MI := (RX8, yX8_set, cX8_set, 6, (some .int), 1)
theorem mv_X8_set : MV iX8_set RX8 2 := ⟨tbm 992 (by decide +kernel) (by decide +kernel), tbm 990 (by decide +kernel) (by decide +kernel), tbm 991 (by decide +kernel) (by decide +kernel), tbm 75 (by decide +kernel) (by decide +kernel), by decide +kernel, by decide⟩
abbrev iX8_handing : MI := (RX8, yX8_handing, cX8_handing, 3, (some .int), 2)
theorem mv_X8_handing : MV iX8_handing RX8 2 := ⟨tbm 996 (by decide +kernel) (by decide +kernel), tbm 994 (by decide +kernel) (by decide +kernel), tbm 995 (by decide +kernel) (by decide +kernel), tbm 75 (by decide +kernel) (by decide +kernel), by decide +kernel, by decide⟩
abbrev iX8_claim : MI := (RX8, yX8_claim, cX8_claim, 3, (some .int), 2)
theorem mv_X8_claim : MV iX8_claim RX8 2 := ⟨tbm 1006 (by decide +kernel) (by decide +kernel), tbm 1004 (by decide +kernel) (by decide +kernel), tbm 1005 (by decide +kernel) (by decide +kernel), tbm 75 (by decide +kernel) (by decide +kernel), by decide +kernel, by decide⟩
abbrev iX8_back : MI := (RX8, yX8_back, cX8_back, 3, (some .int), 1)
theorem mv_X8_back : MV iX8_back RX8 1 := ⟨tbm 1010 (by decide +kernel) (by decide +kernel), tbm 1008 (by decide +kernel) (by decide +kernel), tbm 1009 (by decide +kernel) (by decide +kernel), tbm 75 (by decide +kernel) (by decide +kernel), by decide +kernel, by decide⟩
abbrev iX8_isSheet : MI := (RX8, yX8_isSheet, cX8_isSheet, 1, (some .boolean), 1)
theorem ms_X8_isSheet : MS iX8_isSheet 1 := ⟨tbm 1017 (by decide +kernel) (by decide +kernel), tbm 1016 (by decide +kernel) (by decide +kernel), tbm 75 (by decide +kernel) (by decide +kernel), by decide +kernel, by decide⟩
abbrev iX8_meets : MI := (RX8, yX8_meets, cX8_meets, 2, (some .int), 0)
theorem mv_X8_meets : MV iX8_meets RX8 1 := ⟨tbm 1021 (by decide +kernel) (by decide +kernel), tbm 1020 (by decide +kernel) (by decide +kernel), tbm 35 (by decide +kernel) (by decide +kernel), tbm 75 (by decide +kernel) (by decide +kernel), by decide +kernel, by decide⟩
abbrev iX8_read : MI := (RX8, yX8_read, cX8_read, 3, (some .int), 3)
theorem mv_X8_read : MV iX8_read RX8 1 := ⟨tbm 1014 (by decide +kernel) (by decide +kernel), tbm 1012 (by decide +kernel) (by decide +kernel), tbm 1013 (by decide +kernel) (by decide +kernel), tbm 75 (by decide +kernel) (by decide +kernel), by decide +kernel, by decide⟩
abbrev iX8_fits : MI := (RX8, yX8_fits, cX8_fits, 3, (some .boolean), 0)
theorem mv_X8_fits : MV iX8_fits RX8 2 := ⟨tbm 1050 (by decide +kernel) (by decide +kernel), tbm 1049 (by decide +kernel) (by decide +kernel), tbm 41 (by decide +kernel) (by decide +kernel), tbm 75 (by decide +kernel) (by decide +kernel), by decide +kernel, by decide⟩
abbrev iX8_givenTo : MI := (RX8, yX8_givenTo, cX8_givenTo, 5, (some .int), 1)
theorem mv_X8_givenTo : MV iX8_givenTo RX8 1 := ⟨tbm 1046 (by decide +kernel) (by decide +kernel), tbm 1045 (by decide +kernel) (by decide +kernel), tbm 40 (by decide +kernel) (by decide +kernel), tbm 75 (by decide +kernel) (by decide +kernel), by decide +kernel, by decide⟩
abbrev iX8_fitsGone : MI := (RX8, yX8_fitsGone, cX8_fitsGone, 4, (some .boolean), 1)
theorem mv_X8_fitsGone : MV iX8_fitsGone RX8 1 := ⟨tbm 1057 (by decide +kernel) (by decide +kernel), tbm 1056 (by decide +kernel) (by decide +kernel), tbm 42 (by decide +kernel) (by decide +kernel), tbm 75 (by decide +kernel) (by decide +kernel), by decide +kernel, by decide⟩
abbrev iX8_comes : MI := (RX8, yX8_comes, cX8_comes, 5, none, 2)
theorem mv_X8_comes : MV iX8_comes RX8 2 := ⟨tbm 1042 (by decide +kernel) (by decide +kernel), tbm 1041 (by decide +kernel) (by decide +kernel), tbm 39 (by decide +kernel) (by decide +kernel), tbm 75 (by decide +kernel) (by decide +kernel), by decide +kernel, by decide⟩
abbrev iX8_runs : MI := (RX8, yX8_runs, cX8_runs, 8, none, 3)
theorem mv_X8_runs : MV iX8_runs RX8 3 := ⟨tbm 1038 (by decide +kernel) (by decide +kernel), tbm 1037 (by decide +kernel) (by decide +kernel), tbm 38 (by decide +kernel) (by decide +kernel), tbm 75 (by decide +kernel) (by decide +kernel), by decide +kernel, by decide⟩
abbrev iX8_runsTo : MI := (RX8, yX8_runsTo, cX8_runsTo, 2, none, 5)
theorem mv_X8_runsTo : MV iX8_runsTo RX8 1 := ⟨tbm 1034 (by decide +kernel) (by decide +kernel), tbm 1033 (by decide +kernel) (by decide +kernel), tbm 37 (by decide +kernel) (by decide +kernel), tbm 75 (by decide +kernel) (by decide +kernel), by decide +kernel, by decide⟩
abbrev iX8_bitsNow : MI := (RX8, yX8_bitsNow, cX8_bitsNow, 5, (some .int), 0)
theorem mv_X8_bitsNow : MV iX8_bitsNow RX8 1 := ⟨tbm 1061 (by decide +kernel) (by decide +kernel), tbm 1060 (by decide +kernel) (by decide +kernel), tbm 43 (by decide +kernel) (by decide +kernel), tbm 75 (by decide +kernel) (by decide +kernel), by decide +kernel, by decide⟩
abbrev iX8_behindOf : MI := (RX8, yX8_behindOf, cX8_behindOf, 3, (some .int), 6)
theorem mv_X8_behindOf : MV iX8_behindOf RX8 2 := ⟨tbm 1030 (by decide +kernel) (by decide +kernel), tbm 1029 (by decide +kernel) (by decide +kernel), tbm 36 (by decide +kernel) (by decide +kernel), tbm 75 (by decide +kernel) (by decide +kernel), by decide +kernel, by decide⟩
abbrev iX8_behind : MI := (RX8, yX8_behind, cX8_behind, 3, (some .int), 7)
theorem mv_X8_behind : MV iX8_behind RX8 2 := ⟨tbm 1026 (by decide +kernel) (by decide +kernel), tbm 1024 (by decide +kernel) (by decide +kernel), tbm 1025 (by decide +kernel) (by decide +kernel), tbm 75 (by decide +kernel) (by decide +kernel), by decide +kernel, by decide⟩
abbrev iX8_goneOf : MI := (RX8, yX8_goneOf, cX8_goneOf, 3, (some .int), 6)
theorem mv_X8_goneOf : MV iX8_goneOf RX8 2 := ⟨tbm 1069 (by decide +kernel) (by decide +kernel), tbm 1068 (by decide +kernel) (by decide +kernel), tbm 44 (by decide +kernel) (by decide +kernel), tbm 75 (by decide +kernel) (by decide +kernel), by decide +kernel, by decide⟩
abbrev iX8_gone : MI := (RX8, yX8_gone, cX8_gone, 3, (some .int), 7)
theorem mv_X8_gone : MV iX8_gone RX8 2 := ⟨tbm 1065 (by decide +kernel) (by decide +kernel), tbm 1063 (by decide +kernel) (by decide +kernel), tbm 1064 (by decide +kernel) (by decide +kernel), tbm 75 (by decide +kernel) (by decide +kernel), by decide +kernel, by decide⟩
abbrev iX8_emptyNow : MI := (RX8, yX8_emptyNow, cX8_emptyNow, 1, (some .int), 6)
theorem mv_X8_emptyNow : MV iX8_emptyNow RX8 0 := ⟨tbm 1077 (by decide +kernel) (by decide +kernel), tbm 1076 (by decide +kernel) (by decide +kernel), tbm 45 (by decide +kernel) (by decide +kernel), tbm 75 (by decide +kernel) (by decide +kernel), by decide +kernel, by decide⟩
abbrev iX8_empty : MI := (RX8, yX8_empty, cX8_empty, 1, (some .int), 7)
theorem mv_X8_empty : MV iX8_empty RX8 0 := ⟨tbm 1073 (by decide +kernel) (by decide +kernel), tbm 1071 (by decide +kernel) (by decide +kernel), tbm 1072 (by decide +kernel) (by decide +kernel), tbm 75 (by decide +kernel) (by decide +kernel), by decide +kernel, by decide⟩
abbrev iX8_saleNow : MI := (RX8, yX8_saleNow, cX8_saleNow, 4, (some .int), 7)
theorem mv_X8_saleNow : MV iX8_saleNow RX8 0 := ⟨tbm 1085 (by decide +kernel) (by decide +kernel), tbm 1084 (by decide +kernel) (by decide +kernel), tbm 46 (by decide +kernel) (by decide +kernel), tbm 75 (by decide +kernel) (by decide +kernel), by decide +kernel, by decide⟩
abbrev iX8_sale : MI := (RX8, yX8_sale, cX8_sale, 1, (some .int), 8)
theorem mv_X8_sale : MV iX8_sale RX8 0 := ⟨tbm 1081 (by decide +kernel) (by decide +kernel), tbm 1079 (by decide +kernel) (by decide +kernel), tbm 1080 (by decide +kernel) (by decide +kernel), tbm 75 (by decide +kernel) (by decide +kernel), by decide +kernel, by decide⟩
abbrev iX8_saintOf : MI := (RX8, yX8_saintOf, cX8_saintOf, 1, (some .int), 6)
theorem mv_X8_saintOf : MV iX8_saintOf RX8 0 := ⟨tbm 1096 (by decide +kernel) (by decide +kernel), tbm 1095 (by decide +kernel) (by decide +kernel), tbm 47 (by decide +kernel) (by decide +kernel), tbm 75 (by decide +kernel) (by decide +kernel), by decide +kernel, by decide⟩
abbrev iX8_saint : MI := (RX8, yX8_saint, cX8_saint, 1, (some .int), 7)
theorem mv_X8_saint : MV iX8_saint RX8 0 := ⟨tbm 1092 (by decide +kernel) (by decide +kernel), tbm 1090 (by decide +kernel) (by decide +kernel), tbm 1091 (by decide +kernel) (by decide +kernel), tbm 75 (by decide +kernel) (by decide +kernel), by decide +kernel, by decide⟩
abbrev iX8_fittingOf : MI := (RX8, yX8_fittingOf, cX8_fittingOf, 6, (some .int), 1)
theorem mv_X8_fittingOf : MV iX8_fittingOf RX8 2 := ⟨tbm 1104 (by decide +kernel) (by decide +kernel), tbm 1103 (by decide +kernel) (by decide +kernel), tbm 48 (by decide +kernel) (by decide +kernel), tbm 75 (by decide +kernel) (by decide +kernel), by decide +kernel, by decide⟩
abbrev iX8_fitting : MI := (RX8, yX8_fitting, cX8_fitting, 4, (some .int), 6)
theorem mv_X8_fitting : MV iX8_fitting RX8 2 := ⟨tbm 1100 (by decide +kernel) (by decide +kernel), tbm 1098 (by decide +kernel) (by decide +kernel), tbm 1099 (by decide +kernel) (by decide +kernel), tbm 75 (by decide +kernel) (by decide +kernel), by decide +kernel, by decide⟩
abbrev iX8_laysMatch : MI := (RX8, yX8_laysMatch, cX8_laysMatch, 6, none, 5)
theorem mv_X8_laysMatch : MV iX8_laysMatch RX8 0 := ⟨tbm 1116 (by decide +kernel) (by decide +kernel), tbm 1115 (by decide +kernel) (by decide +kernel), tbm 50 (by decide +kernel) (by decide +kernel), tbm 75 (by decide +kernel) (by decide +kernel), by decide +kernel, by decide⟩
abbrev iX8_matchAt : MI := (RX8, yX8_matchAt, cX8_matchAt, 3, (some .int), 6)
theorem mv_X8_matchAt : MV iX8_matchAt RX8 1 := ⟨tbm 1112 (by decide +kernel) (by decide +kernel), tbm 1111 (by decide +kernel) (by decide +kernel), tbm 49 (by decide +kernel) (by decide +kernel), tbm 75 (by decide +kernel) (by decide +kernel), by decide +kernel, by decide⟩
abbrev iX8_match : MI := (RX8, yX8_match, cX8_match, 2, (some .int), 7)
theorem mv_X8_match : MV iX8_match RX8 1 := ⟨tbm 1108 (by decide +kernel) (by decide +kernel), tbm 1106 (by decide +kernel) (by decide +kernel), tbm 1107 (by decide +kernel) (by decide +kernel), tbm 75 (by decide +kernel) (by decide +kernel), by decide +kernel, by decide⟩
abbrev iX8_askOf : MI := (RX8, yX8_askOf, cX8_askOf, 9, (some .int), 1)
theorem mv_X8_askOf : MV iX8_askOf RX8 1 := ⟨tbm 1124 (by decide +kernel) (by decide +kernel), tbm 1123 (by decide +kernel) (by decide +kernel), tbm 51 (by decide +kernel) (by decide +kernel), tbm 75 (by decide +kernel) (by decide +kernel), by decide +kernel, by decide⟩
abbrev iX8_ask : MI := (RX8, yX8_ask, cX8_ask, 2, (some .int), 6)
theorem mv_X8_ask : MV iX8_ask RX8 1 := ⟨tbm 1120 (by decide +kernel) (by decide +kernel), tbm 1118 (by decide +kernel) (by decide +kernel), tbm 1119 (by decide +kernel) (by decide +kernel), tbm 75 (by decide +kernel) (by decide +kernel), by decide +kernel, by decide⟩
abbrev iX8_lieOf : MI := (RX8, yX8_lieOf, cX8_lieOf, 6, (some .int), 1)
theorem mv_X8_lieOf : MV iX8_lieOf RX8 1 := ⟨tbm 1132 (by decide +kernel) (by decide +kernel), tbm 1131 (by decide +kernel) (by decide +kernel), tbm 52 (by decide +kernel) (by decide +kernel), tbm 75 (by decide +kernel) (by decide +kernel), by decide +kernel, by decide⟩
abbrev iX8_lie : MI := (RX8, yX8_lie, cX8_lie, 2, (some .int), 6)
theorem mv_X8_lie : MV iX8_lie RX8 1 := ⟨tbm 1128 (by decide +kernel) (by decide +kernel), tbm 1126 (by decide +kernel) (by decide +kernel), tbm 1127 (by decide +kernel) (by decide +kernel), tbm 75 (by decide +kernel) (by decide +kernel), by decide +kernel, by decide⟩
abbrev iX8_guessBy : MI := (RX8, yX8_guessBy, cX8_guessBy, 9, (some .int), 0)
theorem mv_X8_guessBy : MV iX8_guessBy RX8 3 := ⟨tbm 1140 (by decide +kernel) (by decide +kernel), tbm 1139 (by decide +kernel) (by decide +kernel), tbm 53 (by decide +kernel) (by decide +kernel), tbm 75 (by decide +kernel) (by decide +kernel), by decide +kernel, by decide⟩
abbrev iX8_guess : MI := (RX8, yX8_guess, cX8_guess, 3, (some .long), 6)
theorem mv_X8_guess : MV iX8_guess RX8 2 := ⟨tbm 1136 (by decide +kernel) (by decide +kernel), tbm 1134 (by decide +kernel) (by decide +kernel), tbm 1135 (by decide +kernel) (by decide +kernel), tbm 75 (by decide +kernel) (by decide +kernel), by decide +kernel, by decide⟩
abbrev iX8_guardOf : MI := (RX8, yX8_guardOf, cX8_guardOf, 6, (some .int), 5)
theorem mv_X8_guardOf : MV iX8_guardOf RX8 1 := ⟨tbm 1155 (by decide +kernel) (by decide +kernel), tbm 1154 (by decide +kernel) (by decide +kernel), tbm 54 (by decide +kernel) (by decide +kernel), tbm 75 (by decide +kernel) (by decide +kernel), by decide +kernel, by decide⟩
abbrev iX8_guard : MI := (RX8, yX8_guard, cX8_guard, 2, (some .int), 6)
theorem mv_X8_guard : MV iX8_guard RX8 1 := ⟨tbm 1151 (by decide +kernel) (by decide +kernel), tbm 1149 (by decide +kernel) (by decide +kernel), tbm 1150 (by decide +kernel) (by decide +kernel), tbm 75 (by decide +kernel) (by decide +kernel), by decide +kernel, by decide⟩
abbrev iX8_shelvesOf : MI := (RX8, yX8_shelvesOf, cX8_shelvesOf, 10, (some .int), 5)
theorem mv_X8_shelvesOf : MV iX8_shelvesOf RX8 1 := ⟨tbm 1163 (by decide +kernel) (by decide +kernel), tbm 1162 (by decide +kernel) (by decide +kernel), tbm 55 (by decide +kernel) (by decide +kernel), tbm 75 (by decide +kernel) (by decide +kernel), by decide +kernel, by decide⟩
abbrev iX8_shelves : MI := (RX8, yX8_shelves, cX8_shelves, 2, (some .int), 6)
theorem mv_X8_shelves : MV iX8_shelves RX8 1 := ⟨tbm 1159 (by decide +kernel) (by decide +kernel), tbm 1157 (by decide +kernel) (by decide +kernel), tbm 1158 (by decide +kernel) (by decide +kernel), tbm 75 (by decide +kernel) (by decide +kernel), by decide +kernel, by decide⟩
abbrev iX8_arePair : MI := (RX8, yX8_arePair, cX8_arePair, 3, (some .boolean), 1)
theorem mv_X8_arePair : MV iX8_arePair RX8 2 := ⟨tbm 1179 (by decide +kernel) (by decide +kernel), tbm 1178 (by decide +kernel) (by decide +kernel), tbm 58 (by decide +kernel) (by decide +kernel), tbm 75 (by decide +kernel) (by decide +kernel), by decide +kernel, by decide⟩
abbrev iX8_laysPairs : MI := (RX8, yX8_laysPairs, cX8_laysPairs, 6, none, 5)
theorem mv_X8_laysPairs : MV iX8_laysPairs RX8 0 := ⟨tbm 1175 (by decide +kernel) (by decide +kernel), tbm 1174 (by decide +kernel) (by decide +kernel), tbm 57 (by decide +kernel) (by decide +kernel), tbm 75 (by decide +kernel) (by decide +kernel), by decide +kernel, by decide⟩
abbrev iX8_togetherOf : MI := (RX8, yX8_togetherOf, cX8_togetherOf, 2, (some .int), 6)
theorem mv_X8_togetherOf : MV iX8_togetherOf RX8 1 := ⟨tbm 1171 (by decide +kernel) (by decide +kernel), tbm 1170 (by decide +kernel) (by decide +kernel), tbm 56 (by decide +kernel) (by decide +kernel), tbm 75 (by decide +kernel) (by decide +kernel), by decide +kernel, by decide⟩
abbrev iX8_together : MI := (RX8, yX8_together, cX8_together, 2, (some .int), 7)
theorem mv_X8_together : MV iX8_together RX8 1 := ⟨tbm 1167 (by decide +kernel) (by decide +kernel), tbm 1165 (by decide +kernel) (by decide +kernel), tbm 1166 (by decide +kernel) (by decide +kernel), tbm 75 (by decide +kernel) (by decide +kernel), by decide +kernel, by decide⟩
abbrev iX8_seen : MI := (RX8, yX8_seen, cX8_seen, 4, (some .int), 2)
theorem mv_X8_seen : MV iX8_seen RX8 3 := ⟨tbm 1183 (by decide +kernel) (by decide +kernel), tbm 1181 (by decide +kernel) (by decide +kernel), tbm 1182 (by decide +kernel) (by decide +kernel), tbm 75 (by decide +kernel) (by decide +kernel), by decide +kernel, by decide⟩
abbrev iX8_forget : MI := (RX8, yX8_forget, cX8_forget, 2, (some .int), 0)
theorem mv_X8_forget : MV iX8_forget RX8 0 := ⟨tbm 1187 (by decide +kernel) (by decide +kernel), tbm 1185 (by decide +kernel) (by decide +kernel), tbm 1186 (by decide +kernel) (by decide +kernel), tbm 75 (by decide +kernel) (by decide +kernel), by decide +kernel, by decide⟩
abbrev iX8_whenOf : MI := (RX8, yX8_whenOf, cX8_whenOf, 6, (some .int), 5)
theorem mv_X8_whenOf : MV iX8_whenOf RX8 1 := ⟨tbm 1195 (by decide +kernel) (by decide +kernel), tbm 1194 (by decide +kernel) (by decide +kernel), tbm 59 (by decide +kernel) (by decide +kernel), tbm 75 (by decide +kernel) (by decide +kernel), by decide +kernel, by decide⟩
abbrev iX8_when : MI := (RX8, yX8_when, cX8_when, 2, (some .int), 6)
theorem mv_X8_when : MV iX8_when RX8 1 := ⟨tbm 1191 (by decide +kernel) (by decide +kernel), tbm 1189 (by decide +kernel) (by decide +kernel), tbm 1190 (by decide +kernel) (by decide +kernel), tbm 75 (by decide +kernel) (by decide +kernel), by decide +kernel, by decide⟩
abbrev iX8_weeksOf : MI := (RX8, yX8_weeksOf, cX8_weeksOf, 8, (some .int), 5)
theorem mv_X8_weeksOf : MV iX8_weeksOf RX8 3 := ⟨tbm 1203 (by decide +kernel) (by decide +kernel), tbm 1202 (by decide +kernel) (by decide +kernel), tbm 60 (by decide +kernel) (by decide +kernel), tbm 75 (by decide +kernel) (by decide +kernel), by decide +kernel, by decide⟩
abbrev iX8_weeks : MI := (RX8, yX8_weeks, cX8_weeks, 4, (some .int), 6)
theorem mv_X8_weeks : MV iX8_weeks RX8 3 := ⟨tbm 1199 (by decide +kernel) (by decide +kernel), tbm 1197 (by decide +kernel) (by decide +kernel), tbm 1198 (by decide +kernel) (by decide +kernel), tbm 75 (by decide +kernel) (by decide +kernel), by decide +kernel, by decide⟩
abbrev iX8_sheet : MI := (RX8, yX8_sheet, cX8_sheet, 5, (some .int), 2)
theorem mv_X8_sheet : MV iX8_sheet RX8 3 := ⟨tbm 1208 (by decide +kernel) (by decide +kernel), tbm 1206 (by decide +kernel) (by decide +kernel), tbm 1207 (by decide +kernel) (by decide +kernel), tbm 75 (by decide +kernel) (by decide +kernel), by decide +kernel, by decide⟩
abbrev iX8_lose : MI := (RX8, yX8_lose, cX8_lose, 2, (some .int), 2)
theorem mv_X8_lose : MV iX8_lose RX8 1 := ⟨tbm 1212 (by decide +kernel) (by decide +kernel), tbm 1210 (by decide +kernel) (by decide +kernel), tbm 1211 (by decide +kernel) (by decide +kernel), tbm 75 (by decide +kernel) (by decide +kernel), by decide +kernel, by decide⟩
abbrev iX8_lacks : MI := (RX8, yX8_lacks, cX8_lacks, 4, (some .int), 1)
theorem mv_X8_lacks : MV iX8_lacks RX8 3 := ⟨tbm 1220 (by decide +kernel) (by decide +kernel), tbm 1219 (by decide +kernel) (by decide +kernel), tbm 61 (by decide +kernel) (by decide +kernel), tbm 75 (by decide +kernel) (by decide +kernel), by decide +kernel, by decide⟩
abbrev iX8_keep : MI := (RX8, yX8_keep, cX8_keep, 4, none, 0)
theorem mv_X8_keep : MV iX8_keep RX8 3 := ⟨tbm 1224 (by decide +kernel) (by decide +kernel), tbm 1223 (by decide +kernel) (by decide +kernel), tbm 62 (by decide +kernel) (by decide +kernel), tbm 75 (by decide +kernel) (by decide +kernel), by decide +kernel, by decide⟩
abbrev iX8_put : MI := (RX8, yX8_put, cX8_put, 6, (some .int), 2)
theorem mv_X8_put : MV iX8_put RX8 4 := ⟨tbm 1216 (by decide +kernel) (by decide +kernel), tbm 1214 (by decide +kernel) (by decide +kernel), tbm 1215 (by decide +kernel) (by decide +kernel), tbm 75 (by decide +kernel) (by decide +kernel), by decide +kernel, by decide⟩
abbrev iX8_get : MI := (RX8, yX8_get, cX8_get, 5, (some .int), 2)
theorem mv_X8_get : MV iX8_get RX8 3 := ⟨tbm 1228 (by decide +kernel) (by decide +kernel), tbm 1226 (by decide +kernel) (by decide +kernel), tbm 1227 (by decide +kernel) (by decide +kernel), tbm 75 (by decide +kernel) (by decide +kernel), by decide +kernel, by decide⟩
abbrev iX8_copy : MI := (RX8, yX8_copy, cX8_copy, 7, (some .int), 2)
theorem mv_X8_copy : MV iX8_copy RX8 5 := ⟨tbm 1233 (by decide +kernel) (by decide +kernel), tbm 1231 (by decide +kernel) (by decide +kernel), tbm 1232 (by decide +kernel) (by decide +kernel), tbm 75 (by decide +kernel) (by decide +kernel), by decide +kernel, by decide⟩
abbrev iX8_write : MI := (RX8, yX8_write, cX8_write, 3, (some .int), 7)
theorem mv_X8_write : MV iX8_write RX8 1 := ⟨tbm 1237 (by decide +kernel) (by decide +kernel), tbm 1235 (by decide +kernel) (by decide +kernel), tbm 1236 (by decide +kernel) (by decide +kernel), tbm 75 (by decide +kernel) (by decide +kernel), by decide +kernel, by decide⟩
abbrev iX8_sumOf : MI := (RX8, yX8_sumOf, cX8_sumOf, 4, (some .int), 5)
theorem mv_X8_sumOf : MV iX8_sumOf RX8 1 := ⟨tbm 1245 (by decide +kernel) (by decide +kernel), tbm 1244 (by decide +kernel) (by decide +kernel), tbm 63 (by decide +kernel) (by decide +kernel), tbm 75 (by decide +kernel) (by decide +kernel), by decide +kernel, by decide⟩
abbrev iX8_count : MI := (RX8, yX8_count, cX8_count, 2, (some .int), 6)
theorem mv_X8_count : MV iX8_count RX8 1 := ⟨tbm 1241 (by decide +kernel) (by decide +kernel), tbm 1239 (by decide +kernel) (by decide +kernel), tbm 1240 (by decide +kernel) (by decide +kernel), tbm 75 (by decide +kernel) (by decide +kernel), by decide +kernel, by decide⟩
abbrev iX8_virtueDigest : MI := (RX8, yX8_virtueDigest, cX8_virtueDigest, 6, (some .long), 7)
theorem mv_X8_virtueDigest : MV iX8_virtueDigest RX8 2 := ⟨tbm 1256 (by decide +kernel) (by decide +kernel), tbm 1255 (by decide +kernel) (by decide +kernel), tbm 64 (by decide +kernel) (by decide +kernel), tbm 75 (by decide +kernel) (by decide +kernel), by decide +kernel, by decide⟩
abbrev iX8_weekDigest : MI := (RX8, yX8_weekDigest, cX8_weekDigest, 7, (some .long), 7)
theorem mv_X8_weekDigest : MV iX8_weekDigest RX8 2 := ⟨tbm 1261 (by decide +kernel) (by decide +kernel), tbm 1260 (by decide +kernel) (by decide +kernel), tbm 65 (by decide +kernel) (by decide +kernel), tbm 75 (by decide +kernel) (by decide +kernel), by decide +kernel, by decide⟩
abbrev iX8_digest : MI := (RX8, yX8_digest, cX8_digest, 5, (some .long), 8)
theorem mv_X8_digest : MV iX8_digest RX8 0 := ⟨tbm 1249 (by decide +kernel) (by decide +kernel), tbm 1247 (by decide +kernel) (by decide +kernel), tbm 1248 (by decide +kernel) (by decide +kernel), tbm 75 (by decide +kernel) (by decide +kernel), by decide +kernel, by decide⟩
end
