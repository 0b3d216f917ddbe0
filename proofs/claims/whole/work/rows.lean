section
-- ===== PART A: goes FIRST, ahead of the names: the tables' words, and 'selects' of the private methods out of them =====
/-- a private method of a class that the tables say can be made, by its rows of tables_1 -/
def lw_okq (q : MethodName × Nat) : Prop := (q.1.cls ≠ "java/lang/invoke/MethodHandle" ∧ q.1.cls ≠ "java/lang/invoke/VarHandle") ∧ Cond.instantiable q.1.cls q.2 ∈ tables_1 ∧ Cond.privateMethod q.1 ∈ tables_1 ∧ Cond.instanceMethod q.1 ∈ tables_1
theorem lw_p0 : lw_okq (⟨"FoundVirtues", "textOf", "(I)LFoundVirtues$Entries;"⟩, 13) := ⟨⟨by decide +kernel, by decide +kernel⟩, List.mem_of_getElem? (i := 15) (by decide +kernel), List.mem_of_getElem? (i := 289) (by decide +kernel), List.mem_of_getElem? (i := 290) (by decide +kernel)⟩
theorem lw_p1 : lw_okq (⟨"FoundVirtues$Entries", "takes", "(I)Z"⟩, 7) := ⟨⟨by decide +kernel, by decide +kernel⟩, List.mem_of_getElem? (i := 23) (by decide +kernel), List.mem_of_getElem? (i := 297) (by decide +kernel), List.mem_of_getElem? (i := 298) (by decide +kernel)⟩
theorem lw_p2 : lw_okq (⟨"FoundVirtues$Entries", "takesLetter", "(III)Z"⟩, 7) := ⟨⟨by decide +kernel, by decide +kernel⟩, List.mem_of_getElem? (i := 23) (by decide +kernel), List.mem_of_getElem? (i := 301) (by decide +kernel), List.mem_of_getElem? (i := 302) (by decide +kernel)⟩
theorem lw_p3 : lw_okq (⟨"FoundVirtues$Entries", "takesFigure", "(II)Z"⟩, 7) := ⟨⟨by decide +kernel, by decide +kernel⟩, List.mem_of_getElem? (i := 23) (by decide +kernel), List.mem_of_getElem? (i := 305) (by decide +kernel), List.mem_of_getElem? (i := 306) (by decide +kernel)⟩
theorem lw_p4 : lw_okq (⟨"FoundVirtues$Entries", "countWhole", "()V"⟩, 7) := ⟨⟨by decide +kernel, by decide +kernel⟩, List.mem_of_getElem? (i := 23) (by decide +kernel), List.mem_of_getElem? (i := 309) (by decide +kernel), List.mem_of_getElem? (i := 310) (by decide +kernel)⟩
theorem lw_p5 : lw_okq (⟨"FoundVirtues", "textChanged", "()V"⟩, 13) := ⟨⟨by decide +kernel, by decide +kernel⟩, List.mem_of_getElem? (i := 15) (by decide +kernel), List.mem_of_getElem? (i := 317) (by decide +kernel), List.mem_of_getElem? (i := 318) (by decide +kernel)⟩
theorem lw_p6 : lw_okq (⟨"FoundVirtues", "noVirtue", "(I)Z"⟩, 13) := ⟨⟨by decide +kernel, by decide +kernel⟩, List.mem_of_getElem? (i := 15) (by decide +kernel), List.mem_of_getElem? (i := 346) (by decide +kernel), List.mem_of_getElem? (i := 347) (by decide +kernel)⟩
theorem lw_p7 : lw_okq (⟨"FoundVirtues", "noClaimant", "(I)Z"⟩, 13) := ⟨⟨by decide +kernel, by decide +kernel⟩, List.mem_of_getElem? (i := 15) (by decide +kernel), List.mem_of_getElem? (i := 354) (by decide +kernel), List.mem_of_getElem? (i := 355) (by decide +kernel)⟩
theorem lw_p8 : lw_okq (⟨"FoundVirtues", "found", "(I)I"⟩, 13) := ⟨⟨by decide +kernel, by decide +kernel⟩, List.mem_of_getElem? (i := 15) (by decide +kernel), List.mem_of_getElem? (i := 387) (by decide +kernel), List.mem_of_getElem? (i := 388) (by decide +kernel)⟩
theorem lw_p9 : lw_okq (⟨"FoundVirtues", "toldRun", "()LFoundVirtues$Run;"⟩, 13) := ⟨⟨by decide +kernel, by decide +kernel⟩, List.mem_of_getElem? (i := 15) (by decide +kernel), List.mem_of_getElem? (i := 396) (by decide +kernel), List.mem_of_getElem? (i := 397) (by decide +kernel)⟩
theorem lw_p10 : lw_okq (⟨"FoundVirtues$Office", "isFitting", "(II)Z"⟩, 5) := ⟨⟨by decide +kernel, by decide +kernel⟩, List.mem_of_getElem? (i := 66) (by decide +kernel), List.mem_of_getElem? (i := 411) (by decide +kernel), List.mem_of_getElem? (i := 412) (by decide +kernel)⟩
theorem lw_p11 : lw_okq (⟨"FoundVirtues$Run", "begin", "()V"⟩, 17) := ⟨⟨by decide +kernel, by decide +kernel⟩, List.mem_of_getElem? (i := 135) (by decide +kernel), List.mem_of_getElem? (i := 437) (by decide +kernel), List.mem_of_getElem? (i := 438) (by decide +kernel)⟩
theorem lw_p12 : lw_okq (⟨"FoundVirtues$Run", "bringIn", "(I)V"⟩, 17) := ⟨⟨by decide +kernel, by decide +kernel⟩, List.mem_of_getElem? (i := 135) (by decide +kernel), List.mem_of_getElem? (i := 441) (by decide +kernel), List.mem_of_getElem? (i := 442) (by decide +kernel)⟩
theorem lw_p13 : lw_okq (⟨"FoundVirtues$Run", "serve", "(II)V"⟩, 17) := ⟨⟨by decide +kernel, by decide +kernel⟩, List.mem_of_getElem? (i := 135) (by decide +kernel), List.mem_of_getElem? (i := 445) (by decide +kernel), List.mem_of_getElem? (i := 446) (by decide +kernel)⟩
theorem lw_p14 : lw_okq (⟨"FoundVirtues$Run", "give", "(III)V"⟩, 17) := ⟨⟨by decide +kernel, by decide +kernel⟩, List.mem_of_getElem? (i := 135) (by decide +kernel), List.mem_of_getElem? (i := 453) (by decide +kernel), List.mem_of_getElem? (i := 454) (by decide +kernel)⟩
theorem lw_p15 : lw_okq (⟨"FoundVirtues$Run", "sell", "(I)V"⟩, 17) := ⟨⟨by decide +kernel, by decide +kernel⟩, List.mem_of_getElem? (i := 135) (by decide +kernel), List.mem_of_getElem? (i := 457) (by decide +kernel), List.mem_of_getElem? (i := 458) (by decide +kernel)⟩
def lw_privs_1 : List (MethodName × Nat) := [(⟨"FoundVirtues", "textOf", "(I)LFoundVirtues$Entries;"⟩, 13), (⟨"FoundVirtues$Entries", "takes", "(I)Z"⟩, 7), (⟨"FoundVirtues$Entries", "takesLetter", "(III)Z"⟩, 7), (⟨"FoundVirtues$Entries", "takesFigure", "(II)Z"⟩, 7), (⟨"FoundVirtues$Entries", "countWhole", "()V"⟩, 7), (⟨"FoundVirtues", "textChanged", "()V"⟩, 13), (⟨"FoundVirtues", "noVirtue", "(I)Z"⟩, 13), (⟨"FoundVirtues", "noClaimant", "(I)Z"⟩, 13), (⟨"FoundVirtues", "found", "(I)I"⟩, 13), (⟨"FoundVirtues", "toldRun", "()LFoundVirtues$Run;"⟩, 13), (⟨"FoundVirtues$Office", "isFitting", "(II)Z"⟩, 5), (⟨"FoundVirtues$Run", "begin", "()V"⟩, 17), (⟨"FoundVirtues$Run", "bringIn", "(I)V"⟩, 17), (⟨"FoundVirtues$Run", "serve", "(II)V"⟩, 17), (⟨"FoundVirtues$Run", "give", "(III)V"⟩, 17), (⟨"FoundVirtues$Run", "sell", "(I)V"⟩, 17)]
theorem lw_r1 : ∀ q ∈ lw_privs_1, lw_okq q := List.forall_mem_cons.mpr ⟨lw_p0, List.forall_mem_cons.mpr ⟨lw_p1, List.forall_mem_cons.mpr ⟨lw_p2, List.forall_mem_cons.mpr ⟨lw_p3, List.forall_mem_cons.mpr ⟨lw_p4, List.forall_mem_cons.mpr ⟨lw_p5, List.forall_mem_cons.mpr ⟨lw_p6, List.forall_mem_cons.mpr ⟨lw_p7, List.forall_mem_cons.mpr ⟨lw_p8, List.forall_mem_cons.mpr ⟨lw_p9, List.forall_mem_cons.mpr ⟨lw_p10, List.forall_mem_cons.mpr ⟨lw_p11, List.forall_mem_cons.mpr ⟨lw_p12, List.forall_mem_cons.mpr ⟨lw_p13, List.forall_mem_cons.mpr ⟨lw_p14, List.forall_mem_cons.mpr ⟨lw_p15, fun _ h => absurd h List.not_mem_nil⟩⟩⟩⟩⟩⟩⟩⟩⟩⟩⟩⟩⟩⟩⟩⟩
theorem lw_p16 : lw_okq (⟨"FoundVirtues", "bestRows", "()LFoundVirtues$Rows;"⟩, 13) := ⟨⟨by decide +kernel, by decide +kernel⟩, List.mem_of_getElem? (i := 15) (by decide +kernel), List.mem_of_getElem? (i := 490) (by decide +kernel), List.mem_of_getElem? (i := 491) (by decide +kernel)⟩
theorem lw_p17 : lw_okq (⟨"FoundVirtues$Rows", "withOneMore", "(IIIJ)J"⟩, 3) := ⟨⟨by decide +kernel, by decide +kernel⟩, List.mem_of_getElem? (i := 203) (by decide +kernel), List.mem_of_getElem? (i := 502) (by decide +kernel), List.mem_of_getElem? (i := 503) (by decide +kernel)⟩
theorem lw_p18 : lw_okq (⟨"FoundVirtues$Rows", "firstPaired", "(LFoundVirtues$Entries;I)J"⟩, 3) := ⟨⟨by decide +kernel, by decide +kernel⟩, List.mem_of_getElem? (i := 203) (by decide +kernel), List.mem_of_getElem? (i := 517) (by decide +kernel), List.mem_of_getElem? (i := 518) (by decide +kernel)⟩
theorem lw_p19 : lw_okq (⟨"FoundVirtues$Office", "alikeIn", "(II)I"⟩, 5) := ⟨⟨by decide +kernel, by decide +kernel⟩, List.mem_of_getElem? (i := 66) (by decide +kernel), List.mem_of_getElem? (i := 555) (by decide +kernel), List.mem_of_getElem? (i := 556) (by decide +kernel)⟩
theorem lw_p20 : lw_okq (⟨"FoundVirtues", "guarded", "(II)Z"⟩, 13) := ⟨⟨by decide +kernel, by decide +kernel⟩, List.mem_of_getElem? (i := 15) (by decide +kernel), List.mem_of_getElem? (i := 583) (by decide +kernel), List.mem_of_getElem? (i := 584) (by decide +kernel)⟩
theorem lw_p21 : lw_okq (⟨"FoundVirtues", "shelfPlace", "(II)I"⟩, 13) := ⟨⟨by decide +kernel, by decide +kernel⟩, List.mem_of_getElem? (i := 15) (by decide +kernel), List.mem_of_getElem? (i := 591) (by decide +kernel), List.mem_of_getElem? (i := 592) (by decide +kernel)⟩
theorem lw_p22 : lw_okq (⟨"FoundVirtues", "comesOutSo", "(II)Z"⟩, 13) := ⟨⟨by decide +kernel, by decide +kernel⟩, List.mem_of_getElem? (i := 15) (by decide +kernel), List.mem_of_getElem? (i := 621) (by decide +kernel), List.mem_of_getElem? (i := 622) (by decide +kernel)⟩
theorem lw_p23 : lw_okq (⟨"FoundVirtues", "drawLots", "(II)V"⟩, 13) := ⟨⟨by decide +kernel, by decide +kernel⟩, List.mem_of_getElem? (i := 15) (by decide +kernel), List.mem_of_getElem? (i := 639) (by decide +kernel), List.mem_of_getElem? (i := 640) (by decide +kernel)⟩
theorem lw_p24 : lw_okq (⟨"FoundVirtues", "virtueMixed", "(JI)J"⟩, 13) := ⟨⟨by decide +kernel, by decide +kernel⟩, List.mem_of_getElem? (i := 15) (by decide +kernel), List.mem_of_getElem? (i := 714) (by decide +kernel), List.mem_of_getElem? (i := 715) (by decide +kernel)⟩
theorem lw_p25 : lw_okq (⟨"FoundVirtues", "claimantMixed", "(JI)J"⟩, 13) := ⟨⟨by decide +kernel, by decide +kernel⟩, List.mem_of_getElem? (i := 15) (by decide +kernel), List.mem_of_getElem? (i := 726) (by decide +kernel), List.mem_of_getElem? (i := 727) (by decide +kernel)⟩
theorem lw_p26 : lw_okq (⟨"FoundVirtues", "weekMixed", "(JI)J"⟩, 13) := ⟨⟨by decide +kernel, by decide +kernel⟩, List.mem_of_getElem? (i := 15) (by decide +kernel), List.mem_of_getElem? (i := 732) (by decide +kernel), List.mem_of_getElem? (i := 733) (by decide +kernel)⟩
theorem lw_p27 : lw_okq (⟨"FoundVirtues", "wholeMixed", "(J)J"⟩, 13) := ⟨⟨by decide +kernel, by decide +kernel⟩, List.mem_of_getElem? (i := 15) (by decide +kernel), List.mem_of_getElem? (i := 737) (by decide +kernel), List.mem_of_getElem? (i := 738) (by decide +kernel)⟩
theorem lw_p28 : lw_okq (⟨"FoundVirtuesModel", "faultOf", "(I)I"⟩, 37) := ⟨⟨by decide +kernel, by decide +kernel⟩, List.mem_of_getElem? (i := 747) (by decide +kernel), List.mem_of_getElem? (i := 888) (by decide +kernel), List.mem_of_getElem? (i := 889) (by decide +kernel)⟩
theorem lw_p29 : lw_okq (⟨"FoundVirtuesModel", "readsText", "(I)I"⟩, 37) := ⟨⟨by decide +kernel, by decide +kernel⟩, List.mem_of_getElem? (i := 747) (by decide +kernel), List.mem_of_getElem? (i := 892) (by decide +kernel), List.mem_of_getElem? (i := 893) (by decide +kernel)⟩
theorem lw_p30 : lw_okq (⟨"FoundVirtuesModel", "readsOne", "(III)I"⟩, 37) := ⟨⟨by decide +kernel, by decide +kernel⟩, List.mem_of_getElem? (i := 747) (by decide +kernel), List.mem_of_getElem? (i := 896) (by decide +kernel), List.mem_of_getElem? (i := 897) (by decide +kernel)⟩
theorem lw_p31 : lw_okq (⟨"FoundVirtuesModel", "isVirtue", "(I)Z"⟩, 37) := ⟨⟨by decide +kernel, by decide +kernel⟩, List.mem_of_getElem? (i := 747) (by decide +kernel), List.mem_of_getElem? (i := 904) (by decide +kernel), List.mem_of_getElem? (i := 905) (by decide +kernel)⟩
def lw_privs_2 : List (MethodName × Nat) := [(⟨"FoundVirtues", "bestRows", "()LFoundVirtues$Rows;"⟩, 13), (⟨"FoundVirtues$Rows", "withOneMore", "(IIIJ)J"⟩, 3), (⟨"FoundVirtues$Rows", "firstPaired", "(LFoundVirtues$Entries;I)J"⟩, 3), (⟨"FoundVirtues$Office", "alikeIn", "(II)I"⟩, 5), (⟨"FoundVirtues", "guarded", "(II)Z"⟩, 13), (⟨"FoundVirtues", "shelfPlace", "(II)I"⟩, 13), (⟨"FoundVirtues", "comesOutSo", "(II)Z"⟩, 13), (⟨"FoundVirtues", "drawLots", "(II)V"⟩, 13), (⟨"FoundVirtues", "virtueMixed", "(JI)J"⟩, 13), (⟨"FoundVirtues", "claimantMixed", "(JI)J"⟩, 13), (⟨"FoundVirtues", "weekMixed", "(JI)J"⟩, 13), (⟨"FoundVirtues", "wholeMixed", "(J)J"⟩, 13), (⟨"FoundVirtuesModel", "faultOf", "(I)I"⟩, 37), (⟨"FoundVirtuesModel", "readsText", "(I)I"⟩, 37), (⟨"FoundVirtuesModel", "readsOne", "(III)I"⟩, 37), (⟨"FoundVirtuesModel", "isVirtue", "(I)Z"⟩, 37)]
theorem lw_r2 : ∀ q ∈ lw_privs_2, lw_okq q := List.forall_mem_cons.mpr ⟨lw_p16, List.forall_mem_cons.mpr ⟨lw_p17, List.forall_mem_cons.mpr ⟨lw_p18, List.forall_mem_cons.mpr ⟨lw_p19, List.forall_mem_cons.mpr ⟨lw_p20, List.forall_mem_cons.mpr ⟨lw_p21, List.forall_mem_cons.mpr ⟨lw_p22, List.forall_mem_cons.mpr ⟨lw_p23, List.forall_mem_cons.mpr ⟨lw_p24, List.forall_mem_cons.mpr ⟨lw_p25, List.forall_mem_cons.mpr ⟨lw_p26, List.forall_mem_cons.mpr ⟨lw_p27, List.forall_mem_cons.mpr ⟨lw_p28, List.forall_mem_cons.mpr ⟨lw_p29, List.forall_mem_cons.mpr ⟨lw_p30, List.forall_mem_cons.mpr ⟨lw_p31, fun _ h => absurd h List.not_mem_nil⟩⟩⟩⟩⟩⟩⟩⟩⟩⟩⟩⟩⟩⟩⟩⟩
theorem lw_p32 : lw_okq (⟨"FoundVirtuesModel", "reads", "()V"⟩, 37) := ⟨⟨by decide +kernel, by decide +kernel⟩, List.mem_of_getElem? (i := 747) (by decide +kernel), List.mem_of_getElem? (i := 908) (by decide +kernel), List.mem_of_getElem? (i := 909) (by decide +kernel)⟩
theorem lw_p33 : lw_okq (⟨"FoundVirtuesModel", "isClaimant", "(I)Z"⟩, 37) := ⟨⟨by decide +kernel, by decide +kernel⟩, List.mem_of_getElem? (i := 747) (by decide +kernel), List.mem_of_getElem? (i := 916) (by decide +kernel), List.mem_of_getElem? (i := 917) (by decide +kernel)⟩
theorem lw_p34 : lw_okq (⟨"FoundVirtuesModel", "claimantOf", "(II)I"⟩, 37) := ⟨⟨by decide +kernel, by decide +kernel⟩, List.mem_of_getElem? (i := 747) (by decide +kernel), List.mem_of_getElem? (i := 920) (by decide +kernel), List.mem_of_getElem? (i := 921) (by decide +kernel)⟩
theorem lw_p35 : lw_okq (⟨"FoundVirtuesModel", "meets", "(I)I"⟩, 37) := ⟨⟨by decide +kernel, by decide +kernel⟩, List.mem_of_getElem? (i := 747) (by decide +kernel), List.mem_of_getElem? (i := 953) (by decide +kernel), List.mem_of_getElem? (i := 954) (by decide +kernel)⟩
theorem lw_p36 : lw_okq (⟨"FoundVirtuesModel", "behindOf", "(II)I"⟩, 37) := ⟨⟨by decide +kernel, by decide +kernel⟩, List.mem_of_getElem? (i := 747) (by decide +kernel), List.mem_of_getElem? (i := 962) (by decide +kernel), List.mem_of_getElem? (i := 963) (by decide +kernel)⟩
theorem lw_p37 : lw_okq (⟨"FoundVirtuesModel", "runsTo", "(I)V"⟩, 37) := ⟨⟨by decide +kernel, by decide +kernel⟩, List.mem_of_getElem? (i := 747) (by decide +kernel), List.mem_of_getElem? (i := 966) (by decide +kernel), List.mem_of_getElem? (i := 967) (by decide +kernel)⟩
theorem lw_p38 : lw_okq (⟨"FoundVirtuesModel", "runs", "(III)V"⟩, 37) := ⟨⟨by decide +kernel, by decide +kernel⟩, List.mem_of_getElem? (i := 747) (by decide +kernel), List.mem_of_getElem? (i := 970) (by decide +kernel), List.mem_of_getElem? (i := 971) (by decide +kernel)⟩
theorem lw_p39 : lw_okq (⟨"FoundVirtuesModel", "comes", "(II)V"⟩, 37) := ⟨⟨by decide +kernel, by decide +kernel⟩, List.mem_of_getElem? (i := 747) (by decide +kernel), List.mem_of_getElem? (i := 974) (by decide +kernel), List.mem_of_getElem? (i := 975) (by decide +kernel)⟩
theorem lw_p40 : lw_okq (⟨"FoundVirtuesModel", "givenTo", "(I)I"⟩, 37) := ⟨⟨by decide +kernel, by decide +kernel⟩, List.mem_of_getElem? (i := 747) (by decide +kernel), List.mem_of_getElem? (i := 978) (by decide +kernel), List.mem_of_getElem? (i := 979) (by decide +kernel)⟩
theorem lw_p41 : lw_okq (⟨"FoundVirtuesModel", "fits", "(II)Z"⟩, 37) := ⟨⟨by decide +kernel, by decide +kernel⟩, List.mem_of_getElem? (i := 747) (by decide +kernel), List.mem_of_getElem? (i := 982) (by decide +kernel), List.mem_of_getElem? (i := 983) (by decide +kernel)⟩
theorem lw_p42 : lw_okq (⟨"FoundVirtuesModel", "fitsGone", "(I)Z"⟩, 37) := ⟨⟨by decide +kernel, by decide +kernel⟩, List.mem_of_getElem? (i := 747) (by decide +kernel), List.mem_of_getElem? (i := 989) (by decide +kernel), List.mem_of_getElem? (i := 990) (by decide +kernel)⟩
theorem lw_p43 : lw_okq (⟨"FoundVirtuesModel", "bitsNow", "(I)I"⟩, 37) := ⟨⟨by decide +kernel, by decide +kernel⟩, List.mem_of_getElem? (i := 747) (by decide +kernel), List.mem_of_getElem? (i := 993) (by decide +kernel), List.mem_of_getElem? (i := 994) (by decide +kernel)⟩
theorem lw_p44 : lw_okq (⟨"FoundVirtuesModel", "goneOf", "(II)I"⟩, 37) := ⟨⟨by decide +kernel, by decide +kernel⟩, List.mem_of_getElem? (i := 747) (by decide +kernel), List.mem_of_getElem? (i := 1001) (by decide +kernel), List.mem_of_getElem? (i := 1002) (by decide +kernel)⟩
theorem lw_p45 : lw_okq (⟨"FoundVirtuesModel", "emptyNow", "()I"⟩, 37) := ⟨⟨by decide +kernel, by decide +kernel⟩, List.mem_of_getElem? (i := 747) (by decide +kernel), List.mem_of_getElem? (i := 1009) (by decide +kernel), List.mem_of_getElem? (i := 1010) (by decide +kernel)⟩
theorem lw_p46 : lw_okq (⟨"FoundVirtuesModel", "saleNow", "()I"⟩, 37) := ⟨⟨by decide +kernel, by decide +kernel⟩, List.mem_of_getElem? (i := 747) (by decide +kernel), List.mem_of_getElem? (i := 1017) (by decide +kernel), List.mem_of_getElem? (i := 1018) (by decide +kernel)⟩
theorem lw_p47 : lw_okq (⟨"FoundVirtuesModel", "saintOf", "()I"⟩, 37) := ⟨⟨by decide +kernel, by decide +kernel⟩, List.mem_of_getElem? (i := 747) (by decide +kernel), List.mem_of_getElem? (i := 1028) (by decide +kernel), List.mem_of_getElem? (i := 1029) (by decide +kernel)⟩
def lw_privs_3 : List (MethodName × Nat) := [(⟨"FoundVirtuesModel", "reads", "()V"⟩, 37), (⟨"FoundVirtuesModel", "isClaimant", "(I)Z"⟩, 37), (⟨"FoundVirtuesModel", "claimantOf", "(II)I"⟩, 37), (⟨"FoundVirtuesModel", "meets", "(I)I"⟩, 37), (⟨"FoundVirtuesModel", "behindOf", "(II)I"⟩, 37), (⟨"FoundVirtuesModel", "runsTo", "(I)V"⟩, 37), (⟨"FoundVirtuesModel", "runs", "(III)V"⟩, 37), (⟨"FoundVirtuesModel", "comes", "(II)V"⟩, 37), (⟨"FoundVirtuesModel", "givenTo", "(I)I"⟩, 37), (⟨"FoundVirtuesModel", "fits", "(II)Z"⟩, 37), (⟨"FoundVirtuesModel", "fitsGone", "(I)Z"⟩, 37), (⟨"FoundVirtuesModel", "bitsNow", "(I)I"⟩, 37), (⟨"FoundVirtuesModel", "goneOf", "(II)I"⟩, 37), (⟨"FoundVirtuesModel", "emptyNow", "()I"⟩, 37), (⟨"FoundVirtuesModel", "saleNow", "()I"⟩, 37), (⟨"FoundVirtuesModel", "saintOf", "()I"⟩, 37)]
theorem lw_r3 : ∀ q ∈ lw_privs_3, lw_okq q := List.forall_mem_cons.mpr ⟨lw_p32, List.forall_mem_cons.mpr ⟨lw_p33, List.forall_mem_cons.mpr ⟨lw_p34, List.forall_mem_cons.mpr ⟨lw_p35, List.forall_mem_cons.mpr ⟨lw_p36, List.forall_mem_cons.mpr ⟨lw_p37, List.forall_mem_cons.mpr ⟨lw_p38, List.forall_mem_cons.mpr ⟨lw_p39, List.forall_mem_cons.mpr ⟨lw_p40, List.forall_mem_cons.mpr ⟨lw_p41, List.forall_mem_cons.mpr ⟨lw_p42, List.forall_mem_cons.mpr ⟨lw_p43, List.forall_mem_cons.mpr ⟨lw_p44, List.forall_mem_cons.mpr ⟨lw_p45, List.forall_mem_cons.mpr ⟨lw_p46, List.forall_mem_cons.mpr ⟨lw_p47, fun _ h => absurd h List.not_mem_nil⟩⟩⟩⟩⟩⟩⟩⟩⟩⟩⟩⟩⟩⟩⟩⟩
theorem lw_p48 : lw_okq (⟨"FoundVirtuesModel", "fittingOf", "(II)I"⟩, 37) := ⟨⟨by decide +kernel, by decide +kernel⟩, List.mem_of_getElem? (i := 747) (by decide +kernel), List.mem_of_getElem? (i := 1036) (by decide +kernel), List.mem_of_getElem? (i := 1037) (by decide +kernel)⟩
theorem lw_p49 : lw_okq (⟨"FoundVirtuesModel", "matchAt", "(I)I"⟩, 37) := ⟨⟨by decide +kernel, by decide +kernel⟩, List.mem_of_getElem? (i := 747) (by decide +kernel), List.mem_of_getElem? (i := 1044) (by decide +kernel), List.mem_of_getElem? (i := 1045) (by decide +kernel)⟩
theorem lw_p50 : lw_okq (⟨"FoundVirtuesModel", "laysMatch", "()V"⟩, 37) := ⟨⟨by decide +kernel, by decide +kernel⟩, List.mem_of_getElem? (i := 747) (by decide +kernel), List.mem_of_getElem? (i := 1048) (by decide +kernel), List.mem_of_getElem? (i := 1049) (by decide +kernel)⟩
theorem lw_p51 : lw_okq (⟨"FoundVirtuesModel", "askOf", "(I)I"⟩, 37) := ⟨⟨by decide +kernel, by decide +kernel⟩, List.mem_of_getElem? (i := 747) (by decide +kernel), List.mem_of_getElem? (i := 1056) (by decide +kernel), List.mem_of_getElem? (i := 1057) (by decide +kernel)⟩
theorem lw_p52 : lw_okq (⟨"FoundVirtuesModel", "lieOf", "(I)I"⟩, 37) := ⟨⟨by decide +kernel, by decide +kernel⟩, List.mem_of_getElem? (i := 747) (by decide +kernel), List.mem_of_getElem? (i := 1064) (by decide +kernel), List.mem_of_getElem? (i := 1065) (by decide +kernel)⟩
theorem lw_p53 : lw_okq (⟨"FoundVirtuesModel", "guessBy", "(III)I"⟩, 37) := ⟨⟨by decide +kernel, by decide +kernel⟩, List.mem_of_getElem? (i := 747) (by decide +kernel), List.mem_of_getElem? (i := 1072) (by decide +kernel), List.mem_of_getElem? (i := 1073) (by decide +kernel)⟩
theorem lw_p54 : lw_okq (⟨"FoundVirtuesModel", "guardOf", "(I)I"⟩, 37) := ⟨⟨by decide +kernel, by decide +kernel⟩, List.mem_of_getElem? (i := 747) (by decide +kernel), List.mem_of_getElem? (i := 1087) (by decide +kernel), List.mem_of_getElem? (i := 1088) (by decide +kernel)⟩
theorem lw_p55 : lw_okq (⟨"FoundVirtuesModel", "shelvesOf", "(I)I"⟩, 37) := ⟨⟨by decide +kernel, by decide +kernel⟩, List.mem_of_getElem? (i := 747) (by decide +kernel), List.mem_of_getElem? (i := 1095) (by decide +kernel), List.mem_of_getElem? (i := 1096) (by decide +kernel)⟩
theorem lw_p56 : lw_okq (⟨"FoundVirtuesModel", "togetherOf", "(I)I"⟩, 37) := ⟨⟨by decide +kernel, by decide +kernel⟩, List.mem_of_getElem? (i := 747) (by decide +kernel), List.mem_of_getElem? (i := 1103) (by decide +kernel), List.mem_of_getElem? (i := 1104) (by decide +kernel)⟩
theorem lw_p57 : lw_okq (⟨"FoundVirtuesModel", "laysPairs", "()V"⟩, 37) := ⟨⟨by decide +kernel, by decide +kernel⟩, List.mem_of_getElem? (i := 747) (by decide +kernel), List.mem_of_getElem? (i := 1107) (by decide +kernel), List.mem_of_getElem? (i := 1108) (by decide +kernel)⟩
theorem lw_p58 : lw_okq (⟨"FoundVirtuesModel", "arePair", "(II)Z"⟩, 37) := ⟨⟨by decide +kernel, by decide +kernel⟩, List.mem_of_getElem? (i := 747) (by decide +kernel), List.mem_of_getElem? (i := 1111) (by decide +kernel), List.mem_of_getElem? (i := 1112) (by decide +kernel)⟩
theorem lw_p59 : lw_okq (⟨"FoundVirtuesModel", "whenOf", "(I)I"⟩, 37) := ⟨⟨by decide +kernel, by decide +kernel⟩, List.mem_of_getElem? (i := 747) (by decide +kernel), List.mem_of_getElem? (i := 1127) (by decide +kernel), List.mem_of_getElem? (i := 1128) (by decide +kernel)⟩
theorem lw_p60 : lw_okq (⟨"FoundVirtuesModel", "weeksOf", "(III)I"⟩, 37) := ⟨⟨by decide +kernel, by decide +kernel⟩, List.mem_of_getElem? (i := 747) (by decide +kernel), List.mem_of_getElem? (i := 1135) (by decide +kernel), List.mem_of_getElem? (i := 1136) (by decide +kernel)⟩
theorem lw_p61 : lw_okq (⟨"FoundVirtuesModel", "lacks", "(III)I"⟩, 37) := ⟨⟨by decide +kernel, by decide +kernel⟩, List.mem_of_getElem? (i := 747) (by decide +kernel), List.mem_of_getElem? (i := 1152) (by decide +kernel), List.mem_of_getElem? (i := 1153) (by decide +kernel)⟩
theorem lw_p62 : lw_okq (⟨"FoundVirtuesModel", "keep", "(III)V"⟩, 37) := ⟨⟨by decide +kernel, by decide +kernel⟩, List.mem_of_getElem? (i := 747) (by decide +kernel), List.mem_of_getElem? (i := 1156) (by decide +kernel), List.mem_of_getElem? (i := 1157) (by decide +kernel)⟩
theorem lw_p63 : lw_okq (⟨"FoundVirtuesModel", "sumOf", "(I)I"⟩, 37) := ⟨⟨by decide +kernel, by decide +kernel⟩, List.mem_of_getElem? (i := 747) (by decide +kernel), List.mem_of_getElem? (i := 1177) (by decide +kernel), List.mem_of_getElem? (i := 1178) (by decide +kernel)⟩
def lw_privs_4 : List (MethodName × Nat) := [(⟨"FoundVirtuesModel", "fittingOf", "(II)I"⟩, 37), (⟨"FoundVirtuesModel", "matchAt", "(I)I"⟩, 37), (⟨"FoundVirtuesModel", "laysMatch", "()V"⟩, 37), (⟨"FoundVirtuesModel", "askOf", "(I)I"⟩, 37), (⟨"FoundVirtuesModel", "lieOf", "(I)I"⟩, 37), (⟨"FoundVirtuesModel", "guessBy", "(III)I"⟩, 37), (⟨"FoundVirtuesModel", "guardOf", "(I)I"⟩, 37), (⟨"FoundVirtuesModel", "shelvesOf", "(I)I"⟩, 37), (⟨"FoundVirtuesModel", "togetherOf", "(I)I"⟩, 37), (⟨"FoundVirtuesModel", "laysPairs", "()V"⟩, 37), (⟨"FoundVirtuesModel", "arePair", "(II)Z"⟩, 37), (⟨"FoundVirtuesModel", "whenOf", "(I)I"⟩, 37), (⟨"FoundVirtuesModel", "weeksOf", "(III)I"⟩, 37), (⟨"FoundVirtuesModel", "lacks", "(III)I"⟩, 37), (⟨"FoundVirtuesModel", "keep", "(III)V"⟩, 37), (⟨"FoundVirtuesModel", "sumOf", "(I)I"⟩, 37)]
theorem lw_r4 : ∀ q ∈ lw_privs_4, lw_okq q := List.forall_mem_cons.mpr ⟨lw_p48, List.forall_mem_cons.mpr ⟨lw_p49, List.forall_mem_cons.mpr ⟨lw_p50, List.forall_mem_cons.mpr ⟨lw_p51, List.forall_mem_cons.mpr ⟨lw_p52, List.forall_mem_cons.mpr ⟨lw_p53, List.forall_mem_cons.mpr ⟨lw_p54, List.forall_mem_cons.mpr ⟨lw_p55, List.forall_mem_cons.mpr ⟨lw_p56, List.forall_mem_cons.mpr ⟨lw_p57, List.forall_mem_cons.mpr ⟨lw_p58, List.forall_mem_cons.mpr ⟨lw_p59, List.forall_mem_cons.mpr ⟨lw_p60, List.forall_mem_cons.mpr ⟨lw_p61, List.forall_mem_cons.mpr ⟨lw_p62, List.forall_mem_cons.mpr ⟨lw_p63, fun _ h => absurd h List.not_mem_nil⟩⟩⟩⟩⟩⟩⟩⟩⟩⟩⟩⟩⟩⟩⟩⟩
theorem lw_p64 : lw_okq (⟨"FoundVirtuesModel", "virtueDigest", "(JI)J"⟩, 37) := ⟨⟨by decide +kernel, by decide +kernel⟩, List.mem_of_getElem? (i := 747) (by decide +kernel), List.mem_of_getElem? (i := 1188) (by decide +kernel), List.mem_of_getElem? (i := 1189) (by decide +kernel)⟩
theorem lw_p65 : lw_okq (⟨"FoundVirtuesModel", "weekDigest", "(JI)J"⟩, 37) := ⟨⟨by decide +kernel, by decide +kernel⟩, List.mem_of_getElem? (i := 747) (by decide +kernel), List.mem_of_getElem? (i := 1193) (by decide +kernel), List.mem_of_getElem? (i := 1194) (by decide +kernel)⟩
def lw_privs_5 : List (MethodName × Nat) := [(⟨"FoundVirtuesModel", "virtueDigest", "(JI)J"⟩, 37), (⟨"FoundVirtuesModel", "weekDigest", "(JI)J"⟩, 37)]
theorem lw_r5 : ∀ q ∈ lw_privs_5, lw_okq q := List.forall_mem_cons.mpr ⟨lw_p64, List.forall_mem_cons.mpr ⟨lw_p65, fun _ h => absurd h List.not_mem_nil⟩⟩
def lw_privs : List (MethodName × Nat) := lw_privs_1 ++ (lw_privs_2 ++ (lw_privs_3 ++ (lw_privs_4 ++ (lw_privs_5))))
def lw_tbl : List Cond := k2_sels lw_privs ++ tables_1
theorem lw_privs_ok : ∀ q ∈ lw_privs, lw_okq q := by
  show ∀ q ∈ lw_privs_1 ++ (lw_privs_2 ++ (lw_privs_3 ++ (lw_privs_4 ++ (lw_privs_5)))), lw_okq q
  exact List.forall_mem_append.mpr ⟨lw_r1, List.forall_mem_append.mpr ⟨lw_r2, List.forall_mem_append.mpr ⟨lw_r3, List.forall_mem_append.mpr ⟨lw_r4, lw_r5⟩⟩⟩⟩
-- ===== end of PART A; then your names; then what follows =====
end
section
def RX0 : String := "FoundVirtues$Book"
def TX0 : u_T := fun k => match k with
  | 0 => ("FoundVirtues$Book", "week", "[I", true)
  | 1 => ("FoundVirtues$Book", "who", "[I", true)
  | _ => ("FoundVirtues$Book", "size", "I", false)
def tyX0 : Nat → FieldType := fun k => match k with
  | 0 => .array .int
  | 1 => .array .int
  | _ => .int
theorem nmX0 : ∀ a, a < 3 → ∀ b, b < 3 → a ≠ b → (TX0 a).2.1 ≠ (TX0 b).2.1 := by decide +kernel
theorem tyX0_ok : ∀ k, k < 3 → parseFieldDescriptor (TX0 k).2.2.1 = some (tyX0 k) := by decide +kernel
abbrev cX0_init : ByteArray := prog_2_method_1_code
def yX0_init : MethodName := ⟨RX0, "<init>", "()V"⟩
abbrev cX0_add : ByteArray := prog_2_method_2_code
def yX0_add : MethodName := ⟨RX0, "add", "(II)I"⟩
def RX1 : String := "FoundVirtues$Entries"
def TX1 : u_T := fun k => match k with
  | 0 => ("FoundVirtues$Entries", "mayBeVague", "Z", true)
  | 1 => ("FoundVirtues$Entries", "said", "[I", true)
  | 2 => ("FoundVirtues$Entries", "high", "[I", true)
  | 3 => ("FoundVirtues$Entries", "figure", "[I", true)
  | 4 => ("FoundVirtues$Entries", "size", "I", false)
  | 5 => ("FoundVirtues$Entries", "whole", "I", false)
  | _ => ("FoundVirtues$Entries", "wrong", "I", false)
def tyX1 : Nat → FieldType := fun k => match k with
  | 0 => .boolean
  | 1 => .array .int
  | 2 => .array .int
  | 3 => .array .int
  | 4 => .int
  | 5 => .int
  | _ => .int
theorem nmX1 : ∀ a, a < 7 → ∀ b, b < 7 → a ≠ b → (TX1 a).2.1 ≠ (TX1 b).2.1 := by decide +kernel
theorem tyX1_ok : ∀ k, k < 7 → parseFieldDescriptor (TX1 k).2.2.1 = some (tyX1 k) := by decide +kernel
abbrev cX1_init : ByteArray := prog_3_method_1_code
def yX1_init : MethodName := ⟨RX1, "<init>", "(Z)V"⟩
abbrev cX1_add : ByteArray := prog_3_method_2_code
def yX1_add : MethodName := ⟨RX1, "add", "(I)V"⟩
abbrev cX1_dropLast : ByteArray := prog_3_method_3_code
def yX1_dropLast : MethodName := ⟨RX1, "dropLast", "()V"⟩
abbrev cX1_clear : ByteArray := prog_3_method_4_code
def yX1_clear : MethodName := ⟨RX1, "clear", "()V"⟩
abbrev cX1_countWhole : ByteArray := prog_3_method_5_code
def yX1_countWhole : MethodName := ⟨RX1, "countWhole", "()V"⟩
abbrev cX1_faultPlace : ByteArray := prog_3_method_6_code
def yX1_faultPlace : MethodName := ⟨RX1, "faultPlace", "()I"⟩
abbrev cX1_takes : ByteArray := prog_3_method_7_code
def yX1_takes : MethodName := ⟨RX1, "takes", "(I)Z"⟩
abbrev cX1_takesLetter : ByteArray := prog_3_method_8_code
def yX1_takesLetter : MethodName := ⟨RX1, "takesLetter", "(III)Z"⟩
abbrev cX1_takesFigure : ByteArray := prog_3_method_9_code
def yX1_takesFigure : MethodName := ⟨RX1, "takesFigure", "(II)Z"⟩
def RX2 : String := "FoundVirtues$Office"
def TX2 : u_T := fun k => match k with
  | 0 => ("FoundVirtues$Office", "virtues", "LFoundVirtues$Entries;", true)
  | 1 => ("FoundVirtues$Office", "claimants", "LFoundVirtues$Entries;", true)
  | 2 => ("FoundVirtues$Office", "enough", "I", false)
  | 3 => ("FoundVirtues$Office", "secret", "I", false)
  | _ => ("FoundVirtues$Office", "kept", "I", false)
def tyX2 : Nat → FieldType := fun k => match k with
  | 0 => .object "FoundVirtues$Entries"
  | 1 => .object "FoundVirtues$Entries"
  | 2 => .int
  | 3 => .int
  | _ => .int
theorem nmX2 : ∀ a, a < 5 → ∀ b, b < 5 → a ≠ b → (TX2 a).2.1 ≠ (TX2 b).2.1 := by decide +kernel
theorem tyX2_ok : ∀ k, k < 5 → parseFieldDescriptor (TX2 k).2.2.1 = some (tyX2 k) := by decide +kernel
abbrev cX2_init : ByteArray := prog_4_method_1_code
def yX2_init : MethodName := ⟨RX2, "<init>", "(LFoundVirtues$Entries;LFoundVirtues$Entries;)V"⟩
abbrev cX2_isFitting : ByteArray := prog_4_method_2_code
def yX2_isFitting : MethodName := ⟨RX2, "isFitting", "(II)Z"⟩
abbrev cX2_virtuesFittedBy : ByteArray := prog_4_method_3_code
def yX2_virtuesFittedBy : MethodName := ⟨RX2, "virtuesFittedBy", "(I)I"⟩
abbrev cX2_claimantsFitting : ByteArray := prog_4_method_4_code
def yX2_claimantsFitting : MethodName := ⟨RX2, "claimantsFitting", "(I)I"⟩
abbrev cX2_wantedBy : ByteArray := prog_4_method_5_code
def yX2_wantedBy : MethodName := ⟨RX2, "wantedBy", "(I)I"⟩
abbrev cX2_saysEnough : ByteArray := prog_4_method_6_code
def yX2_saysEnough : MethodName := ⟨RX2, "saysEnough", "(I)Z"⟩
abbrev cX2_worthOfAll : ByteArray := prog_4_method_7_code
def yX2_worthOfAll : MethodName := ⟨RX2, "worthOfAll", "()I"⟩
abbrev cX2_leastWorthOf : ByteArray := prog_4_method_8_code
def yX2_leastWorthOf : MethodName := ⟨RX2, "leastWorthOf", "(I)I"⟩
abbrev cX2_highOf : ByteArray := prog_4_method_9_code
def yX2_highOf : MethodName := ⟨RX2, "highOf", "(II)I"⟩
abbrev cX2_alikeIn : ByteArray := prog_4_method_10_code
def yX2_alikeIn : MethodName := ⟨RX2, "alikeIn", "(II)I"⟩
abbrev cX2_alikeInOpen : ByteArray := prog_4_method_11_code
def yX2_alikeInOpen : MethodName := ⟨RX2, "alikeInOpen", "(II)I"⟩
abbrev cX2_onlyOneSuch : ByteArray := prog_4_method_12_code
def yX2_onlyOneSuch : MethodName := ⟨RX2, "onlyOneSuch", "(II)Z"⟩
abbrev cX2_mostOfOneKind : ByteArray := prog_4_method_13_code
def yX2_mostOfOneKind : MethodName := ⟨RX2, "mostOfOneKind", "(I)I"⟩
def RX3 : String := "FoundVirtues$Rows"
def TX3 : u_T := fun k => match k with
  | 0 => ("FoundVirtues$Rows", "best", "[J", true)
  | 1 => ("FoundVirtues$Rows", "matched", "J", false)
  | _ => ("FoundVirtues$Rows", "paired", "J", false)
def tyX3 : Nat → FieldType := fun k => match k with
  | 0 => .array .long
  | 1 => .long
  | _ => .long
theorem nmX3 : ∀ a, a < 3 → ∀ b, b < 3 → a ≠ b → (TX3 a).2.1 ≠ (TX3 b).2.1 := by decide +kernel
theorem tyX3_ok : ∀ k, k < 3 → parseFieldDescriptor (TX3 k).2.2.1 = some (tyX3 k) := by decide +kernel
abbrev cX3_init : ByteArray := prog_5_method_1_code
def yX3_init : MethodName := ⟨RX3, "<init>", "()V"⟩
abbrev cX3_countOf : ByteArray := prog_5_method_2_code
def yX3_countOf : MethodName := ⟨RX3, "countOf", "(J)I"⟩
abbrev cX3_worthOf : ByteArray := prog_5_method_3_code
def yX3_worthOf : MethodName := ⟨RX3, "worthOf", "(J)I"⟩
abbrev cX3_otherOf : ByteArray := prog_5_method_4_code
def yX3_otherOf : MethodName := ⟨RX3, "otherOf", "(JI)I"⟩
abbrev cX3_digit : ByteArray := prog_5_method_5_code
def yX3_digit : MethodName := ⟨RX3, "digit", "(II)J"⟩
abbrev cX3_findMatch : ByteArray := prog_5_method_6_code
def yX3_findMatch : MethodName := ⟨RX3, "findMatch", "(LFoundVirtues$Office;)V"⟩
abbrev cX3_withOneMore : ByteArray := prog_5_method_7_code
def yX3_withOneMore : MethodName := ⟨RX3, "withOneMore", "(IIIJ)J"⟩
abbrev cX3_findPairs : ByteArray := prog_5_method_8_code
def yX3_findPairs : MethodName := ⟨RX3, "findPairs", "(LFoundVirtues$Entries;)V"⟩
abbrev cX3_firstPaired : ByteArray := prog_5_method_9_code
def yX3_firstPaired : MethodName := ⟨RX3, "firstPaired", "(LFoundVirtues$Entries;I)J"⟩
def RX4 : String := "FoundVirtues$Run"
def TX4 : u_T := fun k => match k with
  | 0 => ("FoundVirtues$Run", "office", "LFoundVirtues$Office;", true)
  | 1 => ("FoundVirtues$Run", "handed", "[I", true)
  | 2 => ("FoundVirtues$Run", "queue", "[I", true)
  | 3 => ("FoundVirtues$Run", "queued", "I", false)
  | 4 => ("FoundVirtues$Run", "fitted", "[I", true)
  | 5 => ("FoundVirtues$Run", "allowed", "[I", true)
  | 6 => ("FoundVirtues$Run", "arrived", "[I", true)
  | 7 => ("FoundVirtues$Run", "shelfBehind", "[I", true)
  | 8 => ("FoundVirtues$Run", "givenBehind", "[I", true)
  | 9 => ("FoundVirtues$Run", "soldBehind", "[I", true)
  | 10 => ("FoundVirtues$Run", "taker", "[I", true)
  | 11 => ("FoundVirtues$Run", "goneWeek", "[I", true)
  | 12 => ("FoundVirtues$Run", "shelf", "I", false)
  | 13 => ("FoundVirtues$Run", "given", "I", false)
  | 14 => ("FoundVirtues$Run", "sold", "I", false)
  | 15 => ("FoundVirtues$Run", "served", "J", false)
  | _ => ("FoundVirtues$Run", "saint", "I", false)
def tyX4 : Nat → FieldType := fun k => match k with
  | 0 => .object "FoundVirtues$Office"
  | 1 => .array .int
  | 2 => .array .int
  | 3 => .int
  | 4 => .array .int
  | 5 => .array .int
  | 6 => .array .int
  | 7 => .array .int
  | 8 => .array .int
  | 9 => .array .int
  | 10 => .array .int
  | 11 => .array .int
  | 12 => .int
  | 13 => .int
  | 14 => .int
  | 15 => .long
  | _ => .int
theorem nmX4 : ∀ a, a < 17 → ∀ b, b < 17 → a ≠ b → (TX4 a).2.1 ≠ (TX4 b).2.1 := by decide +kernel
theorem tyX4_ok : ∀ k, k < 17 → parseFieldDescriptor (TX4 k).2.2.1 = some (tyX4 k) := by decide +kernel
abbrev cX4_init : ByteArray := prog_6_method_1_code
def yX4_init : MethodName := ⟨RX4, "<init>", "(LFoundVirtues$Office;)V"⟩
abbrev cX4_load : ByteArray := prog_6_method_2_code
def yX4_load : MethodName := ⟨RX4, "load", "(LFoundVirtues$Book;LFoundVirtues$Book;)V"⟩
abbrev cX4_hand : ByteArray := prog_6_method_3_code
def yX4_hand : MethodName := ⟨RX4, "hand", "(II)V"⟩
abbrev cX4_come : ByteArray := prog_6_method_4_code
def yX4_come : MethodName := ⟨RX4, "come", "(III)V"⟩
abbrev cX4_play : ByteArray := prog_6_method_5_code
def yX4_play : MethodName := ⟨RX4, "play", "(I)V"⟩
abbrev cX4_begin : ByteArray := prog_6_method_6_code
def yX4_begin : MethodName := ⟨RX4, "begin", "()V"⟩
abbrev cX4_bringIn : ByteArray := prog_6_method_7_code
def yX4_bringIn : MethodName := ⟨RX4, "bringIn", "(I)V"⟩
abbrev cX4_serve : ByteArray := prog_6_method_8_code
def yX4_serve : MethodName := ⟨RX4, "serve", "(II)V"⟩
abbrev cX4_give : ByteArray := prog_6_method_9_code
def yX4_give : MethodName := ⟨RX4, "give", "(III)V"⟩
abbrev cX4_sell : ByteArray := prog_6_method_10_code
def yX4_sell : MethodName := ⟨RX4, "sell", "(I)V"⟩
def RX5 : String := "FoundVirtues$Sheet"
def TX5 : u_T := fun k => match k with
  | 0 => ("FoundVirtues$Sheet", "items", "[I", true)
  | 1 => ("FoundVirtues$Sheet", "size", "I", false)
  | _ => ("FoundVirtues$Sheet", "form", "I", false)
def tyX5 : Nat → FieldType := fun k => match k with
  | 0 => .array .int
  | 1 => .int
  | _ => .int
theorem nmX5 : ∀ a, a < 3 → ∀ b, b < 3 → a ≠ b → (TX5 a).2.1 ≠ (TX5 b).2.1 := by decide +kernel
theorem tyX5_ok : ∀ k, k < 3 → parseFieldDescriptor (TX5 k).2.2.1 = some (tyX5 k) := by decide +kernel
abbrev cX5_init : ByteArray := prog_7_method_1_code
def yX5_init : MethodName := ⟨RX5, "<init>", "()V"⟩
abbrev cX5_isLost : ByteArray := prog_7_method_2_code
def yX5_isLost : MethodName := ⟨RX5, "isLost", "()Z"⟩
abbrev cX5_renew : ByteArray := prog_7_method_3_code
def yX5_renew : MethodName := ⟨RX5, "renew", "(II)V"⟩
abbrev cX5_findingAt : ByteArray := prog_7_method_4_code
def yX5_findingAt : MethodName := ⟨RX5, "findingAt", "(II)I"⟩
abbrev cX5_hasRange : ByteArray := prog_7_method_5_code
def yX5_hasRange : MethodName := ⟨RX5, "hasRange", "(II)Z"⟩
abbrev cX5_store : ByteArray := prog_7_method_6_code
def yX5_store : MethodName := ⟨RX5, "store", "(II)V"⟩
def RX6 : String := "FoundVirtues$Sightings"
def TX6 : u_T := fun k => match k with
  | 0 => ("FoundVirtues$Sightings", "week", "[I", true)
  | 1 => ("FoundVirtues$Sightings", "virtue", "[I", true)
  | 2 => ("FoundVirtues$Sightings", "was", "[I", true)
  | _ => ("FoundVirtues$Sightings", "size", "I", false)
def tyX6 : Nat → FieldType := fun k => match k with
  | 0 => .array .int
  | 1 => .array .int
  | 2 => .array .int
  | _ => .int
theorem nmX6 : ∀ a, a < 4 → ∀ b, b < 4 → a ≠ b → (TX6 a).2.1 ≠ (TX6 b).2.1 := by decide +kernel
theorem tyX6_ok : ∀ k, k < 4 → parseFieldDescriptor (TX6 k).2.2.1 = some (tyX6 k) := by decide +kernel
abbrev cX6_init : ByteArray := prog_8_method_1_code
def yX6_init : MethodName := ⟨RX6, "<init>", "()V"⟩
abbrev cX6_add : ByteArray := prog_8_method_2_code
def yX6_add : MethodName := ⟨RX6, "add", "(III)I"⟩
abbrev cX6_lastWeek : ByteArray := prog_8_method_3_code
def yX6_lastWeek : MethodName := ⟨RX6, "lastWeek", "()I"⟩
abbrev cX6_agreeWith : ByteArray := prog_8_method_4_code
def yX6_agreeWith : MethodName := ⟨RX6, "agreeWith", "([I)Z"⟩
def RX7 : String := "FoundVirtues"
def TX7 : u_T := fun k => match k with
  | 0 => ("FoundVirtues", "virtues", "LFoundVirtues$Entries;", true)
  | 1 => ("FoundVirtues", "claimants", "LFoundVirtues$Entries;", true)
  | 2 => ("FoundVirtues", "office", "LFoundVirtues$Office;", true)
  | 3 => ("FoundVirtues", "handings", "LFoundVirtues$Book;", true)
  | 4 => ("FoundVirtues", "claims", "LFoundVirtues$Book;", true)
  | 5 => ("FoundVirtues", "sightings", "LFoundVirtues$Sightings;", true)
  | 6 => ("FoundVirtues", "told", "LFoundVirtues$Run;", true)
  | 7 => ("FoundVirtues", "trial", "LFoundVirtues$Run;", true)
  | 8 => ("FoundVirtues", "rows", "LFoundVirtues$Rows;", true)
  | 9 => ("FoundVirtues", "sheets", "[LFoundVirtues$Sheet;", true)
  | 10 => ("FoundVirtues", "toldStands", "Z", false)
  | 11 => ("FoundVirtues", "rowsStand", "Z", false)
  | _ => ("FoundVirtues", "latestFinding", "I", false)
def tyX7 : Nat → FieldType := fun k => match k with
  | 0 => .object "FoundVirtues$Entries"
  | 1 => .object "FoundVirtues$Entries"
  | 2 => .object "FoundVirtues$Office"
  | 3 => .object "FoundVirtues$Book"
  | 4 => .object "FoundVirtues$Book"
  | 5 => .object "FoundVirtues$Sightings"
  | 6 => .object "FoundVirtues$Run"
  | 7 => .object "FoundVirtues$Run"
  | 8 => .object "FoundVirtues$Rows"
  | 9 => .array (.object "FoundVirtues$Sheet")
  | 10 => .boolean
  | 11 => .boolean
  | _ => .int
theorem nmX7 : ∀ a, a < 13 → ∀ b, b < 13 → a ≠ b → (TX7 a).2.1 ≠ (TX7 b).2.1 := by decide +kernel
theorem tyX7_ok : ∀ k, k < 13 → parseFieldDescriptor (TX7 k).2.2.1 = some (tyX7 k) := by decide +kernel
abbrev cX7_init : ByteArray := prog_1_method_1_code
def yX7_init : MethodName := ⟨RX7, "<init>", "()V"⟩
abbrev cX7_type : ByteArray := prog_1_method_2_code
def yX7_type : MethodName := ⟨RX7, "type", "(II)I"⟩
abbrev cX7_wipe : ByteArray := prog_1_method_3_code
def yX7_wipe : MethodName := ⟨RX7, "wipe", "(I)I"⟩
abbrev cX7_undo : ByteArray := prog_1_method_4_code
def yX7_undo : MethodName := ⟨RX7, "undo", "(I)I"⟩
abbrev cX7_fault : ByteArray := prog_1_method_5_code
def yX7_fault : MethodName := ⟨RX7, "fault", "(I)I"⟩
abbrev cX7_virtue : ByteArray := prog_1_method_6_code
def yX7_virtue : MethodName := ⟨RX7, "virtue", "(II)I"⟩
abbrev cX7_claimant : ByteArray := prog_1_method_7_code
def yX7_claimant : MethodName := ⟨RX7, "claimant", "(II)I"⟩
abbrev cX7_set : ByteArray := prog_1_method_8_code
def yX7_set : MethodName := ⟨RX7, "set", "(II)I"⟩
abbrev cX7_handing : ByteArray := prog_1_method_9_code
def yX7_handing : MethodName := ⟨RX7, "handing", "(II)I"⟩
abbrev cX7_claim : ByteArray := prog_1_method_10_code
def yX7_claim : MethodName := ⟨RX7, "claim", "(II)I"⟩
abbrev cX7_back : ByteArray := prog_1_method_11_code
def yX7_back : MethodName := ⟨RX7, "back", "(I)I"⟩
abbrev cX7_read : ByteArray := prog_1_method_12_code
def yX7_read : MethodName := ⟨RX7, "read", "(I)I"⟩
abbrev cX7_behind : ByteArray := prog_1_method_13_code
def yX7_behind : MethodName := ⟨RX7, "behind", "(II)I"⟩
abbrev cX7_gone : ByteArray := prog_1_method_14_code
def yX7_gone : MethodName := ⟨RX7, "gone", "(II)I"⟩
abbrev cX7_empty : ByteArray := prog_1_method_15_code
def yX7_empty : MethodName := ⟨RX7, "empty", "()I"⟩
abbrev cX7_sale : ByteArray := prog_1_method_16_code
def yX7_sale : MethodName := ⟨RX7, "sale", "()I"⟩
abbrev cX7_saint : ByteArray := prog_1_method_17_code
def yX7_saint : MethodName := ⟨RX7, "saint", "()I"⟩
abbrev cX7_fitting : ByteArray := prog_1_method_18_code
def yX7_fitting : MethodName := ⟨RX7, "fitting", "(II)I"⟩
abbrev cX7_match : ByteArray := prog_1_method_19_code
def yX7_match : MethodName := ⟨RX7, "match", "(I)I"⟩
abbrev cX7_ask : ByteArray := prog_1_method_20_code
def yX7_ask : MethodName := ⟨RX7, "ask", "(I)I"⟩
abbrev cX7_lie : ByteArray := prog_1_method_21_code
def yX7_lie : MethodName := ⟨RX7, "lie", "(I)I"⟩
abbrev cX7_guess : ByteArray := prog_1_method_22_code
def yX7_guess : MethodName := ⟨RX7, "guess", "(II)J"⟩
abbrev cX7_guard : ByteArray := prog_1_method_23_code
def yX7_guard : MethodName := ⟨RX7, "guard", "(I)I"⟩
abbrev cX7_shelves : ByteArray := prog_1_method_24_code
def yX7_shelves : MethodName := ⟨RX7, "shelves", "(I)I"⟩
abbrev cX7_together : ByteArray := prog_1_method_25_code
def yX7_together : MethodName := ⟨RX7, "together", "(I)I"⟩
abbrev cX7_seen : ByteArray := prog_1_method_26_code
def yX7_seen : MethodName := ⟨RX7, "seen", "(III)I"⟩
abbrev cX7_forget : ByteArray := prog_1_method_27_code
def yX7_forget : MethodName := ⟨RX7, "forget", "()I"⟩
abbrev cX7_when : ByteArray := prog_1_method_28_code
def yX7_when : MethodName := ⟨RX7, "when", "(I)I"⟩
abbrev cX7_weeks : ByteArray := prog_1_method_29_code
def yX7_weeks : MethodName := ⟨RX7, "weeks", "(III)I"⟩
abbrev cX7_sheet : ByteArray := prog_1_method_30_code
def yX7_sheet : MethodName := ⟨RX7, "sheet", "(III)I"⟩
abbrev cX7_lose : ByteArray := prog_1_method_31_code
def yX7_lose : MethodName := ⟨RX7, "lose", "(I)I"⟩
abbrev cX7_put : ByteArray := prog_1_method_32_code
def yX7_put : MethodName := ⟨RX7, "put", "(IIII)I"⟩
abbrev cX7_get : ByteArray := prog_1_method_33_code
def yX7_get : MethodName := ⟨RX7, "get", "(III)I"⟩
abbrev cX7_copy : ByteArray := prog_1_method_34_code
def yX7_copy : MethodName := ⟨RX7, "copy", "(IIIII)I"⟩
abbrev cX7_write : ByteArray := prog_1_method_35_code
def yX7_write : MethodName := ⟨RX7, "write", "(I)I"⟩
abbrev cX7_count : ByteArray := prog_1_method_36_code
def yX7_count : MethodName := ⟨RX7, "count", "(I)I"⟩
abbrev cX7_digest : ByteArray := prog_1_method_37_code
def yX7_digest : MethodName := ⟨RX7, "digest", "()J"⟩
abbrev cX7_mixed : ByteArray := prog_1_method_38_code
def yX7_mixed : MethodName := ⟨RX7, "mixed", "(JJ)J"⟩
abbrev cX7_virtueMixed : ByteArray := prog_1_method_39_code
def yX7_virtueMixed : MethodName := ⟨RX7, "virtueMixed", "(JI)J"⟩
abbrev cX7_claimantMixed : ByteArray := prog_1_method_40_code
def yX7_claimantMixed : MethodName := ⟨RX7, "claimantMixed", "(JI)J"⟩
abbrev cX7_weekMixed : ByteArray := prog_1_method_41_code
def yX7_weekMixed : MethodName := ⟨RX7, "weekMixed", "(JI)J"⟩
abbrev cX7_wholeMixed : ByteArray := prog_1_method_42_code
def yX7_wholeMixed : MethodName := ⟨RX7, "wholeMixed", "(J)J"⟩
abbrev cX7_outside : ByteArray := prog_1_method_43_code
def yX7_outside : MethodName := ⟨RX7, "outside", "(II)Z"⟩
abbrev cX7_noVirtue : ByteArray := prog_1_method_44_code
def yX7_noVirtue : MethodName := ⟨RX7, "noVirtue", "(I)Z"⟩
abbrev cX7_noClaimant : ByteArray := prog_1_method_45_code
def yX7_noClaimant : MethodName := ⟨RX7, "noClaimant", "(I)Z"⟩
abbrev cX7_textOf : ByteArray := prog_1_method_46_code
def yX7_textOf : MethodName := ⟨RX7, "textOf", "(I)LFoundVirtues$Entries;"⟩
abbrev cX7_textChanged : ByteArray := prog_1_method_47_code
def yX7_textChanged : MethodName := ⟨RX7, "textChanged", "()V"⟩
abbrev cX7_found : ByteArray := prog_1_method_48_code
def yX7_found : MethodName := ⟨RX7, "found", "(I)I"⟩
abbrev cX7_toldRun : ByteArray := prog_1_method_49_code
def yX7_toldRun : MethodName := ⟨RX7, "toldRun", "()LFoundVirtues$Run;"⟩
abbrev cX7_bestRows : ByteArray := prog_1_method_50_code
def yX7_bestRows : MethodName := ⟨RX7, "bestRows", "()LFoundVirtues$Rows;"⟩
abbrev cX7_greatestDivisor : ByteArray := prog_1_method_51_code
def yX7_greatestDivisor : MethodName := ⟨RX7, "greatestDivisor", "(II)I"⟩
abbrev cX7_guarded : ByteArray := prog_1_method_52_code
def yX7_guarded : MethodName := ⟨RX7, "guarded", "(II)Z"⟩
abbrev cX7_shelfPlace : ByteArray := prog_1_method_53_code
def yX7_shelfPlace : MethodName := ⟨RX7, "shelfPlace", "(II)I"⟩
abbrev cX7_comesOutSo : ByteArray := prog_1_method_54_code
def yX7_comesOutSo : MethodName := ⟨RX7, "comesOutSo", "(II)Z"⟩
abbrev cX7_drawLots : ByteArray := prog_1_method_55_code
def yX7_drawLots : MethodName := ⟨RX7, "drawLots", "(II)V"⟩
abbrev cX7_nextSeed : ByteArray := prog_1_method_56_code
def yX7_nextSeed : MethodName := ⟨RX7, "nextSeed", "(I)I"⟩
def RX8 : String := "FoundVirtuesModel"
def TX8 : u_T := fun k => match k with
  | 0 => ("FoundVirtuesModel", "typed", "[I", true)
  | 1 => ("FoundVirtuesModel", "texts", "[I", true)
  | 2 => ("FoundVirtuesModel", "virtues", "I", false)
  | 3 => ("FoundVirtuesModel", "marks", "[I", true)
  | 4 => ("FoundVirtuesModel", "worths", "[I", true)
  | 5 => ("FoundVirtuesModel", "claimants", "I", false)
  | 6 => ("FoundVirtuesModel", "says", "[I", true)
  | 7 => ("FoundVirtuesModel", "saysHigh", "[I", true)
  | 8 => ("FoundVirtuesModel", "riches", "[I", true)
  | 9 => ("FoundVirtuesModel", "enough", "I", false)
  | 10 => ("FoundVirtuesModel", "secret", "I", false)
  | 11 => ("FoundVirtuesModel", "kept", "I", false)
  | 12 => ("FoundVirtuesModel", "handings", "I", false)
  | 13 => ("FoundVirtuesModel", "handWeek", "[I", true)
  | 14 => ("FoundVirtuesModel", "handVirtue", "[I", true)
  | 15 => ("FoundVirtuesModel", "claims", "I", false)
  | 16 => ("FoundVirtuesModel", "claimWeek", "[I", true)
  | 17 => ("FoundVirtuesModel", "claimOf", "[I", true)
  | 18 => ("FoundVirtuesModel", "cameIn", "[I", true)
  | 19 => ("FoundVirtuesModel", "goneIn", "[I", true)
  | 20 => ("FoundVirtuesModel", "goneTo", "[I", true)
  | 21 => ("FoundVirtuesModel", "emptyBits", "I", false)
  | 22 => ("FoundVirtuesModel", "saintNow", "I", false)
  | 23 => ("FoundVirtuesModel", "matches", "[I", true)
  | 24 => ("FoundVirtuesModel", "matchOf", "[I", true)
  | 25 => ("FoundVirtuesModel", "pairs", "[I", true)
  | 26 => ("FoundVirtuesModel", "pairOf", "[I", true)
  | 27 => ("FoundVirtuesModel", "seens", "I", false)
  | 28 => ("FoundVirtuesModel", "seenWeek", "[I", true)
  | 29 => ("FoundVirtuesModel", "seenVirtue", "[I", true)
  | 30 => ("FoundVirtuesModel", "seenIs", "[I", true)
  | 31 => ("FoundVirtuesModel", "isThere", "[Z", true)
  | 32 => ("FoundVirtuesModel", "forms", "[I", true)
  | 33 => ("FoundVirtuesModel", "sizes", "[I", true)
  | 34 => ("FoundVirtuesModel", "items", "[I", true)
  | 35 => ("FoundVirtuesModel", "moved", "[I", true)
  | _ => ("FoundVirtuesModel", "finding", "I", false)
def tyX8 : Nat → FieldType := fun k => match k with
  | 0 => .array .int
  | 1 => .array .int
  | 2 => .int
  | 3 => .array .int
  | 4 => .array .int
  | 5 => .int
  | 6 => .array .int
  | 7 => .array .int
  | 8 => .array .int
  | 9 => .int
  | 10 => .int
  | 11 => .int
  | 12 => .int
  | 13 => .array .int
  | 14 => .array .int
  | 15 => .int
  | 16 => .array .int
  | 17 => .array .int
  | 18 => .array .int
  | 19 => .array .int
  | 20 => .array .int
  | 21 => .int
  | 22 => .int
  | 23 => .array .int
  | 24 => .array .int
  | 25 => .array .int
  | 26 => .array .int
  | 27 => .int
  | 28 => .array .int
  | 29 => .array .int
  | 30 => .array .int
  | 31 => .array .boolean
  | 32 => .array .int
  | 33 => .array .int
  | 34 => .array .int
  | 35 => .array .int
  | _ => .int
theorem nmX8 : ∀ a, a < 37 → ∀ b, b < 37 → a ≠ b → (TX8 a).2.1 ≠ (TX8 b).2.1 := by decide +kernel
theorem tyX8_ok : ∀ k, k < 37 → parseFieldDescriptor (TX8 k).2.2.1 = some (tyX8 k) := by decide +kernel
abbrev cX8_init : ByteArray := prog_10_method_1_code
def yX8_init : MethodName := ⟨RX8, "<init>", "()V"⟩
abbrev cX8_in : ByteArray := prog_10_method_3_code
def yX8_in : MethodName := ⟨RX8, "in", "(III)Z"⟩
abbrev cX8_isIn : ByteArray := prog_10_method_4_code
def yX8_isIn : MethodName := ⟨RX8, "isIn", "(II)Z"⟩
abbrev cX8_ones : ByteArray := prog_10_method_5_code
def yX8_ones : MethodName := ⟨RX8, "ones", "(I)I"⟩
abbrev cX8_no : ByteArray := prog_10_method_6_code
def yX8_no : MethodName := ⟨RX8, "no", "(I)J"⟩
abbrev cX8_lowest : ByteArray := prog_10_method_7_code
def yX8_lowest : MethodName := ⟨RX8, "lowest", "(JJI)J"⟩
abbrev cX8_isText : ByteArray := prog_10_method_8_code
def yX8_isText : MethodName := ⟨RX8, "isText", "(I)Z"⟩
abbrev cX8_isEight : ByteArray := prog_10_method_9_code
def yX8_isEight : MethodName := ⟨RX8, "isEight", "(I)Z"⟩
abbrev cX8_isWeek : ByteArray := prog_10_method_10_code
def yX8_isWeek : MethodName := ⟨RX8, "isWeek", "(I)Z"⟩
abbrev cX8_type : ByteArray := prog_10_method_11_code
def yX8_type : MethodName := ⟨RX8, "type", "(II)I"⟩
abbrev cX8_wipe : ByteArray := prog_10_method_12_code
def yX8_wipe : MethodName := ⟨RX8, "wipe", "(I)I"⟩
abbrev cX8_undo : ByteArray := prog_10_method_13_code
def yX8_undo : MethodName := ⟨RX8, "undo", "(I)I"⟩
abbrev cX8_readsOne : ByteArray := prog_10_method_14_code
def yX8_readsOne : MethodName := ⟨RX8, "readsOne", "(III)I"⟩
abbrev cX8_readsText : ByteArray := prog_10_method_15_code
def yX8_readsText : MethodName := ⟨RX8, "readsText", "(I)I"⟩
abbrev cX8_faultOf : ByteArray := prog_10_method_16_code
def yX8_faultOf : MethodName := ⟨RX8, "faultOf", "(I)I"⟩
abbrev cX8_reads : ByteArray := prog_10_method_17_code
def yX8_reads : MethodName := ⟨RX8, "reads", "()V"⟩
abbrev cX8_fault : ByteArray := prog_10_method_18_code
def yX8_fault : MethodName := ⟨RX8, "fault", "(I)I"⟩
abbrev cX8_isVirtue : ByteArray := prog_10_method_19_code
def yX8_isVirtue : MethodName := ⟨RX8, "isVirtue", "(I)Z"⟩
abbrev cX8_isClaimant : ByteArray := prog_10_method_20_code
def yX8_isClaimant : MethodName := ⟨RX8, "isClaimant", "(I)Z"⟩
abbrev cX8_virtue : ByteArray := prog_10_method_21_code
def yX8_virtue : MethodName := ⟨RX8, "virtue", "(II)I"⟩
abbrev cX8_claimantOf : ByteArray := prog_10_method_22_code
def yX8_claimantOf : MethodName := ⟨RX8, "claimantOf", "(II)I"⟩
abbrev cX8_claimant : ByteArray := prog_10_method_23_code
def yX8_claimant : MethodName := ⟨RX8, "claimant", "(II)I"⟩
abbrev cX8_set : ByteArray := prog_10_method_24_code
def yX8_set : MethodName := ⟨RX8, "set", "(II)I"⟩
abbrev cX8_handing : ByteArray := prog_10_method_25_code
def yX8_handing : MethodName := ⟨RX8, "handing", "(II)I"⟩
abbrev cX8_claim : ByteArray := prog_10_method_26_code
def yX8_claim : MethodName := ⟨RX8, "claim", "(II)I"⟩
abbrev cX8_back : ByteArray := prog_10_method_27_code
def yX8_back : MethodName := ⟨RX8, "back", "(I)I"⟩
abbrev cX8_read : ByteArray := prog_10_method_28_code
def yX8_read : MethodName := ⟨RX8, "read", "(I)I"⟩
abbrev cX8_fits : ByteArray := prog_10_method_29_code
def yX8_fits : MethodName := ⟨RX8, "fits", "(II)Z"⟩
abbrev cX8_givenTo : ByteArray := prog_10_method_30_code
def yX8_givenTo : MethodName := ⟨RX8, "givenTo", "(I)I"⟩
abbrev cX8_fitsGone : ByteArray := prog_10_method_31_code
def yX8_fitsGone : MethodName := ⟨RX8, "fitsGone", "(I)Z"⟩
abbrev cX8_comes : ByteArray := prog_10_method_32_code
def yX8_comes : MethodName := ⟨RX8, "comes", "(II)V"⟩
abbrev cX8_runs : ByteArray := prog_10_method_33_code
def yX8_runs : MethodName := ⟨RX8, "runs", "(III)V"⟩
abbrev cX8_runsTo : ByteArray := prog_10_method_34_code
def yX8_runsTo : MethodName := ⟨RX8, "runsTo", "(I)V"⟩
abbrev cX8_bitsNow : ByteArray := prog_10_method_35_code
def yX8_bitsNow : MethodName := ⟨RX8, "bitsNow", "(I)I"⟩
abbrev cX8_behindOf : ByteArray := prog_10_method_36_code
def yX8_behindOf : MethodName := ⟨RX8, "behindOf", "(II)I"⟩
abbrev cX8_behind : ByteArray := prog_10_method_37_code
def yX8_behind : MethodName := ⟨RX8, "behind", "(II)I"⟩
abbrev cX8_goneOf : ByteArray := prog_10_method_38_code
def yX8_goneOf : MethodName := ⟨RX8, "goneOf", "(II)I"⟩
abbrev cX8_gone : ByteArray := prog_10_method_39_code
def yX8_gone : MethodName := ⟨RX8, "gone", "(II)I"⟩
abbrev cX8_emptyNow : ByteArray := prog_10_method_40_code
def yX8_emptyNow : MethodName := ⟨RX8, "emptyNow", "()I"⟩
abbrev cX8_empty : ByteArray := prog_10_method_41_code
def yX8_empty : MethodName := ⟨RX8, "empty", "()I"⟩
abbrev cX8_saleNow : ByteArray := prog_10_method_42_code
def yX8_saleNow : MethodName := ⟨RX8, "saleNow", "()I"⟩
abbrev cX8_sale : ByteArray := prog_10_method_43_code
def yX8_sale : MethodName := ⟨RX8, "sale", "()I"⟩
abbrev cX8_saintOf : ByteArray := prog_10_method_44_code
def yX8_saintOf : MethodName := ⟨RX8, "saintOf", "()I"⟩
abbrev cX8_saint : ByteArray := prog_10_method_45_code
def yX8_saint : MethodName := ⟨RX8, "saint", "()I"⟩
abbrev cX8_fittingOf : ByteArray := prog_10_method_46_code
def yX8_fittingOf : MethodName := ⟨RX8, "fittingOf", "(II)I"⟩
abbrev cX8_fitting : ByteArray := prog_10_method_47_code
def yX8_fitting : MethodName := ⟨RX8, "fitting", "(II)I"⟩
abbrev cX8_laysMatch : ByteArray := prog_10_method_48_code
def yX8_laysMatch : MethodName := ⟨RX8, "laysMatch", "()V"⟩
abbrev cX8_matchAt : ByteArray := prog_10_method_49_code
def yX8_matchAt : MethodName := ⟨RX8, "matchAt", "(I)I"⟩
abbrev cX8_match : ByteArray := prog_10_method_50_code
def yX8_match : MethodName := ⟨RX8, "match", "(I)I"⟩
abbrev cX8_askOf : ByteArray := prog_10_method_51_code
def yX8_askOf : MethodName := ⟨RX8, "askOf", "(I)I"⟩
abbrev cX8_ask : ByteArray := prog_10_method_52_code
def yX8_ask : MethodName := ⟨RX8, "ask", "(I)I"⟩
abbrev cX8_lieOf : ByteArray := prog_10_method_53_code
def yX8_lieOf : MethodName := ⟨RX8, "lieOf", "(I)I"⟩
abbrev cX8_lie : ByteArray := prog_10_method_54_code
def yX8_lie : MethodName := ⟨RX8, "lie", "(I)I"⟩
abbrev cX8_guessBy : ByteArray := prog_10_method_55_code
def yX8_guessBy : MethodName := ⟨RX8, "guessBy", "(III)I"⟩
abbrev cX8_guess : ByteArray := prog_10_method_56_code
def yX8_guess : MethodName := ⟨RX8, "guess", "(II)J"⟩
abbrev cX8_guardOf : ByteArray := prog_10_method_57_code
def yX8_guardOf : MethodName := ⟨RX8, "guardOf", "(I)I"⟩
abbrev cX8_guard : ByteArray := prog_10_method_58_code
def yX8_guard : MethodName := ⟨RX8, "guard", "(I)I"⟩
abbrev cX8_shelvesOf : ByteArray := prog_10_method_59_code
def yX8_shelvesOf : MethodName := ⟨RX8, "shelvesOf", "(I)I"⟩
abbrev cX8_shelves : ByteArray := prog_10_method_60_code
def yX8_shelves : MethodName := ⟨RX8, "shelves", "(I)I"⟩
abbrev cX8_arePair : ByteArray := prog_10_method_61_code
def yX8_arePair : MethodName := ⟨RX8, "arePair", "(II)Z"⟩
abbrev cX8_laysPairs : ByteArray := prog_10_method_62_code
def yX8_laysPairs : MethodName := ⟨RX8, "laysPairs", "()V"⟩
abbrev cX8_togetherOf : ByteArray := prog_10_method_63_code
def yX8_togetherOf : MethodName := ⟨RX8, "togetherOf", "(I)I"⟩
abbrev cX8_together : ByteArray := prog_10_method_64_code
def yX8_together : MethodName := ⟨RX8, "together", "(I)I"⟩
abbrev cX8_seen : ByteArray := prog_10_method_65_code
def yX8_seen : MethodName := ⟨RX8, "seen", "(III)I"⟩
abbrev cX8_forget : ByteArray := prog_10_method_66_code
def yX8_forget : MethodName := ⟨RX8, "forget", "()I"⟩
abbrev cX8_whenOf : ByteArray := prog_10_method_67_code
def yX8_whenOf : MethodName := ⟨RX8, "whenOf", "(I)I"⟩
abbrev cX8_when : ByteArray := prog_10_method_68_code
def yX8_when : MethodName := ⟨RX8, "when", "(I)I"⟩
abbrev cX8_weeksOf : ByteArray := prog_10_method_69_code
def yX8_weeksOf : MethodName := ⟨RX8, "weeksOf", "(III)I"⟩
abbrev cX8_weeks : ByteArray := prog_10_method_70_code
def yX8_weeks : MethodName := ⟨RX8, "weeks", "(III)I"⟩
abbrev cX8_meets : ByteArray := prog_10_method_71_code
def yX8_meets : MethodName := ⟨RX8, "meets", "(I)I"⟩
abbrev cX8_isSheet : ByteArray := prog_10_method_72_code
def yX8_isSheet : MethodName := ⟨RX8, "isSheet", "(I)Z"⟩
abbrev cX8_sheet : ByteArray := prog_10_method_73_code
def yX8_sheet : MethodName := ⟨RX8, "sheet", "(III)I"⟩
abbrev cX8_lose : ByteArray := prog_10_method_74_code
def yX8_lose : MethodName := ⟨RX8, "lose", "(I)I"⟩
abbrev cX8_lacks : ByteArray := prog_10_method_75_code
def yX8_lacks : MethodName := ⟨RX8, "lacks", "(III)I"⟩
abbrev cX8_keep : ByteArray := prog_10_method_76_code
def yX8_keep : MethodName := ⟨RX8, "keep", "(III)V"⟩
abbrev cX8_put : ByteArray := prog_10_method_77_code
def yX8_put : MethodName := ⟨RX8, "put", "(IIII)I"⟩
abbrev cX8_get : ByteArray := prog_10_method_78_code
def yX8_get : MethodName := ⟨RX8, "get", "(III)I"⟩
abbrev cX8_copy : ByteArray := prog_10_method_79_code
def yX8_copy : MethodName := ⟨RX8, "copy", "(IIIII)I"⟩
abbrev cX8_write : ByteArray := prog_10_method_80_code
def yX8_write : MethodName := ⟨RX8, "write", "(I)I"⟩
abbrev cX8_sumOf : ByteArray := prog_10_method_81_code
def yX8_sumOf : MethodName := ⟨RX8, "sumOf", "(I)I"⟩
abbrev cX8_count : ByteArray := prog_10_method_82_code
def yX8_count : MethodName := ⟨RX8, "count", "(I)I"⟩
abbrev cX8_virtueDigest : ByteArray := prog_10_method_83_code
def yX8_virtueDigest : MethodName := ⟨RX8, "virtueDigest", "(JI)J"⟩
abbrev cX8_weekDigest : ByteArray := prog_10_method_84_code
def yX8_weekDigest : MethodName := ⟨RX8, "weekDigest", "(JI)J"⟩
abbrev cX8_digest : ByteArray := prog_10_method_85_code
def yX8_digest : MethodName := ⟨RX8, "digest", "()J"⟩
def RJ6 : String := "java/lang/Integer"
def TJ6 : u_T := fun k => match k with
  | _ => ("", "", "", false)
def tyJ6 : Nat → FieldType := fun k => match k with
  | _ => .int
theorem nmJ6 : ∀ a, a < 0 → ∀ b, b < 0 → a ≠ b → (TJ6 a).2.1 ≠ (TJ6 b).2.1 := by decide +kernel
theorem tyJ6_ok : ∀ k, k < 0 → parseFieldDescriptor (TJ6 k).2.2.1 = some (tyJ6 k) := by decide +kernel
abbrev cJ6_numberOfTrailingZeros_0f7a4 : ByteArray := prog_11_method_48_code
def yJ6_numberOfTrailingZeros_0f7a4 : MethodName := ⟨RJ6, "numberOfTrailingZeros", "(I)I"⟩
abbrev cJ6_bitCount_0f7a4 : ByteArray := prog_11_method_49_code
def yJ6_bitCount_0f7a4 : MethodName := ⟨RJ6, "bitCount", "(I)I"⟩
def RJ9 : String := "java/lang/Math"
def TJ9 : u_T := fun k => match k with
  | _ => ("", "", "", false)
def tyJ9 : Nat → FieldType := fun k => match k with
  | _ => .int
theorem nmJ9 : ∀ a, a < 0 → ∀ b, b < 0 → a ≠ b → (TJ9 a).2.1 ≠ (TJ9 b).2.1 := by decide +kernel
theorem tyJ9_ok : ∀ k, k < 0 → parseFieldDescriptor (TJ9 k).2.2.1 = some (tyJ9 k) := by decide +kernel
abbrev cJ9_max_7cf53 : ByteArray := prog_12_method_65_code
def yJ9_max_7cf53 : MethodName := ⟨RJ9, "max", "(II)I"⟩
abbrev cJ9_max_f86c9 : ByteArray := prog_12_method_66_code
def yJ9_max_f86c9 : MethodName := ⟨RJ9, "max", "(JJ)J"⟩
abbrev cJ9_min_7cf53 : ByteArray := prog_12_method_69_code
def yJ9_min_7cf53 : MethodName := ⟨RJ9, "min", "(II)I"⟩
def RJ10 : String := "java/lang/System"
def TJ10 : u_T := fun k => match k with
  | _ => ("", "", "", false)
def tyJ10 : Nat → FieldType := fun k => match k with
  | _ => .int
theorem nmJ10 : ∀ a, a < 0 → ∀ b, b < 0 → a ≠ b → (TJ10 a).2.1 ≠ (TJ10 b).2.1 := by decide +kernel
theorem tyJ10_ok : ∀ k, k < 0 → parseFieldDescriptor (TJ10 k).2.2.1 = some (tyJ10 k) := by decide +kernel
def RJ7 : String := "java/util/Arrays"
def TJ7 : u_T := fun k => match k with
  | _ => ("", "", "", false)
def tyJ7 : Nat → FieldType := fun k => match k with
  | _ => .int
theorem nmJ7 : ∀ a, a < 0 → ∀ b, b < 0 → a ≠ b → (TJ7 a).2.1 ≠ (TJ7 b).2.1 := by decide +kernel
theorem tyJ7_ok : ∀ k, k < 0 → parseFieldDescriptor (TJ7 k).2.2.1 = some (tyJ7 k) := by decide +kernel
abbrev cJ7_fill_d0a16 : ByteArray := prog_14_method_101_code
def yJ7_fill_d0a16 : MethodName := ⟨RJ7, "fill", "([JJ)V"⟩
abbrev cJ7_fill_53178 : ByteArray := prog_14_method_103_code
def yJ7_fill_53178 : MethodName := ⟨RJ7, "fill", "([II)V"⟩
def RL : String := "FoundVirtuesLaw"
abbrev cL_law : ByteArray := code
def yL_law : MethodName := ⟨RL, "law", "([I)Z"⟩
abbrev vwCl : List vw_C := [(RX0, TX0, 3), (RX1, TX1, 7), (RX2, TX2, 5), (RX3, TX3, 3), (RX4, TX4, 17), (RX5, TX5, 3), (RX6, TX6, 4), (RX7, TX7, 13), (RX8, TX8, 37)]
end
section
theorem dX0_init_0 : decode cX0_init 0 = .ok (.aload_n 0, 1) := by decide +kernel
theorem dX0_init_1 : decode cX0_init 1 = .ok (.invokespecial 3, 3) := by decide +kernel
theorem dX0_init_4 : decode cX0_init 4 = .ok (.aload_n 0, 1) := by decide +kernel
theorem dX0_init_5 : decode cX0_init 5 = .ok (.bipush 12, 2) := by decide +kernel
theorem dX0_init_7 : decode cX0_init 7 = .ok (.newarray .int, 2) := by decide +kernel
theorem dX0_init_9 : decode cX0_init 9 = .ok (.putfield 9, 3) := by decide +kernel
theorem dX0_init_12 : decode cX0_init 12 = .ok (.aload_n 0, 1) := by decide +kernel
theorem dX0_init_13 : decode cX0_init 13 = .ok (.bipush 12, 2) := by decide +kernel
theorem dX0_init_15 : decode cX0_init 15 = .ok (.newarray .int, 2) := by decide +kernel
theorem dX0_init_17 : decode cX0_init 17 = .ok (.putfield 15, 3) := by decide +kernel
theorem dX0_init_20 : decode cX0_init 20 = .ok (.return_, 1) := by decide +kernel
theorem dX0_add_0 : decode cX0_add 0 = .ok (.iload_n 1, 1) := by decide +kernel
theorem dX0_add_1 : decode cX0_add 1 = .ok (.bipush 40, 2) := by decide +kernel
theorem dX0_add_3 : decode cX0_add 3 = .ok (.invokestatic 18, 3) := by decide +kernel
theorem dX0_add_6 : decode cX0_add 6 = .ok (.ifCond .ne 12, 3) := by decide +kernel
theorem dX0_add_9 : decode cX0_add 9 = .ok (.iload_n 2, 1) := by decide +kernel
theorem dX0_add_10 : decode cX0_add 10 = .ok (.bipush 8, 2) := by decide +kernel
theorem dX0_add_12 : decode cX0_add 12 = .ok (.invokestatic 18, 3) := by decide +kernel
theorem dX0_add_15 : decode cX0_add 15 = .ok (.ifCond .eq 6, 3) := by decide +kernel
theorem dX0_add_18 : decode cX0_add 18 = .ok (.bipush (-2), 2) := by decide +kernel
theorem dX0_add_20 : decode cX0_add 20 = .ok (.ireturn, 1) := by decide +kernel
theorem dX0_add_21 : decode cX0_add 21 = .ok (.aload_n 0, 1) := by decide +kernel
theorem dX0_add_22 : decode cX0_add 22 = .ok (.getfield 22, 3) := by decide +kernel
theorem dX0_add_25 : decode cX0_add 25 = .ok (.bipush 12, 2) := by decide +kernel
theorem dX0_add_27 : decode cX0_add 27 = .ok (.if_icmp .lt 6, 3) := by decide +kernel
theorem dX0_add_30 : decode cX0_add 30 = .ok (.bipush (-4), 2) := by decide +kernel
theorem dX0_add_32 : decode cX0_add 32 = .ok (.ireturn, 1) := by decide +kernel
theorem dX0_add_33 : decode cX0_add 33 = .ok (.aload_n 0, 1) := by decide +kernel
theorem dX0_add_34 : decode cX0_add 34 = .ok (.getfield 9, 3) := by decide +kernel
theorem dX0_add_37 : decode cX0_add 37 = .ok (.aload_n 0, 1) := by decide +kernel
theorem dX0_add_38 : decode cX0_add 38 = .ok (.getfield 22, 3) := by decide +kernel
theorem dX0_add_41 : decode cX0_add 41 = .ok (.iload_n 1, 1) := by decide +kernel
theorem dX0_add_42 : decode cX0_add 42 = .ok (.iastore, 1) := by decide +kernel
theorem dX0_add_43 : decode cX0_add 43 = .ok (.aload_n 0, 1) := by decide +kernel
theorem dX0_add_44 : decode cX0_add 44 = .ok (.getfield 15, 3) := by decide +kernel
theorem dX0_add_47 : decode cX0_add 47 = .ok (.aload_n 0, 1) := by decide +kernel
theorem dX0_add_48 : decode cX0_add 48 = .ok (.getfield 22, 3) := by decide +kernel
theorem dX0_add_51 : decode cX0_add 51 = .ok (.iload_n 2, 1) := by decide +kernel
theorem dX0_add_52 : decode cX0_add 52 = .ok (.iastore, 1) := by decide +kernel
theorem dX0_add_53 : decode cX0_add 53 = .ok (.aload_n 0, 1) := by decide +kernel
theorem dX0_add_54 : decode cX0_add 54 = .ok (.dup, 1) := by decide +kernel
theorem dX0_add_55 : decode cX0_add 55 = .ok (.getfield 22, 3) := by decide +kernel
theorem dX0_add_58 : decode cX0_add 58 = .ok (.iconst 1, 1) := by decide +kernel
theorem dX0_add_59 : decode cX0_add 59 = .ok (.iadd, 1) := by decide +kernel
theorem dX0_add_60 : decode cX0_add 60 = .ok (.putfield 22, 3) := by decide +kernel
theorem dX0_add_63 : decode cX0_add 63 = .ok (.aload_n 0, 1) := by decide +kernel
theorem dX0_add_64 : decode cX0_add 64 = .ok (.getfield 22, 3) := by decide +kernel
theorem dX0_add_67 : decode cX0_add 67 = .ok (.ireturn, 1) := by decide +kernel
theorem dX1_init_0 : decode cX1_init 0 = .ok (.aload_n 0, 1) := by decide +kernel
theorem dX1_init_1 : decode cX1_init 1 = .ok (.invokespecial 3, 3) := by decide +kernel
theorem dX1_init_4 : decode cX1_init 4 = .ok (.aload_n 0, 1) := by decide +kernel
theorem dX1_init_5 : decode cX1_init 5 = .ok (.bipush 8, 2) := by decide +kernel
theorem dX1_init_7 : decode cX1_init 7 = .ok (.newarray .int, 2) := by decide +kernel
theorem dX1_init_9 : decode cX1_init 9 = .ok (.putfield 9, 3) := by decide +kernel
theorem dX1_init_12 : decode cX1_init 12 = .ok (.aload_n 0, 1) := by decide +kernel
theorem dX1_init_13 : decode cX1_init 13 = .ok (.bipush 8, 2) := by decide +kernel
theorem dX1_init_15 : decode cX1_init 15 = .ok (.newarray .int, 2) := by decide +kernel
theorem dX1_init_17 : decode cX1_init 17 = .ok (.putfield 15, 3) := by decide +kernel
theorem dX1_init_20 : decode cX1_init 20 = .ok (.aload_n 0, 1) := by decide +kernel
theorem dX1_init_21 : decode cX1_init 21 = .ok (.bipush 8, 2) := by decide +kernel
theorem dX1_init_23 : decode cX1_init 23 = .ok (.newarray .int, 2) := by decide +kernel
theorem dX1_init_25 : decode cX1_init 25 = .ok (.putfield 18, 3) := by decide +kernel
theorem dX1_init_28 : decode cX1_init 28 = .ok (.aload_n 0, 1) := by decide +kernel
theorem dX1_init_29 : decode cX1_init 29 = .ok (.iconst (-1), 1) := by decide +kernel
theorem dX1_init_30 : decode cX1_init 30 = .ok (.putfield 21, 3) := by decide +kernel
theorem dX1_init_33 : decode cX1_init 33 = .ok (.aload_n 0, 1) := by decide +kernel
theorem dX1_init_34 : decode cX1_init 34 = .ok (.iload_n 1, 1) := by decide +kernel
theorem dX1_init_35 : decode cX1_init 35 = .ok (.putfield 25, 3) := by decide +kernel
theorem dX1_init_38 : decode cX1_init 38 = .ok (.return_, 1) := by decide +kernel
theorem dX1_add_0 : decode cX1_add 0 = .ok (.aload_n 0, 1) := by decide +kernel
theorem dX1_add_1 : decode cX1_add 1 = .ok (.getfield 21, 3) := by decide +kernel
theorem dX1_add_4 : decode cX1_add 4 = .ok (.iconst (-1), 1) := by decide +kernel
theorem dX1_add_5 : decode cX1_add 5 = .ok (.if_icmp .ne 19, 3) := by decide +kernel
theorem dX1_add_8 : decode cX1_add 8 = .ok (.aload_n 0, 1) := by decide +kernel
theorem dX1_add_9 : decode cX1_add 9 = .ok (.iload_n 1, 1) := by decide +kernel
theorem dX1_add_10 : decode cX1_add 10 = .ok (.invokevirtual 29, 3) := by decide +kernel
theorem dX1_add_13 : decode cX1_add 13 = .ok (.ifCond .ne 11, 3) := by decide +kernel
theorem dX1_add_16 : decode cX1_add 16 = .ok (.aload_n 0, 1) := by decide +kernel
theorem dX1_add_17 : decode cX1_add 17 = .ok (.aload_n 0, 1) := by decide +kernel
theorem dX1_add_18 : decode cX1_add 18 = .ok (.getfield 33, 3) := by decide +kernel
theorem dX1_add_21 : decode cX1_add 21 = .ok (.putfield 21, 3) := by decide +kernel
theorem dX1_add_24 : decode cX1_add 24 = .ok (.aload_n 0, 1) := by decide +kernel
theorem dX1_add_25 : decode cX1_add 25 = .ok (.dup, 1) := by decide +kernel
theorem dX1_add_26 : decode cX1_add 26 = .ok (.getfield 33, 3) := by decide +kernel
theorem dX1_add_29 : decode cX1_add 29 = .ok (.iconst 1, 1) := by decide +kernel
theorem dX1_add_30 : decode cX1_add 30 = .ok (.iadd, 1) := by decide +kernel
theorem dX1_add_31 : decode cX1_add 31 = .ok (.putfield 33, 3) := by decide +kernel
theorem dX1_add_34 : decode cX1_add 34 = .ok (.aload_n 0, 1) := by decide +kernel
theorem dX1_add_35 : decode cX1_add 35 = .ok (.invokevirtual 36, 3) := by decide +kernel
theorem dX1_add_38 : decode cX1_add 38 = .ok (.return_, 1) := by decide +kernel
theorem dX1_dropLast_0 : decode cX1_dropLast 0 = .ok (.aload_n 0, 1) := by decide +kernel
theorem dX1_dropLast_1 : decode cX1_dropLast 1 = .ok (.dup, 1) := by decide +kernel
theorem dX1_dropLast_2 : decode cX1_dropLast 2 = .ok (.getfield 33, 3) := by decide +kernel
theorem dX1_dropLast_5 : decode cX1_dropLast 5 = .ok (.iconst 1, 1) := by decide +kernel
theorem dX1_dropLast_6 : decode cX1_dropLast 6 = .ok (.isub, 1) := by decide +kernel
theorem dX1_dropLast_7 : decode cX1_dropLast 7 = .ok (.putfield 33, 3) := by decide +kernel
theorem dX1_dropLast_10 : decode cX1_dropLast 10 = .ok (.aload_n 0, 1) := by decide +kernel
theorem dX1_dropLast_11 : decode cX1_dropLast 11 = .ok (.getfield 21, 3) := by decide +kernel
theorem dX1_dropLast_14 : decode cX1_dropLast 14 = .ok (.aload_n 0, 1) := by decide +kernel
theorem dX1_dropLast_15 : decode cX1_dropLast 15 = .ok (.getfield 33, 3) := by decide +kernel
theorem dX1_dropLast_18 : decode cX1_dropLast 18 = .ok (.if_icmp .ne 8, 3) := by decide +kernel
theorem dX1_dropLast_21 : decode cX1_dropLast 21 = .ok (.aload_n 0, 1) := by decide +kernel
theorem dX1_dropLast_22 : decode cX1_dropLast 22 = .ok (.iconst (-1), 1) := by decide +kernel
theorem dX1_dropLast_23 : decode cX1_dropLast 23 = .ok (.putfield 21, 3) := by decide +kernel
theorem dX1_dropLast_26 : decode cX1_dropLast 26 = .ok (.aload_n 0, 1) := by decide +kernel
theorem dX1_dropLast_27 : decode cX1_dropLast 27 = .ok (.invokevirtual 36, 3) := by decide +kernel
theorem dX1_dropLast_30 : decode cX1_dropLast 30 = .ok (.return_, 1) := by decide +kernel
theorem dX1_clear_0 : decode cX1_clear 0 = .ok (.aload_n 0, 1) := by decide +kernel
theorem dX1_clear_1 : decode cX1_clear 1 = .ok (.iconst 0, 1) := by decide +kernel
theorem dX1_clear_2 : decode cX1_clear 2 = .ok (.putfield 33, 3) := by decide +kernel
theorem dX1_clear_5 : decode cX1_clear 5 = .ok (.aload_n 0, 1) := by decide +kernel
theorem dX1_clear_6 : decode cX1_clear 6 = .ok (.iconst (-1), 1) := by decide +kernel
theorem dX1_clear_7 : decode cX1_clear 7 = .ok (.putfield 21, 3) := by decide +kernel
theorem dX1_clear_10 : decode cX1_clear 10 = .ok (.aload_n 0, 1) := by decide +kernel
theorem dX1_clear_11 : decode cX1_clear 11 = .ok (.iconst 0, 1) := by decide +kernel
theorem dX1_clear_12 : decode cX1_clear 12 = .ok (.putfield 39, 3) := by decide +kernel
theorem dX1_clear_15 : decode cX1_clear 15 = .ok (.return_, 1) := by decide +kernel
theorem dX1_countWhole_0 : decode cX1_countWhole 0 = .ok (.aload_n 0, 1) := by decide +kernel
theorem dX1_countWhole_1 : decode cX1_countWhole 1 = .ok (.aload_n 0, 1) := by decide +kernel
theorem dX1_countWhole_2 : decode cX1_countWhole 2 = .ok (.invokevirtual 42, 3) := by decide +kernel
theorem dX1_countWhole_5 : decode cX1_countWhole 5 = .ok (.iconst (-1), 1) := by decide +kernel
theorem dX1_countWhole_6 : decode cX1_countWhole 6 = .ok (.if_icmp .ne 15, 3) := by decide +kernel
theorem dX1_countWhole_9 : decode cX1_countWhole 9 = .ok (.aload_n 0, 1) := by decide +kernel
theorem dX1_countWhole_10 : decode cX1_countWhole 10 = .ok (.getfield 33, 3) := by decide +kernel
theorem dX1_countWhole_13 : decode cX1_countWhole 13 = .ok (.iconst 1, 1) := by decide +kernel
theorem dX1_countWhole_14 : decode cX1_countWhole 14 = .ok (.iadd, 1) := by decide +kernel
theorem dX1_countWhole_15 : decode cX1_countWhole 15 = .ok (.bipush 6, 2) := by decide +kernel
theorem dX1_countWhole_17 : decode cX1_countWhole 17 = .ok (.idiv, 1) := by decide +kernel
theorem dX1_countWhole_18 : decode cX1_countWhole 18 = .ok (.goto 4, 3) := by decide +kernel
theorem dX1_countWhole_21 : decode cX1_countWhole 21 = .ok (.iconst 0, 1) := by decide +kernel
theorem dX1_countWhole_22 : decode cX1_countWhole 22 = .ok (.putfield 39, 3) := by decide +kernel
theorem dX1_countWhole_25 : decode cX1_countWhole 25 = .ok (.return_, 1) := by decide +kernel
theorem dX1_faultPlace_0 : decode cX1_faultPlace 0 = .ok (.aload_n 0, 1) := by decide +kernel
theorem dX1_faultPlace_1 : decode cX1_faultPlace 1 = .ok (.getfield 21, 3) := by decide +kernel
theorem dX1_faultPlace_4 : decode cX1_faultPlace 4 = .ok (.iconst (-1), 1) := by decide +kernel
theorem dX1_faultPlace_5 : decode cX1_faultPlace 5 = .ok (.if_icmp .eq 8, 3) := by decide +kernel
theorem dX1_faultPlace_8 : decode cX1_faultPlace 8 = .ok (.aload_n 0, 1) := by decide +kernel
theorem dX1_faultPlace_9 : decode cX1_faultPlace 9 = .ok (.getfield 21, 3) := by decide +kernel
theorem dX1_faultPlace_12 : decode cX1_faultPlace 12 = .ok (.ireturn, 1) := by decide +kernel
theorem dX1_faultPlace_13 : decode cX1_faultPlace 13 = .ok (.aload_n 0, 1) := by decide +kernel
theorem dX1_faultPlace_14 : decode cX1_faultPlace 14 = .ok (.getfield 33, 3) := by decide +kernel
theorem dX1_faultPlace_17 : decode cX1_faultPlace 17 = .ok (.ifCond .eq 14, 3) := by decide +kernel
theorem dX1_faultPlace_20 : decode cX1_faultPlace 20 = .ok (.aload_n 0, 1) := by decide +kernel
theorem dX1_faultPlace_21 : decode cX1_faultPlace 21 = .ok (.getfield 33, 3) := by decide +kernel
theorem dX1_faultPlace_24 : decode cX1_faultPlace 24 = .ok (.bipush 6, 2) := by decide +kernel
theorem dX1_faultPlace_26 : decode cX1_faultPlace 26 = .ok (.irem, 1) := by decide +kernel
theorem dX1_faultPlace_27 : decode cX1_faultPlace 27 = .ok (.iconst 5, 1) := by decide +kernel
theorem dX1_faultPlace_28 : decode cX1_faultPlace 28 = .ok (.if_icmp .ne 7, 3) := by decide +kernel
theorem dX1_faultPlace_31 : decode cX1_faultPlace 31 = .ok (.iconst (-1), 1) := by decide +kernel
theorem dX1_faultPlace_32 : decode cX1_faultPlace 32 = .ok (.goto 7, 3) := by decide +kernel
theorem dX1_faultPlace_35 : decode cX1_faultPlace 35 = .ok (.aload_n 0, 1) := by decide +kernel
theorem dX1_faultPlace_36 : decode cX1_faultPlace 36 = .ok (.getfield 33, 3) := by decide +kernel
theorem dX1_faultPlace_39 : decode cX1_faultPlace 39 = .ok (.ireturn, 1) := by decide +kernel
theorem dX1_takes_0 : decode cX1_takes 0 = .ok (.aload_n 0, 1) := by decide +kernel
theorem dX1_takes_1 : decode cX1_takes 1 = .ok (.getfield 33, 3) := by decide +kernel
theorem dX1_takes_4 : decode cX1_takes 4 = .ok (.bipush 6, 2) := by decide +kernel
theorem dX1_takes_6 : decode cX1_takes 6 = .ok (.idiv, 1) := by decide +kernel
theorem dX1_takes_7 : decode cX1_takes 7 = .ok (.istore_n 2, 1) := by decide +kernel
theorem dX1_takes_8 : decode cX1_takes 8 = .ok (.aload_n 0, 1) := by decide +kernel
theorem dX1_takes_9 : decode cX1_takes 9 = .ok (.getfield 33, 3) := by decide +kernel
theorem dX1_takes_12 : decode cX1_takes 12 = .ok (.bipush 6, 2) := by decide +kernel
theorem dX1_takes_14 : decode cX1_takes 14 = .ok (.irem, 1) := by decide +kernel
theorem dX1_takes_15 : decode cX1_takes 15 = .ok (.istore_n 3, 1) := by decide +kernel
theorem dX1_takes_16 : decode cX1_takes 16 = .ok (.iload_n 2, 1) := by decide +kernel
theorem dX1_takes_17 : decode cX1_takes 17 = .ok (.bipush 8, 2) := by decide +kernel
theorem dX1_takes_19 : decode cX1_takes 19 = .ok (.if_icmp .lt 5, 3) := by decide +kernel
theorem dX1_takes_22 : decode cX1_takes 22 = .ok (.iconst 0, 1) := by decide +kernel
theorem dX1_takes_23 : decode cX1_takes 23 = .ok (.ireturn, 1) := by decide +kernel
theorem dX1_takes_24 : decode cX1_takes 24 = .ok (.iload_n 3, 1) := by decide +kernel
theorem dX1_takes_25 : decode cX1_takes 25 = .ok (.iconst 4, 1) := by decide +kernel
theorem dX1_takes_26 : decode cX1_takes 26 = .ok (.if_icmp .ge 13, 3) := by decide +kernel
theorem dX1_takes_29 : decode cX1_takes 29 = .ok (.aload_n 0, 1) := by decide +kernel
theorem dX1_takes_30 : decode cX1_takes 30 = .ok (.iload_n 2, 1) := by decide +kernel
theorem dX1_takes_31 : decode cX1_takes 31 = .ok (.iconst 1, 1) := by decide +kernel
theorem dX1_takes_32 : decode cX1_takes 32 = .ok (.iload_n 3, 1) := by decide +kernel
theorem dX1_takes_33 : decode cX1_takes 33 = .ok (.ishl, 1) := by decide +kernel
theorem dX1_takes_34 : decode cX1_takes 34 = .ok (.iload_n 1, 1) := by decide +kernel
theorem dX1_takes_35 : decode cX1_takes 35 = .ok (.invokevirtual 46, 3) := by decide +kernel
theorem dX1_takes_38 : decode cX1_takes 38 = .ok (.ireturn, 1) := by decide +kernel
theorem dX1_takes_39 : decode cX1_takes 39 = .ok (.iload_n 3, 1) := by decide +kernel
theorem dX1_takes_40 : decode cX1_takes 40 = .ok (.iconst 4, 1) := by decide +kernel
theorem dX1_takes_41 : decode cX1_takes 41 = .ok (.if_icmp .ne 12, 3) := by decide +kernel
theorem dX1_takes_44 : decode cX1_takes 44 = .ok (.aload_n 0, 1) := by decide +kernel
theorem dX1_takes_45 : decode cX1_takes 45 = .ok (.iload_n 2, 1) := by decide +kernel
theorem dX1_takes_46 : decode cX1_takes 46 = .ok (.iload_n 1, 1) := by decide +kernel
theorem dX1_takes_47 : decode cX1_takes 47 = .ok (.invokevirtual 50, 3) := by decide +kernel
theorem dX1_takes_50 : decode cX1_takes 50 = .ok (.goto 14, 3) := by decide +kernel
theorem dX1_takes_53 : decode cX1_takes 53 = .ok (.iload_n 1, 1) := by decide +kernel
theorem dX1_takes_54 : decode cX1_takes 54 = .ok (.bipush 59, 2) := by decide +kernel
theorem dX1_takes_56 : decode cX1_takes 56 = .ok (.if_icmp .ne 7, 3) := by decide +kernel
theorem dX1_takes_59 : decode cX1_takes 59 = .ok (.iconst 1, 1) := by decide +kernel
theorem dX1_takes_60 : decode cX1_takes 60 = .ok (.goto 4, 3) := by decide +kernel
theorem dX1_takes_63 : decode cX1_takes 63 = .ok (.iconst 0, 1) := by decide +kernel
theorem dX1_takes_64 : decode cX1_takes 64 = .ok (.ireturn, 1) := by decide +kernel
theorem dX1_takesLetter_0 : decode cX1_takesLetter 0 = .ok (.aload_n 0, 1) := by decide +kernel
theorem dX1_takesLetter_1 : decode cX1_takesLetter 1 = .ok (.getfield 9, 3) := by decide +kernel
theorem dX1_takesLetter_4 : decode cX1_takesLetter 4 = .ok (.iload_n 1, 1) := by decide +kernel
theorem dX1_takesLetter_5 : decode cX1_takesLetter 5 = .ok (.dup2, 1) := by decide +kernel
theorem dX1_takesLetter_6 : decode cX1_takesLetter 6 = .ok (.iaload, 1) := by decide +kernel
theorem dX1_takesLetter_7 : decode cX1_takesLetter 7 = .ok (.iload_n 2, 1) := by decide +kernel
theorem dX1_takesLetter_8 : decode cX1_takesLetter 8 = .ok (.iconst (-1), 1) := by decide +kernel
theorem dX1_takesLetter_9 : decode cX1_takesLetter 9 = .ok (.ixor, 1) := by decide +kernel
theorem dX1_takesLetter_10 : decode cX1_takesLetter 10 = .ok (.iand, 1) := by decide +kernel
theorem dX1_takesLetter_11 : decode cX1_takesLetter 11 = .ok (.iastore, 1) := by decide +kernel
theorem dX1_takesLetter_12 : decode cX1_takesLetter 12 = .ok (.aload_n 0, 1) := by decide +kernel
theorem dX1_takesLetter_13 : decode cX1_takesLetter 13 = .ok (.getfield 15, 3) := by decide +kernel
theorem dX1_takesLetter_16 : decode cX1_takesLetter 16 = .ok (.iload_n 1, 1) := by decide +kernel
theorem dX1_takesLetter_17 : decode cX1_takesLetter 17 = .ok (.dup2, 1) := by decide +kernel
theorem dX1_takesLetter_18 : decode cX1_takesLetter 18 = .ok (.iaload, 1) := by decide +kernel
theorem dX1_takesLetter_19 : decode cX1_takesLetter 19 = .ok (.iload_n 2, 1) := by decide +kernel
theorem dX1_takesLetter_20 : decode cX1_takesLetter 20 = .ok (.iconst (-1), 1) := by decide +kernel
theorem dX1_takesLetter_21 : decode cX1_takesLetter 21 = .ok (.ixor, 1) := by decide +kernel
theorem dX1_takesLetter_22 : decode cX1_takesLetter 22 = .ok (.iand, 1) := by decide +kernel
theorem dX1_takesLetter_23 : decode cX1_takesLetter 23 = .ok (.iastore, 1) := by decide +kernel
theorem dX1_takesLetter_24 : decode cX1_takesLetter 24 = .ok (.iload_n 3, 1) := by decide +kernel
theorem dX1_takesLetter_25 : decode cX1_takesLetter 25 = .ok (.bipush 63, 2) := by decide +kernel
theorem dX1_takesLetter_27 : decode cX1_takesLetter 27 = .ok (.if_icmp .ne 8, 3) := by decide +kernel
theorem dX1_takesLetter_30 : decode cX1_takesLetter 30 = .ok (.aload_n 0, 1) := by decide +kernel
theorem dX1_takesLetter_31 : decode cX1_takesLetter 31 = .ok (.getfield 25, 3) := by decide +kernel
theorem dX1_takesLetter_34 : decode cX1_takesLetter 34 = .ok (.ireturn, 1) := by decide +kernel
theorem dX1_takesLetter_35 : decode cX1_takesLetter 35 = .ok (.aload_n 0, 1) := by decide +kernel
theorem dX1_takesLetter_36 : decode cX1_takesLetter 36 = .ok (.getfield 9, 3) := by decide +kernel
theorem dX1_takesLetter_39 : decode cX1_takesLetter 39 = .ok (.iload_n 1, 1) := by decide +kernel
theorem dX1_takesLetter_40 : decode cX1_takesLetter 40 = .ok (.dup2, 1) := by decide +kernel
theorem dX1_takesLetter_41 : decode cX1_takesLetter 41 = .ok (.iaload, 1) := by decide +kernel
theorem dX1_takesLetter_42 : decode cX1_takesLetter 42 = .ok (.iload_n 2, 1) := by decide +kernel
theorem dX1_takesLetter_43 : decode cX1_takesLetter 43 = .ok (.ior, 1) := by decide +kernel
theorem dX1_takesLetter_44 : decode cX1_takesLetter 44 = .ok (.iastore, 1) := by decide +kernel
theorem dX1_takesLetter_45 : decode cX1_takesLetter 45 = .ok (.iload_n 3, 1) := by decide +kernel
theorem dX1_takesLetter_46 : decode cX1_takesLetter 46 = .ok (.bipush 104, 2) := by decide +kernel
theorem dX1_takesLetter_48 : decode cX1_takesLetter 48 = .ok (.if_icmp .ne 13, 3) := by decide +kernel
theorem dX1_takesLetter_51 : decode cX1_takesLetter 51 = .ok (.aload_n 0, 1) := by decide +kernel
theorem dX1_takesLetter_52 : decode cX1_takesLetter 52 = .ok (.getfield 15, 3) := by decide +kernel
theorem dX1_takesLetter_55 : decode cX1_takesLetter 55 = .ok (.iload_n 1, 1) := by decide +kernel
theorem dX1_takesLetter_56 : decode cX1_takesLetter 56 = .ok (.dup2, 1) := by decide +kernel
theorem dX1_takesLetter_57 : decode cX1_takesLetter 57 = .ok (.iaload, 1) := by decide +kernel
theorem dX1_takesLetter_58 : decode cX1_takesLetter 58 = .ok (.iload_n 2, 1) := by decide +kernel
theorem dX1_takesLetter_59 : decode cX1_takesLetter 59 = .ok (.ior, 1) := by decide +kernel
theorem dX1_takesLetter_60 : decode cX1_takesLetter 60 = .ok (.iastore, 1) := by decide +kernel
theorem dX1_takesLetter_61 : decode cX1_takesLetter 61 = .ok (.iload_n 3, 1) := by decide +kernel
theorem dX1_takesLetter_62 : decode cX1_takesLetter 62 = .ok (.bipush 104, 2) := by decide +kernel
theorem dX1_takesLetter_64 : decode cX1_takesLetter 64 = .ok (.if_icmp .eq 9, 3) := by decide +kernel
theorem dX1_takesLetter_67 : decode cX1_takesLetter 67 = .ok (.iload_n 3, 1) := by decide +kernel
theorem dX1_takesLetter_68 : decode cX1_takesLetter 68 = .ok (.bipush 108, 2) := by decide +kernel
theorem dX1_takesLetter_70 : decode cX1_takesLetter 70 = .ok (.if_icmp .ne 7, 3) := by decide +kernel
theorem dX1_takesLetter_73 : decode cX1_takesLetter 73 = .ok (.iconst 1, 1) := by decide +kernel
theorem dX1_takesLetter_74 : decode cX1_takesLetter 74 = .ok (.goto 4, 3) := by decide +kernel
theorem dX1_takesLetter_77 : decode cX1_takesLetter 77 = .ok (.iconst 0, 1) := by decide +kernel
theorem dX1_takesLetter_78 : decode cX1_takesLetter 78 = .ok (.ireturn, 1) := by decide +kernel
theorem dX1_takesFigure_0 : decode cX1_takesFigure 0 = .ok (.aload_n 0, 1) := by decide +kernel
theorem dX1_takesFigure_1 : decode cX1_takesFigure 1 = .ok (.getfield 18, 3) := by decide +kernel
theorem dX1_takesFigure_4 : decode cX1_takesFigure 4 = .ok (.iload_n 1, 1) := by decide +kernel
theorem dX1_takesFigure_5 : decode cX1_takesFigure 5 = .ok (.iload_n 2, 1) := by decide +kernel
theorem dX1_takesFigure_6 : decode cX1_takesFigure 6 = .ok (.bipush 48, 2) := by decide +kernel
theorem dX1_takesFigure_8 : decode cX1_takesFigure 8 = .ok (.isub, 1) := by decide +kernel
theorem dX1_takesFigure_9 : decode cX1_takesFigure 9 = .ok (.iastore, 1) := by decide +kernel
theorem dX1_takesFigure_10 : decode cX1_takesFigure 10 = .ok (.iload_n 2, 1) := by decide +kernel
theorem dX1_takesFigure_11 : decode cX1_takesFigure 11 = .ok (.bipush 48, 2) := by decide +kernel
theorem dX1_takesFigure_13 : decode cX1_takesFigure 13 = .ok (.if_icmp .lt 13, 3) := by decide +kernel
theorem dX1_takesFigure_16 : decode cX1_takesFigure 16 = .ok (.iload_n 2, 1) := by decide +kernel
theorem dX1_takesFigure_17 : decode cX1_takesFigure 17 = .ok (.bipush 57, 2) := by decide +kernel
theorem dX1_takesFigure_19 : decode cX1_takesFigure 19 = .ok (.if_icmp .gt 7, 3) := by decide +kernel
theorem dX1_takesFigure_22 : decode cX1_takesFigure 22 = .ok (.iconst 1, 1) := by decide +kernel
theorem dX1_takesFigure_23 : decode cX1_takesFigure 23 = .ok (.goto 4, 3) := by decide +kernel
theorem dX1_takesFigure_26 : decode cX1_takesFigure 26 = .ok (.iconst 0, 1) := by decide +kernel
theorem dX1_takesFigure_27 : decode cX1_takesFigure 27 = .ok (.ireturn, 1) := by decide +kernel
theorem dX2_init_0 : decode cX2_init 0 = .ok (.aload_n 0, 1) := by decide +kernel
theorem dX2_init_1 : decode cX2_init 1 = .ok (.invokespecial 3, 3) := by decide +kernel
theorem dX2_init_4 : decode cX2_init 4 = .ok (.aload_n 0, 1) := by decide +kernel
theorem dX2_init_5 : decode cX2_init 5 = .ok (.iconst 2, 1) := by decide +kernel
theorem dX2_init_6 : decode cX2_init 6 = .ok (.putfield 9, 3) := by decide +kernel
theorem dX2_init_9 : decode cX2_init 9 = .ok (.aload_n 0, 1) := by decide +kernel
theorem dX2_init_10 : decode cX2_init 10 = .ok (.iconst 3, 1) := by decide +kernel
theorem dX2_init_11 : decode cX2_init 11 = .ok (.putfield 15, 3) := by decide +kernel
theorem dX2_init_14 : decode cX2_init 14 = .ok (.aload_n 0, 1) := by decide +kernel
theorem dX2_init_15 : decode cX2_init 15 = .ok (.aload_n 1, 1) := by decide +kernel
theorem dX2_init_16 : decode cX2_init 16 = .ok (.putfield 18, 3) := by decide +kernel
theorem dX2_init_19 : decode cX2_init 19 = .ok (.aload_n 0, 1) := by decide +kernel
theorem dX2_init_20 : decode cX2_init 20 = .ok (.aload_n 2, 1) := by decide +kernel
theorem dX2_init_21 : decode cX2_init 21 = .ok (.putfield 22, 3) := by decide +kernel
theorem dX2_init_24 : decode cX2_init 24 = .ok (.return_, 1) := by decide +kernel
theorem dX2_isFitting_0 : decode cX2_isFitting 0 = .ok (.aload_n 0, 1) := by decide +kernel
theorem dX2_isFitting_1 : decode cX2_isFitting 1 = .ok (.getfield 22, 3) := by decide +kernel
theorem dX2_isFitting_4 : decode cX2_isFitting 4 = .ok (.getfield 25, 3) := by decide +kernel
theorem dX2_isFitting_7 : decode cX2_isFitting 7 = .ok (.iload_n 1, 1) := by decide +kernel
theorem dX2_isFitting_8 : decode cX2_isFitting 8 = .ok (.iaload, 1) := by decide +kernel
theorem dX2_isFitting_9 : decode cX2_isFitting 9 = .ok (.aload_n 0, 1) := by decide +kernel
theorem dX2_isFitting_10 : decode cX2_isFitting 10 = .ok (.getfield 18, 3) := by decide +kernel
theorem dX2_isFitting_13 : decode cX2_isFitting 13 = .ok (.getfield 25, 3) := by decide +kernel
theorem dX2_isFitting_16 : decode cX2_isFitting 16 = .ok (.iload_n 2, 1) := by decide +kernel
theorem dX2_isFitting_17 : decode cX2_isFitting 17 = .ok (.iaload, 1) := by decide +kernel
theorem dX2_isFitting_18 : decode cX2_isFitting 18 = .ok (.ixor, 1) := by decide +kernel
theorem dX2_isFitting_19 : decode cX2_isFitting 19 = .ok (.istore_n 3, 1) := by decide +kernel
theorem dX2_isFitting_20 : decode cX2_isFitting 20 = .ok (.iload_n 3, 1) := by decide +kernel
theorem dX2_isFitting_21 : decode cX2_isFitting 21 = .ok (.aload_n 0, 1) := by decide +kernel
theorem dX2_isFitting_22 : decode cX2_isFitting 22 = .ok (.getfield 22, 3) := by decide +kernel
theorem dX2_isFitting_25 : decode cX2_isFitting 25 = .ok (.getfield 31, 3) := by decide +kernel
theorem dX2_isFitting_28 : decode cX2_isFitting 28 = .ok (.iload_n 1, 1) := by decide +kernel
theorem dX2_isFitting_29 : decode cX2_isFitting 29 = .ok (.iaload, 1) := by decide +kernel
theorem dX2_isFitting_30 : decode cX2_isFitting 30 = .ok (.iand, 1) := by decide +kernel
theorem dX2_isFitting_31 : decode cX2_isFitting 31 = .ok (.ifCond .ne 7, 3) := by decide +kernel
theorem dX2_isFitting_34 : decode cX2_isFitting 34 = .ok (.iconst 1, 1) := by decide +kernel
theorem dX2_isFitting_35 : decode cX2_isFitting 35 = .ok (.goto 4, 3) := by decide +kernel
theorem dX2_isFitting_38 : decode cX2_isFitting 38 = .ok (.iconst 0, 1) := by decide +kernel
theorem dX2_isFitting_39 : decode cX2_isFitting 39 = .ok (.ireturn, 1) := by decide +kernel
theorem dX2_virtuesFittedBy_0 : decode cX2_virtuesFittedBy 0 = .ok (.iconst 0, 1) := by decide +kernel
theorem dX2_virtuesFittedBy_1 : decode cX2_virtuesFittedBy 1 = .ok (.istore_n 2, 1) := by decide +kernel
theorem dX2_virtuesFittedBy_2 : decode cX2_virtuesFittedBy 2 = .ok (.iconst 0, 1) := by decide +kernel
theorem dX2_virtuesFittedBy_3 : decode cX2_virtuesFittedBy 3 = .ok (.istore_n 3, 1) := by decide +kernel
theorem dX2_virtuesFittedBy_4 : decode cX2_virtuesFittedBy 4 = .ok (.iload_n 3, 1) := by decide +kernel
theorem dX2_virtuesFittedBy_5 : decode cX2_virtuesFittedBy 5 = .ok (.aload_n 0, 1) := by decide +kernel
theorem dX2_virtuesFittedBy_6 : decode cX2_virtuesFittedBy 6 = .ok (.getfield 18, 3) := by decide +kernel
theorem dX2_virtuesFittedBy_9 : decode cX2_virtuesFittedBy 9 = .ok (.getfield 34, 3) := by decide +kernel
theorem dX2_virtuesFittedBy_12 : decode cX2_virtuesFittedBy 12 = .ok (.if_icmp .ge 24, 3) := by decide +kernel
theorem dX2_virtuesFittedBy_15 : decode cX2_virtuesFittedBy 15 = .ok (.aload_n 0, 1) := by decide +kernel
theorem dX2_virtuesFittedBy_16 : decode cX2_virtuesFittedBy 16 = .ok (.iload_n 1, 1) := by decide +kernel
theorem dX2_virtuesFittedBy_17 : decode cX2_virtuesFittedBy 17 = .ok (.iload_n 3, 1) := by decide +kernel
theorem dX2_virtuesFittedBy_18 : decode cX2_virtuesFittedBy 18 = .ok (.invokevirtual 37, 3) := by decide +kernel
theorem dX2_virtuesFittedBy_21 : decode cX2_virtuesFittedBy 21 = .ok (.ifCond .eq 9, 3) := by decide +kernel
theorem dX2_virtuesFittedBy_24 : decode cX2_virtuesFittedBy 24 = .ok (.iload_n 2, 1) := by decide +kernel
theorem dX2_virtuesFittedBy_25 : decode cX2_virtuesFittedBy 25 = .ok (.iconst 1, 1) := by decide +kernel
theorem dX2_virtuesFittedBy_26 : decode cX2_virtuesFittedBy 26 = .ok (.iload_n 3, 1) := by decide +kernel
theorem dX2_virtuesFittedBy_27 : decode cX2_virtuesFittedBy 27 = .ok (.ishl, 1) := by decide +kernel
theorem dX2_virtuesFittedBy_28 : decode cX2_virtuesFittedBy 28 = .ok (.ior, 1) := by decide +kernel
theorem dX2_virtuesFittedBy_29 : decode cX2_virtuesFittedBy 29 = .ok (.istore_n 2, 1) := by decide +kernel
theorem dX2_virtuesFittedBy_30 : decode cX2_virtuesFittedBy 30 = .ok (.iinc 3 1, 3) := by decide +kernel
theorem dX2_virtuesFittedBy_33 : decode cX2_virtuesFittedBy 33 = .ok (.goto (-29), 3) := by decide +kernel
theorem dX2_virtuesFittedBy_36 : decode cX2_virtuesFittedBy 36 = .ok (.iload_n 2, 1) := by decide +kernel
theorem dX2_virtuesFittedBy_37 : decode cX2_virtuesFittedBy 37 = .ok (.ireturn, 1) := by decide +kernel
theorem dX2_claimantsFitting_0 : decode cX2_claimantsFitting 0 = .ok (.iconst 0, 1) := by decide +kernel
theorem dX2_claimantsFitting_1 : decode cX2_claimantsFitting 1 = .ok (.istore_n 2, 1) := by decide +kernel
theorem dX2_claimantsFitting_2 : decode cX2_claimantsFitting 2 = .ok (.iconst 0, 1) := by decide +kernel
theorem dX2_claimantsFitting_3 : decode cX2_claimantsFitting 3 = .ok (.istore_n 3, 1) := by decide +kernel
theorem dX2_claimantsFitting_4 : decode cX2_claimantsFitting 4 = .ok (.iload_n 3, 1) := by decide +kernel
theorem dX2_claimantsFitting_5 : decode cX2_claimantsFitting 5 = .ok (.aload_n 0, 1) := by decide +kernel
theorem dX2_claimantsFitting_6 : decode cX2_claimantsFitting 6 = .ok (.getfield 22, 3) := by decide +kernel
theorem dX2_claimantsFitting_9 : decode cX2_claimantsFitting 9 = .ok (.getfield 34, 3) := by decide +kernel
theorem dX2_claimantsFitting_12 : decode cX2_claimantsFitting 12 = .ok (.if_icmp .ge 24, 3) := by decide +kernel
theorem dX2_claimantsFitting_15 : decode cX2_claimantsFitting 15 = .ok (.aload_n 0, 1) := by decide +kernel
theorem dX2_claimantsFitting_16 : decode cX2_claimantsFitting 16 = .ok (.iload_n 3, 1) := by decide +kernel
theorem dX2_claimantsFitting_17 : decode cX2_claimantsFitting 17 = .ok (.iload_n 1, 1) := by decide +kernel
theorem dX2_claimantsFitting_18 : decode cX2_claimantsFitting 18 = .ok (.invokevirtual 37, 3) := by decide +kernel
theorem dX2_claimantsFitting_21 : decode cX2_claimantsFitting 21 = .ok (.ifCond .eq 9, 3) := by decide +kernel
theorem dX2_claimantsFitting_24 : decode cX2_claimantsFitting 24 = .ok (.iload_n 2, 1) := by decide +kernel
theorem dX2_claimantsFitting_25 : decode cX2_claimantsFitting 25 = .ok (.iconst 1, 1) := by decide +kernel
theorem dX2_claimantsFitting_26 : decode cX2_claimantsFitting 26 = .ok (.iload_n 3, 1) := by decide +kernel
theorem dX2_claimantsFitting_27 : decode cX2_claimantsFitting 27 = .ok (.ishl, 1) := by decide +kernel
theorem dX2_claimantsFitting_28 : decode cX2_claimantsFitting 28 = .ok (.ior, 1) := by decide +kernel
theorem dX2_claimantsFitting_29 : decode cX2_claimantsFitting 29 = .ok (.istore_n 2, 1) := by decide +kernel
theorem dX2_claimantsFitting_30 : decode cX2_claimantsFitting 30 = .ok (.iinc 3 1, 3) := by decide +kernel
theorem dX2_claimantsFitting_33 : decode cX2_claimantsFitting 33 = .ok (.goto (-29), 3) := by decide +kernel
theorem dX2_claimantsFitting_36 : decode cX2_claimantsFitting 36 = .ok (.iload_n 2, 1) := by decide +kernel
theorem dX2_claimantsFitting_37 : decode cX2_claimantsFitting 37 = .ok (.ireturn, 1) := by decide +kernel
theorem dX2_wantedBy_0 : decode cX2_wantedBy 0 = .ok (.aload_n 0, 1) := by decide +kernel
theorem dX2_wantedBy_1 : decode cX2_wantedBy 1 = .ok (.iload_n 1, 1) := by decide +kernel
theorem dX2_wantedBy_2 : decode cX2_wantedBy 2 = .ok (.invokevirtual 41, 3) := by decide +kernel
theorem dX2_wantedBy_5 : decode cX2_wantedBy 5 = .ok (.invokestatic 45, 3) := by decide +kernel
theorem dX2_wantedBy_8 : decode cX2_wantedBy 8 = .ok (.ireturn, 1) := by decide +kernel
theorem dX2_saysEnough_0 : decode cX2_saysEnough 0 = .ok (.aload_n 0, 1) := by decide +kernel
theorem dX2_saysEnough_1 : decode cX2_saysEnough 1 = .ok (.getfield 22, 3) := by decide +kernel
theorem dX2_saysEnough_4 : decode cX2_saysEnough 4 = .ok (.getfield 31, 3) := by decide +kernel
theorem dX2_saysEnough_7 : decode cX2_saysEnough 7 = .ok (.iload_n 1, 1) := by decide +kernel
theorem dX2_saysEnough_8 : decode cX2_saysEnough 8 = .ok (.iaload, 1) := by decide +kernel
theorem dX2_saysEnough_9 : decode cX2_saysEnough 9 = .ok (.invokestatic 45, 3) := by decide +kernel
theorem dX2_saysEnough_12 : decode cX2_saysEnough 12 = .ok (.aload_n 0, 1) := by decide +kernel
theorem dX2_saysEnough_13 : decode cX2_saysEnough 13 = .ok (.getfield 9, 3) := by decide +kernel
theorem dX2_saysEnough_16 : decode cX2_saysEnough 16 = .ok (.if_icmp .lt 7, 3) := by decide +kernel
theorem dX2_saysEnough_19 : decode cX2_saysEnough 19 = .ok (.iconst 1, 1) := by decide +kernel
theorem dX2_saysEnough_20 : decode cX2_saysEnough 20 = .ok (.goto 4, 3) := by decide +kernel
theorem dX2_saysEnough_23 : decode cX2_saysEnough 23 = .ok (.iconst 0, 1) := by decide +kernel
theorem dX2_saysEnough_24 : decode cX2_saysEnough 24 = .ok (.ireturn, 1) := by decide +kernel
theorem dX2_worthOfAll_0 : decode cX2_worthOfAll 0 = .ok (.iconst 0, 1) := by decide +kernel
theorem dX2_worthOfAll_1 : decode cX2_worthOfAll 1 = .ok (.istore_n 1, 1) := by decide +kernel
theorem dX2_worthOfAll_2 : decode cX2_worthOfAll 2 = .ok (.iconst 0, 1) := by decide +kernel
theorem dX2_worthOfAll_3 : decode cX2_worthOfAll 3 = .ok (.istore_n 2, 1) := by decide +kernel
theorem dX2_worthOfAll_4 : decode cX2_worthOfAll 4 = .ok (.iload_n 2, 1) := by decide +kernel
theorem dX2_worthOfAll_5 : decode cX2_worthOfAll 5 = .ok (.aload_n 0, 1) := by decide +kernel
theorem dX2_worthOfAll_6 : decode cX2_worthOfAll 6 = .ok (.getfield 18, 3) := by decide +kernel
theorem dX2_worthOfAll_9 : decode cX2_worthOfAll 9 = .ok (.getfield 34, 3) := by decide +kernel
theorem dX2_worthOfAll_12 : decode cX2_worthOfAll 12 = .ok (.if_icmp .ge 21, 3) := by decide +kernel
theorem dX2_worthOfAll_15 : decode cX2_worthOfAll 15 = .ok (.iload_n 1, 1) := by decide +kernel
theorem dX2_worthOfAll_16 : decode cX2_worthOfAll 16 = .ok (.aload_n 0, 1) := by decide +kernel
theorem dX2_worthOfAll_17 : decode cX2_worthOfAll 17 = .ok (.getfield 18, 3) := by decide +kernel
theorem dX2_worthOfAll_20 : decode cX2_worthOfAll 20 = .ok (.getfield 50, 3) := by decide +kernel
theorem dX2_worthOfAll_23 : decode cX2_worthOfAll 23 = .ok (.iload_n 2, 1) := by decide +kernel
theorem dX2_worthOfAll_24 : decode cX2_worthOfAll 24 = .ok (.iaload, 1) := by decide +kernel
theorem dX2_worthOfAll_25 : decode cX2_worthOfAll 25 = .ok (.iadd, 1) := by decide +kernel
theorem dX2_worthOfAll_26 : decode cX2_worthOfAll 26 = .ok (.istore_n 1, 1) := by decide +kernel
theorem dX2_worthOfAll_27 : decode cX2_worthOfAll 27 = .ok (.iinc 2 1, 3) := by decide +kernel
theorem dX2_worthOfAll_30 : decode cX2_worthOfAll 30 = .ok (.goto (-26), 3) := by decide +kernel
theorem dX2_worthOfAll_33 : decode cX2_worthOfAll 33 = .ok (.iload_n 1, 1) := by decide +kernel
theorem dX2_worthOfAll_34 : decode cX2_worthOfAll 34 = .ok (.ireturn, 1) := by decide +kernel
theorem dX2_leastWorthOf_0 : decode cX2_leastWorthOf 0 = .ok (.iconst (-1), 1) := by decide +kernel
theorem dX2_leastWorthOf_1 : decode cX2_leastWorthOf 1 = .ok (.istore_n 2, 1) := by decide +kernel
theorem dX2_leastWorthOf_2 : decode cX2_leastWorthOf 2 = .ok (.iconst 0, 1) := by decide +kernel
theorem dX2_leastWorthOf_3 : decode cX2_leastWorthOf 3 = .ok (.istore_n 3, 1) := by decide +kernel
theorem dX2_leastWorthOf_4 : decode cX2_leastWorthOf 4 = .ok (.iload_n 3, 1) := by decide +kernel
theorem dX2_leastWorthOf_5 : decode cX2_leastWorthOf 5 = .ok (.aload_n 0, 1) := by decide +kernel
theorem dX2_leastWorthOf_6 : decode cX2_leastWorthOf 6 = .ok (.getfield 18, 3) := by decide +kernel
theorem dX2_leastWorthOf_9 : decode cX2_leastWorthOf 9 = .ok (.getfield 34, 3) := by decide +kernel
theorem dX2_leastWorthOf_12 : decode cX2_leastWorthOf 12 = .ok (.if_icmp .ge 58, 3) := by decide +kernel
theorem dX2_leastWorthOf_15 : decode cX2_leastWorthOf 15 = .ok (.iload_n 1, 1) := by decide +kernel
theorem dX2_leastWorthOf_16 : decode cX2_leastWorthOf 16 = .ok (.iload_n 3, 1) := by decide +kernel
theorem dX2_leastWorthOf_17 : decode cX2_leastWorthOf 17 = .ok (.ishr, 1) := by decide +kernel
theorem dX2_leastWorthOf_18 : decode cX2_leastWorthOf 18 = .ok (.iconst 1, 1) := by decide +kernel
theorem dX2_leastWorthOf_19 : decode cX2_leastWorthOf 19 = .ok (.iand, 1) := by decide +kernel
theorem dX2_leastWorthOf_20 : decode cX2_leastWorthOf 20 = .ok (.iconst 1, 1) := by decide +kernel
theorem dX2_leastWorthOf_21 : decode cX2_leastWorthOf 21 = .ok (.if_icmp .ne 7, 3) := by decide +kernel
theorem dX2_leastWorthOf_24 : decode cX2_leastWorthOf 24 = .ok (.iconst 1, 1) := by decide +kernel
theorem dX2_leastWorthOf_25 : decode cX2_leastWorthOf 25 = .ok (.goto 4, 3) := by decide +kernel
theorem dX2_leastWorthOf_28 : decode cX2_leastWorthOf 28 = .ok (.iconst 0, 1) := by decide +kernel
theorem dX2_leastWorthOf_29 : decode cX2_leastWorthOf 29 = .ok (.istore 4, 2) := by decide +kernel
theorem dX2_leastWorthOf_31 : decode cX2_leastWorthOf 31 = .ok (.iload 4, 2) := by decide +kernel
theorem dX2_leastWorthOf_33 : decode cX2_leastWorthOf 33 = .ok (.ifCond .eq 31, 3) := by decide +kernel
theorem dX2_leastWorthOf_36 : decode cX2_leastWorthOf 36 = .ok (.iload_n 2, 1) := by decide +kernel
theorem dX2_leastWorthOf_37 : decode cX2_leastWorthOf 37 = .ok (.iconst (-1), 1) := by decide +kernel
theorem dX2_leastWorthOf_38 : decode cX2_leastWorthOf 38 = .ok (.if_icmp .eq 24, 3) := by decide +kernel
theorem dX2_leastWorthOf_41 : decode cX2_leastWorthOf 41 = .ok (.aload_n 0, 1) := by decide +kernel
theorem dX2_leastWorthOf_42 : decode cX2_leastWorthOf 42 = .ok (.getfield 18, 3) := by decide +kernel
theorem dX2_leastWorthOf_45 : decode cX2_leastWorthOf 45 = .ok (.getfield 50, 3) := by decide +kernel
theorem dX2_leastWorthOf_48 : decode cX2_leastWorthOf 48 = .ok (.iload_n 3, 1) := by decide +kernel
theorem dX2_leastWorthOf_49 : decode cX2_leastWorthOf 49 = .ok (.iaload, 1) := by decide +kernel
theorem dX2_leastWorthOf_50 : decode cX2_leastWorthOf 50 = .ok (.aload_n 0, 1) := by decide +kernel
theorem dX2_leastWorthOf_51 : decode cX2_leastWorthOf 51 = .ok (.getfield 18, 3) := by decide +kernel
theorem dX2_leastWorthOf_54 : decode cX2_leastWorthOf 54 = .ok (.getfield 50, 3) := by decide +kernel
theorem dX2_leastWorthOf_57 : decode cX2_leastWorthOf 57 = .ok (.iload_n 2, 1) := by decide +kernel
theorem dX2_leastWorthOf_58 : decode cX2_leastWorthOf 58 = .ok (.iaload, 1) := by decide +kernel
theorem dX2_leastWorthOf_59 : decode cX2_leastWorthOf 59 = .ok (.if_icmp .ge 5, 3) := by decide +kernel
theorem dX2_leastWorthOf_62 : decode cX2_leastWorthOf 62 = .ok (.iload_n 3, 1) := by decide +kernel
theorem dX2_leastWorthOf_63 : decode cX2_leastWorthOf 63 = .ok (.istore_n 2, 1) := by decide +kernel
theorem dX2_leastWorthOf_64 : decode cX2_leastWorthOf 64 = .ok (.iinc 3 1, 3) := by decide +kernel
theorem dX2_leastWorthOf_67 : decode cX2_leastWorthOf 67 = .ok (.goto (-63), 3) := by decide +kernel
theorem dX2_leastWorthOf_70 : decode cX2_leastWorthOf 70 = .ok (.iload_n 2, 1) := by decide +kernel
theorem dX2_leastWorthOf_71 : decode cX2_leastWorthOf 71 = .ok (.ireturn, 1) := by decide +kernel
theorem dX2_highOf_0 : decode cX2_highOf 0 = .ok (.iconst 0, 1) := by decide +kernel
theorem dX2_highOf_1 : decode cX2_highOf 1 = .ok (.istore_n 3, 1) := by decide +kernel
theorem dX2_highOf_2 : decode cX2_highOf 2 = .ok (.iconst 0, 1) := by decide +kernel
theorem dX2_highOf_3 : decode cX2_highOf 3 = .ok (.istore 4, 2) := by decide +kernel
theorem dX2_highOf_5 : decode cX2_highOf 5 = .ok (.iload 4, 2) := by decide +kernel
theorem dX2_highOf_7 : decode cX2_highOf 7 = .ok (.aload_n 0, 1) := by decide +kernel
theorem dX2_highOf_8 : decode cX2_highOf 8 = .ok (.getfield 18, 3) := by decide +kernel
theorem dX2_highOf_11 : decode cX2_highOf 11 = .ok (.getfield 34, 3) := by decide +kernel
theorem dX2_highOf_14 : decode cX2_highOf 14 = .ok (.if_icmp .ge 31, 3) := by decide +kernel
theorem dX2_highOf_17 : decode cX2_highOf 17 = .ok (.iload_n 3, 1) := by decide +kernel
theorem dX2_highOf_18 : decode cX2_highOf 18 = .ok (.iload_n 1, 1) := by decide +kernel
theorem dX2_highOf_19 : decode cX2_highOf 19 = .ok (.iload 4, 2) := by decide +kernel
theorem dX2_highOf_21 : decode cX2_highOf 21 = .ok (.ishr, 1) := by decide +kernel
theorem dX2_highOf_22 : decode cX2_highOf 22 = .ok (.aload_n 0, 1) := by decide +kernel
theorem dX2_highOf_23 : decode cX2_highOf 23 = .ok (.getfield 18, 3) := by decide +kernel
theorem dX2_highOf_26 : decode cX2_highOf 26 = .ok (.getfield 25, 3) := by decide +kernel
theorem dX2_highOf_29 : decode cX2_highOf 29 = .ok (.iload 4, 2) := by decide +kernel
theorem dX2_highOf_31 : decode cX2_highOf 31 = .ok (.iaload, 1) := by decide +kernel
theorem dX2_highOf_32 : decode cX2_highOf 32 = .ok (.iload_n 2, 1) := by decide +kernel
theorem dX2_highOf_33 : decode cX2_highOf 33 = .ok (.ishr, 1) := by decide +kernel
theorem dX2_highOf_34 : decode cX2_highOf 34 = .ok (.iand, 1) := by decide +kernel
theorem dX2_highOf_35 : decode cX2_highOf 35 = .ok (.iconst 1, 1) := by decide +kernel
theorem dX2_highOf_36 : decode cX2_highOf 36 = .ok (.iand, 1) := by decide +kernel
theorem dX2_highOf_37 : decode cX2_highOf 37 = .ok (.iadd, 1) := by decide +kernel
theorem dX2_highOf_38 : decode cX2_highOf 38 = .ok (.istore_n 3, 1) := by decide +kernel
theorem dX2_highOf_39 : decode cX2_highOf 39 = .ok (.iinc 4 1, 3) := by decide +kernel
theorem dX2_highOf_42 : decode cX2_highOf 42 = .ok (.goto (-37), 3) := by decide +kernel
theorem dX2_highOf_45 : decode cX2_highOf 45 = .ok (.iload_n 3, 1) := by decide +kernel
theorem dX2_highOf_46 : decode cX2_highOf 46 = .ok (.ireturn, 1) := by decide +kernel
theorem dX2_alikeIn_0 : decode cX2_alikeIn 0 = .ok (.iconst 0, 1) := by decide +kernel
theorem dX2_alikeIn_1 : decode cX2_alikeIn 1 = .ok (.istore_n 3, 1) := by decide +kernel
theorem dX2_alikeIn_2 : decode cX2_alikeIn 2 = .ok (.iconst 0, 1) := by decide +kernel
theorem dX2_alikeIn_3 : decode cX2_alikeIn 3 = .ok (.istore 4, 2) := by decide +kernel
theorem dX2_alikeIn_5 : decode cX2_alikeIn 5 = .ok (.iload 4, 2) := by decide +kernel
theorem dX2_alikeIn_7 : decode cX2_alikeIn 7 = .ok (.aload_n 0, 1) := by decide +kernel
theorem dX2_alikeIn_8 : decode cX2_alikeIn 8 = .ok (.getfield 18, 3) := by decide +kernel
theorem dX2_alikeIn_11 : decode cX2_alikeIn 11 = .ok (.getfield 34, 3) := by decide +kernel
theorem dX2_alikeIn_14 : decode cX2_alikeIn 14 = .ok (.if_icmp .ge 41, 3) := by decide +kernel
theorem dX2_alikeIn_17 : decode cX2_alikeIn 17 = .ok (.aload_n 0, 1) := by decide +kernel
theorem dX2_alikeIn_18 : decode cX2_alikeIn 18 = .ok (.getfield 18, 3) := by decide +kernel
theorem dX2_alikeIn_21 : decode cX2_alikeIn 21 = .ok (.getfield 25, 3) := by decide +kernel
theorem dX2_alikeIn_24 : decode cX2_alikeIn 24 = .ok (.iload 4, 2) := by decide +kernel
theorem dX2_alikeIn_26 : decode cX2_alikeIn 26 = .ok (.iaload, 1) := by decide +kernel
theorem dX2_alikeIn_27 : decode cX2_alikeIn 27 = .ok (.aload_n 0, 1) := by decide +kernel
theorem dX2_alikeIn_28 : decode cX2_alikeIn 28 = .ok (.getfield 18, 3) := by decide +kernel
theorem dX2_alikeIn_31 : decode cX2_alikeIn 31 = .ok (.getfield 25, 3) := by decide +kernel
theorem dX2_alikeIn_34 : decode cX2_alikeIn 34 = .ok (.iload_n 1, 1) := by decide +kernel
theorem dX2_alikeIn_35 : decode cX2_alikeIn 35 = .ok (.iaload, 1) := by decide +kernel
theorem dX2_alikeIn_36 : decode cX2_alikeIn 36 = .ok (.ixor, 1) := by decide +kernel
theorem dX2_alikeIn_37 : decode cX2_alikeIn 37 = .ok (.iload_n 2, 1) := by decide +kernel
theorem dX2_alikeIn_38 : decode cX2_alikeIn 38 = .ok (.iand, 1) := by decide +kernel
theorem dX2_alikeIn_39 : decode cX2_alikeIn 39 = .ok (.ifCond .ne 10, 3) := by decide +kernel
theorem dX2_alikeIn_42 : decode cX2_alikeIn 42 = .ok (.iload_n 3, 1) := by decide +kernel
theorem dX2_alikeIn_43 : decode cX2_alikeIn 43 = .ok (.iconst 1, 1) := by decide +kernel
theorem dX2_alikeIn_44 : decode cX2_alikeIn 44 = .ok (.iload 4, 2) := by decide +kernel
theorem dX2_alikeIn_46 : decode cX2_alikeIn 46 = .ok (.ishl, 1) := by decide +kernel
theorem dX2_alikeIn_47 : decode cX2_alikeIn 47 = .ok (.ior, 1) := by decide +kernel
theorem dX2_alikeIn_48 : decode cX2_alikeIn 48 = .ok (.istore_n 3, 1) := by decide +kernel
theorem dX2_alikeIn_49 : decode cX2_alikeIn 49 = .ok (.iinc 4 1, 3) := by decide +kernel
theorem dX2_alikeIn_52 : decode cX2_alikeIn 52 = .ok (.goto (-47), 3) := by decide +kernel
theorem dX2_alikeIn_55 : decode cX2_alikeIn 55 = .ok (.iload_n 3, 1) := by decide +kernel
theorem dX2_alikeIn_56 : decode cX2_alikeIn 56 = .ok (.ireturn, 1) := by decide +kernel
theorem dX2_alikeInOpen_0 : decode cX2_alikeInOpen 0 = .ok (.aload_n 0, 1) := by decide +kernel
theorem dX2_alikeInOpen_1 : decode cX2_alikeInOpen 1 = .ok (.iload_n 1, 1) := by decide +kernel
theorem dX2_alikeInOpen_2 : decode cX2_alikeInOpen 2 = .ok (.bipush 15, 2) := by decide +kernel
theorem dX2_alikeInOpen_4 : decode cX2_alikeInOpen 4 = .ok (.iload_n 2, 1) := by decide +kernel
theorem dX2_alikeInOpen_5 : decode cX2_alikeInOpen 5 = .ok (.iconst (-1), 1) := by decide +kernel
theorem dX2_alikeInOpen_6 : decode cX2_alikeInOpen 6 = .ok (.ixor, 1) := by decide +kernel
theorem dX2_alikeInOpen_7 : decode cX2_alikeInOpen 7 = .ok (.iand, 1) := by decide +kernel
theorem dX2_alikeInOpen_8 : decode cX2_alikeInOpen 8 = .ok (.invokevirtual 53, 3) := by decide +kernel
theorem dX2_alikeInOpen_11 : decode cX2_alikeInOpen 11 = .ok (.ireturn, 1) := by decide +kernel
theorem dX2_onlyOneSuch_0 : decode cX2_onlyOneSuch 0 = .ok (.aload_n 0, 1) := by decide +kernel
theorem dX2_onlyOneSuch_1 : decode cX2_onlyOneSuch 1 = .ok (.iload_n 1, 1) := by decide +kernel
theorem dX2_onlyOneSuch_2 : decode cX2_onlyOneSuch 2 = .ok (.iload_n 2, 1) := by decide +kernel
theorem dX2_onlyOneSuch_3 : decode cX2_onlyOneSuch 3 = .ok (.invokevirtual 53, 3) := by decide +kernel
theorem dX2_onlyOneSuch_6 : decode cX2_onlyOneSuch 6 = .ok (.iconst 1, 1) := by decide +kernel
theorem dX2_onlyOneSuch_7 : decode cX2_onlyOneSuch 7 = .ok (.iload_n 1, 1) := by decide +kernel
theorem dX2_onlyOneSuch_8 : decode cX2_onlyOneSuch 8 = .ok (.ishl, 1) := by decide +kernel
theorem dX2_onlyOneSuch_9 : decode cX2_onlyOneSuch 9 = .ok (.if_icmp .ne 7, 3) := by decide +kernel
theorem dX2_onlyOneSuch_12 : decode cX2_onlyOneSuch 12 = .ok (.iconst 1, 1) := by decide +kernel
theorem dX2_onlyOneSuch_13 : decode cX2_onlyOneSuch 13 = .ok (.goto 4, 3) := by decide +kernel
theorem dX2_onlyOneSuch_16 : decode cX2_onlyOneSuch 16 = .ok (.iconst 0, 1) := by decide +kernel
theorem dX2_onlyOneSuch_17 : decode cX2_onlyOneSuch 17 = .ok (.ireturn, 1) := by decide +kernel
theorem dX2_mostOfOneKind_0 : decode cX2_mostOfOneKind 0 = .ok (.iconst 0, 1) := by decide +kernel
theorem dX2_mostOfOneKind_1 : decode cX2_mostOfOneKind 1 = .ok (.istore_n 2, 1) := by decide +kernel
theorem dX2_mostOfOneKind_2 : decode cX2_mostOfOneKind 2 = .ok (.iconst 0, 1) := by decide +kernel
theorem dX2_mostOfOneKind_3 : decode cX2_mostOfOneKind 3 = .ok (.istore_n 3, 1) := by decide +kernel
theorem dX2_mostOfOneKind_4 : decode cX2_mostOfOneKind 4 = .ok (.iload_n 3, 1) := by decide +kernel
theorem dX2_mostOfOneKind_5 : decode cX2_mostOfOneKind 5 = .ok (.aload_n 0, 1) := by decide +kernel
theorem dX2_mostOfOneKind_6 : decode cX2_mostOfOneKind 6 = .ok (.getfield 18, 3) := by decide +kernel
theorem dX2_mostOfOneKind_9 : decode cX2_mostOfOneKind 9 = .ok (.getfield 34, 3) := by decide +kernel
theorem dX2_mostOfOneKind_12 : decode cX2_mostOfOneKind 12 = .ok (.if_icmp .ge 39, 3) := by decide +kernel
theorem dX2_mostOfOneKind_15 : decode cX2_mostOfOneKind 15 = .ok (.iload_n 1, 1) := by decide +kernel
theorem dX2_mostOfOneKind_16 : decode cX2_mostOfOneKind 16 = .ok (.iload_n 3, 1) := by decide +kernel
theorem dX2_mostOfOneKind_17 : decode cX2_mostOfOneKind 17 = .ok (.ishr, 1) := by decide +kernel
theorem dX2_mostOfOneKind_18 : decode cX2_mostOfOneKind 18 = .ok (.iconst 1, 1) := by decide +kernel
theorem dX2_mostOfOneKind_19 : decode cX2_mostOfOneKind 19 = .ok (.iand, 1) := by decide +kernel
theorem dX2_mostOfOneKind_20 : decode cX2_mostOfOneKind 20 = .ok (.iconst 1, 1) := by decide +kernel
theorem dX2_mostOfOneKind_21 : decode cX2_mostOfOneKind 21 = .ok (.if_icmp .ne 24, 3) := by decide +kernel
theorem dX2_mostOfOneKind_24 : decode cX2_mostOfOneKind 24 = .ok (.aload_n 0, 1) := by decide +kernel
theorem dX2_mostOfOneKind_25 : decode cX2_mostOfOneKind 25 = .ok (.iload_n 3, 1) := by decide +kernel
theorem dX2_mostOfOneKind_26 : decode cX2_mostOfOneKind 26 = .ok (.bipush 15, 2) := by decide +kernel
theorem dX2_mostOfOneKind_28 : decode cX2_mostOfOneKind 28 = .ok (.invokevirtual 53, 3) := by decide +kernel
theorem dX2_mostOfOneKind_31 : decode cX2_mostOfOneKind 31 = .ok (.iload_n 1, 1) := by decide +kernel
theorem dX2_mostOfOneKind_32 : decode cX2_mostOfOneKind 32 = .ok (.iand, 1) := by decide +kernel
theorem dX2_mostOfOneKind_33 : decode cX2_mostOfOneKind 33 = .ok (.istore 4, 2) := by decide +kernel
theorem dX2_mostOfOneKind_35 : decode cX2_mostOfOneKind 35 = .ok (.iload_n 2, 1) := by decide +kernel
theorem dX2_mostOfOneKind_36 : decode cX2_mostOfOneKind 36 = .ok (.iload 4, 2) := by decide +kernel
theorem dX2_mostOfOneKind_38 : decode cX2_mostOfOneKind 38 = .ok (.invokestatic 45, 3) := by decide +kernel
theorem dX2_mostOfOneKind_41 : decode cX2_mostOfOneKind 41 = .ok (.invokestatic 57, 3) := by decide +kernel
theorem dX2_mostOfOneKind_44 : decode cX2_mostOfOneKind 44 = .ok (.istore_n 2, 1) := by decide +kernel
theorem dX2_mostOfOneKind_45 : decode cX2_mostOfOneKind 45 = .ok (.iinc 3 1, 3) := by decide +kernel
theorem dX2_mostOfOneKind_48 : decode cX2_mostOfOneKind 48 = .ok (.goto (-44), 3) := by decide +kernel
theorem dX2_mostOfOneKind_51 : decode cX2_mostOfOneKind 51 = .ok (.iload_n 2, 1) := by decide +kernel
theorem dX2_mostOfOneKind_52 : decode cX2_mostOfOneKind 52 = .ok (.ireturn, 1) := by decide +kernel
theorem dJ6_numberOfTrailingZeros_0f7a4_0 : decode cJ6_numberOfTrailingZeros_0f7a4 0 = .ok (.iload_n 0, 1) := by decide +kernel
theorem dJ6_numberOfTrailingZeros_0f7a4_1 : decode cJ6_numberOfTrailingZeros_0f7a4 1 = .ok (.iconst (-1), 1) := by decide +kernel
theorem dJ6_numberOfTrailingZeros_0f7a4_2 : decode cJ6_numberOfTrailingZeros_0f7a4 2 = .ok (.ixor, 1) := by decide +kernel
theorem dJ6_numberOfTrailingZeros_0f7a4_3 : decode cJ6_numberOfTrailingZeros_0f7a4 3 = .ok (.iload_n 0, 1) := by decide +kernel
theorem dJ6_numberOfTrailingZeros_0f7a4_4 : decode cJ6_numberOfTrailingZeros_0f7a4 4 = .ok (.iconst 1, 1) := by decide +kernel
theorem dJ6_numberOfTrailingZeros_0f7a4_5 : decode cJ6_numberOfTrailingZeros_0f7a4 5 = .ok (.isub, 1) := by decide +kernel
theorem dJ6_numberOfTrailingZeros_0f7a4_6 : decode cJ6_numberOfTrailingZeros_0f7a4 6 = .ok (.iand, 1) := by decide +kernel
theorem dJ6_numberOfTrailingZeros_0f7a4_7 : decode cJ6_numberOfTrailingZeros_0f7a4 7 = .ok (.istore_n 0, 1) := by decide +kernel
theorem dJ6_numberOfTrailingZeros_0f7a4_8 : decode cJ6_numberOfTrailingZeros_0f7a4 8 = .ok (.iload_n 0, 1) := by decide +kernel
theorem dJ6_numberOfTrailingZeros_0f7a4_9 : decode cJ6_numberOfTrailingZeros_0f7a4 9 = .ok (.ifCond .gt 8, 3) := by decide +kernel
theorem dJ6_numberOfTrailingZeros_0f7a4_12 : decode cJ6_numberOfTrailingZeros_0f7a4 12 = .ok (.iload_n 0, 1) := by decide +kernel
theorem dJ6_numberOfTrailingZeros_0f7a4_13 : decode cJ6_numberOfTrailingZeros_0f7a4 13 = .ok (.bipush 32, 2) := by decide +kernel
theorem dJ6_numberOfTrailingZeros_0f7a4_15 : decode cJ6_numberOfTrailingZeros_0f7a4 15 = .ok (.iand, 1) := by decide +kernel
theorem dJ6_numberOfTrailingZeros_0f7a4_16 : decode cJ6_numberOfTrailingZeros_0f7a4 16 = .ok (.ireturn, 1) := by decide +kernel
theorem dJ6_numberOfTrailingZeros_0f7a4_17 : decode cJ6_numberOfTrailingZeros_0f7a4 17 = .ok (.iconst 1, 1) := by decide +kernel
theorem dJ6_numberOfTrailingZeros_0f7a4_18 : decode cJ6_numberOfTrailingZeros_0f7a4 18 = .ok (.istore_n 1, 1) := by decide +kernel
theorem dJ6_numberOfTrailingZeros_0f7a4_19 : decode cJ6_numberOfTrailingZeros_0f7a4 19 = .ok (.iload_n 0, 1) := by decide +kernel
theorem dJ6_numberOfTrailingZeros_0f7a4_20 : decode cJ6_numberOfTrailingZeros_0f7a4 20 = .ok (.ldc_w 264, 3) := by decide +kernel
theorem dJ6_numberOfTrailingZeros_0f7a4_23 : decode cJ6_numberOfTrailingZeros_0f7a4 23 = .ok (.if_icmp .le 11, 3) := by decide +kernel
theorem dJ6_numberOfTrailingZeros_0f7a4_26 : decode cJ6_numberOfTrailingZeros_0f7a4 26 = .ok (.iinc 1 16, 3) := by decide +kernel
theorem dJ6_numberOfTrailingZeros_0f7a4_29 : decode cJ6_numberOfTrailingZeros_0f7a4 29 = .ok (.iload_n 0, 1) := by decide +kernel
theorem dJ6_numberOfTrailingZeros_0f7a4_30 : decode cJ6_numberOfTrailingZeros_0f7a4 30 = .ok (.bipush 16, 2) := by decide +kernel
theorem dJ6_numberOfTrailingZeros_0f7a4_32 : decode cJ6_numberOfTrailingZeros_0f7a4 32 = .ok (.iushr, 1) := by decide +kernel
theorem dJ6_numberOfTrailingZeros_0f7a4_33 : decode cJ6_numberOfTrailingZeros_0f7a4 33 = .ok (.istore_n 0, 1) := by decide +kernel
theorem dJ6_numberOfTrailingZeros_0f7a4_34 : decode cJ6_numberOfTrailingZeros_0f7a4 34 = .ok (.iload_n 0, 1) := by decide +kernel
theorem dJ6_numberOfTrailingZeros_0f7a4_35 : decode cJ6_numberOfTrailingZeros_0f7a4 35 = .ok (.sipush 256, 3) := by decide +kernel
theorem dJ6_numberOfTrailingZeros_0f7a4_38 : decode cJ6_numberOfTrailingZeros_0f7a4 38 = .ok (.if_icmp .le 11, 3) := by decide +kernel
theorem dJ6_numberOfTrailingZeros_0f7a4_41 : decode cJ6_numberOfTrailingZeros_0f7a4 41 = .ok (.iinc 1 8, 3) := by decide +kernel
theorem dJ6_numberOfTrailingZeros_0f7a4_44 : decode cJ6_numberOfTrailingZeros_0f7a4 44 = .ok (.iload_n 0, 1) := by decide +kernel
theorem dJ6_numberOfTrailingZeros_0f7a4_45 : decode cJ6_numberOfTrailingZeros_0f7a4 45 = .ok (.bipush 8, 2) := by decide +kernel
theorem dJ6_numberOfTrailingZeros_0f7a4_47 : decode cJ6_numberOfTrailingZeros_0f7a4 47 = .ok (.iushr, 1) := by decide +kernel
theorem dJ6_numberOfTrailingZeros_0f7a4_48 : decode cJ6_numberOfTrailingZeros_0f7a4 48 = .ok (.istore_n 0, 1) := by decide +kernel
theorem dJ6_numberOfTrailingZeros_0f7a4_49 : decode cJ6_numberOfTrailingZeros_0f7a4 49 = .ok (.iload_n 0, 1) := by decide +kernel
theorem dJ6_numberOfTrailingZeros_0f7a4_50 : decode cJ6_numberOfTrailingZeros_0f7a4 50 = .ok (.bipush 16, 2) := by decide +kernel
theorem dJ6_numberOfTrailingZeros_0f7a4_52 : decode cJ6_numberOfTrailingZeros_0f7a4 52 = .ok (.if_icmp .le 10, 3) := by decide +kernel
theorem dJ6_numberOfTrailingZeros_0f7a4_55 : decode cJ6_numberOfTrailingZeros_0f7a4 55 = .ok (.iinc 1 4, 3) := by decide +kernel
theorem dJ6_numberOfTrailingZeros_0f7a4_58 : decode cJ6_numberOfTrailingZeros_0f7a4 58 = .ok (.iload_n 0, 1) := by decide +kernel
theorem dJ6_numberOfTrailingZeros_0f7a4_59 : decode cJ6_numberOfTrailingZeros_0f7a4 59 = .ok (.iconst 4, 1) := by decide +kernel
theorem dJ6_numberOfTrailingZeros_0f7a4_60 : decode cJ6_numberOfTrailingZeros_0f7a4 60 = .ok (.iushr, 1) := by decide +kernel
theorem dJ6_numberOfTrailingZeros_0f7a4_61 : decode cJ6_numberOfTrailingZeros_0f7a4 61 = .ok (.istore_n 0, 1) := by decide +kernel
theorem dJ6_numberOfTrailingZeros_0f7a4_62 : decode cJ6_numberOfTrailingZeros_0f7a4 62 = .ok (.iload_n 0, 1) := by decide +kernel
theorem dJ6_numberOfTrailingZeros_0f7a4_63 : decode cJ6_numberOfTrailingZeros_0f7a4 63 = .ok (.iconst 4, 1) := by decide +kernel
theorem dJ6_numberOfTrailingZeros_0f7a4_64 : decode cJ6_numberOfTrailingZeros_0f7a4 64 = .ok (.if_icmp .le 10, 3) := by decide +kernel
theorem dJ6_numberOfTrailingZeros_0f7a4_67 : decode cJ6_numberOfTrailingZeros_0f7a4 67 = .ok (.iinc 1 2, 3) := by decide +kernel
theorem dJ6_numberOfTrailingZeros_0f7a4_70 : decode cJ6_numberOfTrailingZeros_0f7a4 70 = .ok (.iload_n 0, 1) := by decide +kernel
theorem dJ6_numberOfTrailingZeros_0f7a4_71 : decode cJ6_numberOfTrailingZeros_0f7a4 71 = .ok (.iconst 2, 1) := by decide +kernel
theorem dJ6_numberOfTrailingZeros_0f7a4_72 : decode cJ6_numberOfTrailingZeros_0f7a4 72 = .ok (.iushr, 1) := by decide +kernel
theorem dJ6_numberOfTrailingZeros_0f7a4_73 : decode cJ6_numberOfTrailingZeros_0f7a4 73 = .ok (.istore_n 0, 1) := by decide +kernel
theorem dJ6_numberOfTrailingZeros_0f7a4_74 : decode cJ6_numberOfTrailingZeros_0f7a4 74 = .ok (.iload_n 1, 1) := by decide +kernel
theorem dJ6_numberOfTrailingZeros_0f7a4_75 : decode cJ6_numberOfTrailingZeros_0f7a4 75 = .ok (.iload_n 0, 1) := by decide +kernel
theorem dJ6_numberOfTrailingZeros_0f7a4_76 : decode cJ6_numberOfTrailingZeros_0f7a4 76 = .ok (.iconst 1, 1) := by decide +kernel
theorem dJ6_numberOfTrailingZeros_0f7a4_77 : decode cJ6_numberOfTrailingZeros_0f7a4 77 = .ok (.iushr, 1) := by decide +kernel
theorem dJ6_numberOfTrailingZeros_0f7a4_78 : decode cJ6_numberOfTrailingZeros_0f7a4 78 = .ok (.iadd, 1) := by decide +kernel
theorem dJ6_numberOfTrailingZeros_0f7a4_79 : decode cJ6_numberOfTrailingZeros_0f7a4 79 = .ok (.ireturn, 1) := by decide +kernel
theorem dJ6_bitCount_0f7a4_0 : decode cJ6_bitCount_0f7a4 0 = .ok (.iload_n 0, 1) := by decide +kernel
theorem dJ6_bitCount_0f7a4_1 : decode cJ6_bitCount_0f7a4 1 = .ok (.iload_n 0, 1) := by decide +kernel
theorem dJ6_bitCount_0f7a4_2 : decode cJ6_bitCount_0f7a4 2 = .ok (.iconst 1, 1) := by decide +kernel
theorem dJ6_bitCount_0f7a4_3 : decode cJ6_bitCount_0f7a4 3 = .ok (.iushr, 1) := by decide +kernel
theorem dJ6_bitCount_0f7a4_4 : decode cJ6_bitCount_0f7a4 4 = .ok (.ldc_w 265, 3) := by decide +kernel
theorem dJ6_bitCount_0f7a4_7 : decode cJ6_bitCount_0f7a4 7 = .ok (.iand, 1) := by decide +kernel
theorem dJ6_bitCount_0f7a4_8 : decode cJ6_bitCount_0f7a4 8 = .ok (.isub, 1) := by decide +kernel
theorem dJ6_bitCount_0f7a4_9 : decode cJ6_bitCount_0f7a4 9 = .ok (.istore_n 0, 1) := by decide +kernel
theorem dJ6_bitCount_0f7a4_10 : decode cJ6_bitCount_0f7a4 10 = .ok (.iload_n 0, 1) := by decide +kernel
theorem dJ6_bitCount_0f7a4_11 : decode cJ6_bitCount_0f7a4 11 = .ok (.ldc_w 266, 3) := by decide +kernel
theorem dJ6_bitCount_0f7a4_14 : decode cJ6_bitCount_0f7a4 14 = .ok (.iand, 1) := by decide +kernel
theorem dJ6_bitCount_0f7a4_15 : decode cJ6_bitCount_0f7a4 15 = .ok (.iload_n 0, 1) := by decide +kernel
theorem dJ6_bitCount_0f7a4_16 : decode cJ6_bitCount_0f7a4 16 = .ok (.iconst 2, 1) := by decide +kernel
theorem dJ6_bitCount_0f7a4_17 : decode cJ6_bitCount_0f7a4 17 = .ok (.iushr, 1) := by decide +kernel
theorem dJ6_bitCount_0f7a4_18 : decode cJ6_bitCount_0f7a4 18 = .ok (.ldc_w 266, 3) := by decide +kernel
theorem dJ6_bitCount_0f7a4_21 : decode cJ6_bitCount_0f7a4 21 = .ok (.iand, 1) := by decide +kernel
theorem dJ6_bitCount_0f7a4_22 : decode cJ6_bitCount_0f7a4 22 = .ok (.iadd, 1) := by decide +kernel
theorem dJ6_bitCount_0f7a4_23 : decode cJ6_bitCount_0f7a4 23 = .ok (.istore_n 0, 1) := by decide +kernel
theorem dJ6_bitCount_0f7a4_24 : decode cJ6_bitCount_0f7a4 24 = .ok (.iload_n 0, 1) := by decide +kernel
theorem dJ6_bitCount_0f7a4_25 : decode cJ6_bitCount_0f7a4 25 = .ok (.iload_n 0, 1) := by decide +kernel
theorem dJ6_bitCount_0f7a4_26 : decode cJ6_bitCount_0f7a4 26 = .ok (.iconst 4, 1) := by decide +kernel
theorem dJ6_bitCount_0f7a4_27 : decode cJ6_bitCount_0f7a4 27 = .ok (.iushr, 1) := by decide +kernel
theorem dJ6_bitCount_0f7a4_28 : decode cJ6_bitCount_0f7a4 28 = .ok (.iadd, 1) := by decide +kernel
theorem dJ6_bitCount_0f7a4_29 : decode cJ6_bitCount_0f7a4 29 = .ok (.ldc_w 267, 3) := by decide +kernel
theorem dJ6_bitCount_0f7a4_32 : decode cJ6_bitCount_0f7a4 32 = .ok (.iand, 1) := by decide +kernel
theorem dJ6_bitCount_0f7a4_33 : decode cJ6_bitCount_0f7a4 33 = .ok (.istore_n 0, 1) := by decide +kernel
theorem dJ6_bitCount_0f7a4_34 : decode cJ6_bitCount_0f7a4 34 = .ok (.iload_n 0, 1) := by decide +kernel
theorem dJ6_bitCount_0f7a4_35 : decode cJ6_bitCount_0f7a4 35 = .ok (.iload_n 0, 1) := by decide +kernel
theorem dJ6_bitCount_0f7a4_36 : decode cJ6_bitCount_0f7a4 36 = .ok (.bipush 8, 2) := by decide +kernel
theorem dJ6_bitCount_0f7a4_38 : decode cJ6_bitCount_0f7a4 38 = .ok (.iushr, 1) := by decide +kernel
theorem dJ6_bitCount_0f7a4_39 : decode cJ6_bitCount_0f7a4 39 = .ok (.iadd, 1) := by decide +kernel
theorem dJ6_bitCount_0f7a4_40 : decode cJ6_bitCount_0f7a4 40 = .ok (.istore_n 0, 1) := by decide +kernel
theorem dJ6_bitCount_0f7a4_41 : decode cJ6_bitCount_0f7a4 41 = .ok (.iload_n 0, 1) := by decide +kernel
theorem dJ6_bitCount_0f7a4_42 : decode cJ6_bitCount_0f7a4 42 = .ok (.iload_n 0, 1) := by decide +kernel
theorem dJ6_bitCount_0f7a4_43 : decode cJ6_bitCount_0f7a4 43 = .ok (.bipush 16, 2) := by decide +kernel
theorem dJ6_bitCount_0f7a4_45 : decode cJ6_bitCount_0f7a4 45 = .ok (.iushr, 1) := by decide +kernel
theorem dJ6_bitCount_0f7a4_46 : decode cJ6_bitCount_0f7a4 46 = .ok (.iadd, 1) := by decide +kernel
theorem dJ6_bitCount_0f7a4_47 : decode cJ6_bitCount_0f7a4 47 = .ok (.istore_n 0, 1) := by decide +kernel
theorem dJ6_bitCount_0f7a4_48 : decode cJ6_bitCount_0f7a4 48 = .ok (.iload_n 0, 1) := by decide +kernel
theorem dJ6_bitCount_0f7a4_49 : decode cJ6_bitCount_0f7a4 49 = .ok (.bipush 63, 2) := by decide +kernel
theorem dJ6_bitCount_0f7a4_51 : decode cJ6_bitCount_0f7a4 51 = .ok (.iand, 1) := by decide +kernel
theorem dJ6_bitCount_0f7a4_52 : decode cJ6_bitCount_0f7a4 52 = .ok (.ireturn, 1) := by decide +kernel
theorem dJ9_max_7cf53_0 : decode cJ9_max_7cf53 0 = .ok (.iload_n 0, 1) := by decide +kernel
theorem dJ9_max_7cf53_1 : decode cJ9_max_7cf53 1 = .ok (.iload_n 1, 1) := by decide +kernel
theorem dJ9_max_7cf53_2 : decode cJ9_max_7cf53 2 = .ok (.if_icmp .lt 7, 3) := by decide +kernel
theorem dJ9_max_7cf53_5 : decode cJ9_max_7cf53 5 = .ok (.iload_n 0, 1) := by decide +kernel
theorem dJ9_max_7cf53_6 : decode cJ9_max_7cf53 6 = .ok (.goto 4, 3) := by decide +kernel
theorem dJ9_max_7cf53_9 : decode cJ9_max_7cf53 9 = .ok (.iload_n 1, 1) := by decide +kernel
theorem dJ9_max_7cf53_10 : decode cJ9_max_7cf53 10 = .ok (.ireturn, 1) := by decide +kernel
theorem dJ9_max_f86c9_0 : decode cJ9_max_f86c9 0 = .ok (.lload_n 0, 1) := by decide +kernel
theorem dJ9_max_f86c9_1 : decode cJ9_max_f86c9 1 = .ok (.lload_n 2, 1) := by decide +kernel
theorem dJ9_max_f86c9_2 : decode cJ9_max_f86c9 2 = .ok (.lcmp, 1) := by decide +kernel
theorem dJ9_max_f86c9_3 : decode cJ9_max_f86c9 3 = .ok (.ifCond .lt 7, 3) := by decide +kernel
theorem dJ9_max_f86c9_6 : decode cJ9_max_f86c9 6 = .ok (.lload_n 0, 1) := by decide +kernel
theorem dJ9_max_f86c9_7 : decode cJ9_max_f86c9 7 = .ok (.goto 4, 3) := by decide +kernel
theorem dJ9_max_f86c9_10 : decode cJ9_max_f86c9 10 = .ok (.lload_n 2, 1) := by decide +kernel
theorem dJ9_max_f86c9_11 : decode cJ9_max_f86c9 11 = .ok (.lreturn, 1) := by decide +kernel
theorem dJ9_min_7cf53_0 : decode cJ9_min_7cf53 0 = .ok (.iload_n 0, 1) := by decide +kernel
theorem dJ9_min_7cf53_1 : decode cJ9_min_7cf53 1 = .ok (.iload_n 1, 1) := by decide +kernel
theorem dJ9_min_7cf53_2 : decode cJ9_min_7cf53 2 = .ok (.if_icmp .gt 7, 3) := by decide +kernel
theorem dJ9_min_7cf53_5 : decode cJ9_min_7cf53 5 = .ok (.iload_n 0, 1) := by decide +kernel
theorem dJ9_min_7cf53_6 : decode cJ9_min_7cf53 6 = .ok (.goto 4, 3) := by decide +kernel
theorem dJ9_min_7cf53_9 : decode cJ9_min_7cf53 9 = .ok (.iload_n 1, 1) := by decide +kernel
theorem dJ9_min_7cf53_10 : decode cJ9_min_7cf53 10 = .ok (.ireturn, 1) := by decide +kernel
theorem dJ7_fill_d0a16_0 : decode cJ7_fill_d0a16 0 = .ok (.iconst 0, 1) := by decide +kernel
theorem dJ7_fill_d0a16_1 : decode cJ7_fill_d0a16 1 = .ok (.istore_n 3, 1) := by decide +kernel
theorem dJ7_fill_d0a16_2 : decode cJ7_fill_d0a16 2 = .ok (.aload_n 0, 1) := by decide +kernel
theorem dJ7_fill_d0a16_3 : decode cJ7_fill_d0a16 3 = .ok (.arraylength, 1) := by decide +kernel
theorem dJ7_fill_d0a16_4 : decode cJ7_fill_d0a16 4 = .ok (.istore 4, 2) := by decide +kernel
theorem dJ7_fill_d0a16_6 : decode cJ7_fill_d0a16 6 = .ok (.iload_n 3, 1) := by decide +kernel
theorem dJ7_fill_d0a16_7 : decode cJ7_fill_d0a16 7 = .ok (.iload 4, 2) := by decide +kernel
theorem dJ7_fill_d0a16_9 : decode cJ7_fill_d0a16 9 = .ok (.if_icmp .ge 13, 3) := by decide +kernel
theorem dJ7_fill_d0a16_12 : decode cJ7_fill_d0a16 12 = .ok (.aload_n 0, 1) := by decide +kernel
theorem dJ7_fill_d0a16_13 : decode cJ7_fill_d0a16 13 = .ok (.iload_n 3, 1) := by decide +kernel
theorem dJ7_fill_d0a16_14 : decode cJ7_fill_d0a16 14 = .ok (.lload_n 1, 1) := by decide +kernel
theorem dJ7_fill_d0a16_15 : decode cJ7_fill_d0a16 15 = .ok (.lastore, 1) := by decide +kernel
theorem dJ7_fill_d0a16_16 : decode cJ7_fill_d0a16 16 = .ok (.iinc 3 1, 3) := by decide +kernel
theorem dJ7_fill_d0a16_19 : decode cJ7_fill_d0a16 19 = .ok (.goto (-13), 3) := by decide +kernel
theorem dJ7_fill_d0a16_22 : decode cJ7_fill_d0a16 22 = .ok (.return_, 1) := by decide +kernel
theorem dJ7_fill_53178_0 : decode cJ7_fill_53178 0 = .ok (.iconst 0, 1) := by decide +kernel
theorem dJ7_fill_53178_1 : decode cJ7_fill_53178 1 = .ok (.istore_n 2, 1) := by decide +kernel
theorem dJ7_fill_53178_2 : decode cJ7_fill_53178 2 = .ok (.aload_n 0, 1) := by decide +kernel
theorem dJ7_fill_53178_3 : decode cJ7_fill_53178 3 = .ok (.arraylength, 1) := by decide +kernel
theorem dJ7_fill_53178_4 : decode cJ7_fill_53178 4 = .ok (.istore_n 3, 1) := by decide +kernel
theorem dJ7_fill_53178_5 : decode cJ7_fill_53178 5 = .ok (.iload_n 2, 1) := by decide +kernel
theorem dJ7_fill_53178_6 : decode cJ7_fill_53178 6 = .ok (.iload_n 3, 1) := by decide +kernel
theorem dJ7_fill_53178_7 : decode cJ7_fill_53178 7 = .ok (.if_icmp .ge 13, 3) := by decide +kernel
theorem dJ7_fill_53178_10 : decode cJ7_fill_53178 10 = .ok (.aload_n 0, 1) := by decide +kernel
theorem dJ7_fill_53178_11 : decode cJ7_fill_53178 11 = .ok (.iload_n 2, 1) := by decide +kernel
theorem dJ7_fill_53178_12 : decode cJ7_fill_53178 12 = .ok (.iload_n 1, 1) := by decide +kernel
theorem dJ7_fill_53178_13 : decode cJ7_fill_53178 13 = .ok (.iastore, 1) := by decide +kernel
theorem dJ7_fill_53178_14 : decode cJ7_fill_53178 14 = .ok (.iinc 2 1, 3) := by decide +kernel
theorem dJ7_fill_53178_17 : decode cJ7_fill_53178 17 = .ok (.goto (-12), 3) := by decide +kernel
theorem dJ7_fill_53178_20 : decode cJ7_fill_53178 20 = .ok (.return_, 1) := by decide +kernel
end
section
/-! THE LIBRARY: a light judgement G over the machine, for methods that make no cell: the world is a fixed list of cells, numbered; their contents are a state of numbers. -/
/-- the state: ints and longs, by cell and place -/
abbrev Sg : Type := (Nat → Nat → Int32) × (Nat → Nat → Int64)
def rI (z : Sg) (t k : Nat) : Int32 := z.1 t k
def rJ (z : Sg) (t k : Nat) : Int64 := z.2 t k
def wI (z : Sg) (t k : Nat) (v : Int32) : Sg := (fun t' => if t' = t then upd (z.1 t) k v else z.1 t', z.2)
def wJ (z : Sg) (t k : Nat) (v : Int64) : Sg := (z.1, fun t' => if t' = t then vp_updL (z.2 t) k v else z.2 t')
def wA (z : Sg) (t : Nat) (f : Nat → Int32) : Sg := (fun t' => if t' = t then f else z.1 t', z.2)
theorem rI_wI (z : Sg) (t k : Nat) (v : Int32) (a b : Nat) : rI (wI z t k v) a b = if a = t ∧ b = k then v else rI z a b := by
  unfold rI wI upd
  by_cases h : a = t
  · subst h
    by_cases h2 : b = k <;> simp [h2]
  · simp [h]
theorem rJ_wI (z : Sg) (t k : Nat) (v : Int32) (a b : Nat) : rJ (wI z t k v) a b = rJ z a b := rfl
theorem rI_wJ (z : Sg) (t k : Nat) (v : Int64) (a b : Nat) : rI (wJ z t k v) a b = rI z a b := rfl
theorem rJ_wJ (z : Sg) (t k : Nat) (v : Int64) (a b : Nat) : rJ (wJ z t k v) a b = if a = t ∧ b = k then v else rJ z a b := by
  unfold rJ wJ vp_updL
  by_cases h : a = t
  · subst h
    by_cases h2 : b = k <;> simp [h2]
  · simp [h]
/-- a row's item: the number of a place -/
abbrev ix (i : Int32) : Nat := i.toNatClampNeg
abbrev ib (i : Int32) (n : Nat) : Prop := ¬ (i < 0 ∨ n ≤ i.toNatClampNeg)
/-- how many places a copy takes -/
abbrev cpOK (sp dp n : Int32) (n0 n1 : Nat) : Prop := ¬ sp < 0 ∧ ¬ dp < 0 ∧ ¬ n < 0 ∧ sp.toNatClampNeg + n.toNatClampNeg ≤ n0 ∧ dp.toNatClampNeg + n.toNatClampNeg ≤ n1
-- steps of a function that may have no answer
def b1 {α β : Type} (x : Option α) (k : α → Option β) : Option β := match x with
  | some a => k a
  | none => none
def b2 {α γ β : Type} (x : Option (α × γ)) (k : α → γ → Option β) : Option β := match x with
  | some (a, c) => k a c
  | none => none
def b3 {α γ δ β : Type} (x : Option (α × γ × δ)) (k : α → γ → δ → Option β) : Option β := match x with
  | some (a, c, d) => k a c d
  | none => none
def b4 {α γ δ ε β : Type} (x : Option (α × γ × δ × ε)) (k : α → γ → δ → ε → Option β) : Option β := match x with
  | some (a, c, d, e) => k a c d e
  | none => none
def b5 {α γ δ ε ζ β : Type} (x : Option (α × γ × δ × ε × ζ)) (k : α → γ → δ → ε → ζ → Option β) : Option β := match x with
  | some (a, c, d, e, f) => k a c d e f
  | none => none
def ck {β : Type} (c : Prop) [Decidable c] (x : Option β) : Option β := if c then x else none
theorem b1_some {α β : Type} (a : α) (k : α → Option β) : b1 (some a) k = k a := rfl
theorem b2_some {α γ β : Type} (a : α) (c : γ) (k : α → γ → Option β) : b2 (some (a, c)) k = k a c := rfl
theorem b3_some {α γ δ β : Type} (a : α) (c : γ) (d : δ) (k : α → γ → δ → Option β) : b3 (some (a, c, d)) k = k a c d := rfl
theorem b4_some {α γ δ ε β : Type} (a : α) (c : γ) (d : δ) (e : ε) (k : α → γ → δ → ε → Option β) : b4 (some (a, c, d, e)) k = k a c d e := rfl
theorem b5_some {α γ δ ε ζ β : Type} (a : α) (c : γ) (d : δ) (e : ε) (f : ζ) (k : α → γ → δ → ε → ζ → Option β) : b5 (some (a, c, d, e, f)) k = k a c d e f := rfl
theorem b1_of {α β : Type} {x : Option α} {k : α → Option β} {r : β} (h : b1 x k = some r) : ∃ a, x = some a ∧ k a = some r := by
  cases x with
  | none => cases h
  | some a => exact ⟨a, rfl, h⟩
theorem b2_of {α γ β : Type} {x : Option (α × γ)} {k : α → γ → Option β} {r : β} (h : b2 x k = some r) : ∃ a c, x = some (a, c) ∧ k a c = some r := by
  cases x with
  | none => cases h
  | some a => exact ⟨a.1, a.2, rfl, h⟩
theorem b3_of {α γ δ β : Type} {x : Option (α × γ × δ)} {k : α → γ → δ → Option β} {r : β} (h : b3 x k = some r) : ∃ a c d, x = some (a, c, d) ∧ k a c d = some r := by
  cases x with
  | none => cases h
  | some a => exact ⟨a.1, a.2.1, a.2.2, rfl, h⟩
theorem b4_of {α γ δ ε β : Type} {x : Option (α × γ × δ × ε)} {k : α → γ → δ → ε → Option β} {r : β} (h : b4 x k = some r) : ∃ a c d e, x = some (a, c, d, e) ∧ k a c d e = some r := by
  cases x with
  | none => cases h
  | some a => exact ⟨a.1, a.2.1, a.2.2.1, a.2.2.2, rfl, h⟩
theorem b5_of {α γ δ ε ζ β : Type} {x : Option (α × γ × δ × ε × ζ)} {k : α → γ → δ → ε → ζ → Option β} {r : β} (h : b5 x k = some r) : ∃ a c d e f, x = some (a, c, d, e, f) ∧ k a c d e f = some r := by
  cases x with
  | none => cases h
  | some a => exact ⟨a.1, a.2.1, a.2.2.1, a.2.2.2.1, a.2.2.2.2, rfl, h⟩
theorem ck_of {β : Type} {c : Prop} [Decidable c] {x : Option β} {r : β} (h : ck c x = some r) : c ∧ x = some r := by
  unfold ck at h
  by_cases hc : c
  · rw [if_pos hc] at h; exact ⟨hc, h⟩
  · rw [if_neg hc] at h; cases h
theorem ck_pos {β : Type} {c : Prop} [Decidable c] {x : Option β} (h : c) : ck c x = x := if_pos h
theorem it_t {α : Type} {c : Prop} [Decidable c] {x y r : α} (h : (if c then x else y) = r) (hc : c) : x = r := by rw [if_pos hc] at h; exact h
theorem it_f {α : Type} {c : Prop} [Decidable c] {x y r : α} (h : (if c then x else y) = r) (hc : ¬ c) : y = r := by rw [if_neg hc] at h; exact h
theorem so1 {α : Type} {a b : α} (h : some a = some b) : a = b := Option.some.inj h
theorem so2 {α γ : Type} {a b : α} {c d : γ} (h : some (a, c) = some (b, d)) : a = b ∧ c = d := by cases h; exact ⟨rfl, rfl⟩
theorem so3 {α γ δ : Type} {a b : α} {c d : γ} {e f : δ} (h : some (a, c, e) = some (b, d, f)) : a = b ∧ c = d ∧ e = f := by cases h; exact ⟨rfl, rfl, rfl⟩
theorem so4 {α γ δ ε : Type} {a b : α} {c d : γ} {e f : δ} {g h : ε} (q : some (a, c, e, g) = some (b, d, f, h)) : a = b ∧ c = d ∧ e = f ∧ g = h := by cases q; exact ⟨rfl, rfl, rfl, rfl⟩
theorem so5 {α γ δ ε ζ : Type} {a b : α} {c d : γ} {e f : δ} {g h : ε} {i j : ζ} (q : some (a, c, e, g, i) = some (b, d, f, h, j)) : a = b ∧ c = d ∧ e = f ∧ g = h ∧ i = j := by cases q; exact ⟨rfl, rfl, rfl, rfl, rfl⟩
theorem cv_ge {a b : Int32} (h : ¬ a < b) : b ≤ a := Int32.not_lt.mp h
theorem cv_gt {a b : Int32} (h : ¬ a ≤ b) : b < a := Int32.not_le.mp h
theorem cv_nge {a b : Int32} (h : a < b) : ¬ b ≤ a := Int32.not_le.mpr h
theorem cv_ngt {a b : Int32} (h : a ≤ b) : ¬ b < a := Int32.not_lt.mpr h
-- kinds of cells: (0, class, fields) an object; (1, n, _) ints; (2, n, _) booleans; (3, n, _) longs; (4, n, [(base, step)]) references; a field: (0, _) int, (1, _) long, (2, d) a reference to the cell d further, (3, a) to the cell a
abbrev Kd : Type := Nat × Nat × List (Nat × Nat)
/-- the world's own: class numbers and slots, addresses, the array classes -/
abbrev WC : Type := va_G × (Nat → Nat) × ClassId × ClassId × ClassId × ClassId
def fv (ad : Nat → Nat) (z : Sg) (t k : Nat) (f : Nat × Nat) : Value := match f.1 with
  | 0 => .int (rI z t k)
  | 1 => .long (rJ z t k)
  | 2 => .ref (ad (t + f.2))
  | _ => .ref (ad f.2)
def flds (ad : Nat → Nat) (z : Sg) (t : Nat) : Nat → List (Nat × Nat) → List Value
  | _, [] => []
  | k, f :: l => fv ad z t k f :: flds ad z t (k + 1) l
theorem flds_len (ad : Nat → Nat) (z : Sg) (t : Nat) : ∀ (l : List (Nat × Nat)) (k : Nat), (flds ad z t k l).length = l.length
  | [], _ => rfl
  | _ :: l, k => by simp [flds, flds_len ad z t l (k + 1)]
theorem flds_at (ad : Nat → Nat) (z : Sg) (t : Nat) : ∀ (l : List (Nat × Nat)) (k j : Nat) (f : Nat × Nat), l[j]? = some f → (flds ad z t k l)[j]? = some (fv ad z t (k + j) f)
  | [], _, j, f, h => by simp at h
  | a :: l, k, 0, f, h => by simp at h; subst h; simp [flds]
  | a :: l, k, j + 1, f, h => by
    simp at h
    simp only [flds, List.getElem?_cons_succ]
    rw [flds_at ad z t l (k + 1) j f h]
    congr 2
    omega
theorem flds_ext (ad : Nat → Nat) (z z' : Sg) (t : Nat) (v : Value) : ∀ (l : List (Nat × Nat)) (k j : Nat) (f : Nat × Nat), l[j]? = some f → fv ad z' t (k + j) f = v → (∀ i g, l[i]? = some g → i ≠ j → fv ad z' t (k + i) g = fv ad z t (k + i) g) → flds ad z' t k l = (flds ad z t k l).set j v
  | [], _, j, f, h, _, _ => by simp at h
  | a :: l, k, 0, f, h, hv, ho => by
    simp at h; subst h
    simp only [flds, List.set_cons_zero]
    congr 1
    clear hv
    have key : ∀ (l' : List (Nat × Nat)) (k' : Nat), (∀ i g, l'[i]? = some g → fv ad z' t (k' + i) g = fv ad z t (k' + i) g) → flds ad z' t k' l' = flds ad z t k' l' := by
      intro l'
      induction l' with
      | nil => intro _ _; rfl
      | cons b l' ih =>
        intro k' h
        simp only [flds]
        rw [ih (k' + 1) (fun i g hg => by have := h (i + 1) g (by simpa using hg); rw [show k' + 1 + i = k' + (i + 1) by omega]; exact this)]
        have := h 0 b (by simp)
        simp at this
        rw [this]
    exact key l (k + 1) (fun i g hg => by have := ho (i + 1) g (by simpa using hg) (by omega); rw [show k + 1 + i = k + (i + 1) by omega]; exact this)
  | a :: l, k, j + 1, f, h, hv, ho => by
    simp at h
    simp only [flds, List.set_cons_succ]
    rw [flds_ext ad z z' t v l (k + 1) j f h (by rw [show k + 1 + j = k + (j + 1) by omega]; exact hv) (fun i g hg hi => by have := ho (i + 1) g (by simpa using hg) (by omega); rw [show k + 1 + i = k + (i + 1) by omega]; exact this)]
    have := ho 0 a (by simp) (by omega)
    simp at this
    rw [this]
def entK (w : WC) (z : Sg) (t : Nat) (K : Kd) : va_E := match K with
  | (0, ci, fl) => .inr (ci, flds w.2.1 z t 0 fl)
  | (1, n, _) => .inl (w.2.2.1, n, .inl (z.1 t))
  | (2, n, _) => .inl (w.2.2.2.1, n, .inl (z.1 t))
  | (3, n, _) => .inl (w.2.2.2.2.1, n, .inr (.inl (z.2 t)))
  | (4, n, (b, d) :: _) => .inl (w.2.2.2.2.2, n, .inr (.inr (.inr (.inr (fun j => some (w.2.1 (b + d * j)))))))
  | _ => .inr (0, [])
theorem entK_congr (w : WC) (z z' : Sg) (t : Nat) (K : Kd) (h1 : z'.1 t = z.1 t) (h2 : z'.2 t = z.2 t) : entK w z' t K = entK w z t K := by
  have hf : ∀ l k, flds w.2.1 z' t k l = flds w.2.1 z t k l := by
    intro l
    induction l with
    | nil => intro _; rfl
    | cons b l ih => intro k; simp only [flds, ih]; simp only [fv, rI, rJ, h1, h2]
  unfold entK
  split <;> simp only [hf, h1, h2]
end
section
/-! THE WORLD: the cells of the class (false) and of the reference (true), by number. Printed by wip/whole/gen/mkworld.py. -/
abbrev KX0 : Kd := (0, 0, [(2, 1), (2, 2), (0, 0)])
abbrev KX1 : Kd := (0, 1, [(0, 0), (2, 1), (2, 2), (2, 3), (0, 0), (0, 0), (0, 0)])
abbrev KX2 : Kd := (0, 2, [(3, 1), (3, 5), (0, 0), (0, 0), (0, 0)])
abbrev KX3 : Kd := (0, 3, [(2, 1), (1, 0), (1, 0)])
abbrev KX4 : Kd := (0, 4, [(3, 9), (2, 1), (2, 2), (0, 0), (2, 3), (2, 4), (2, 5), (2, 6), (2, 7), (2, 8), (2, 9), (2, 10), (0, 0), (0, 0), (0, 0), (1, 0), (0, 0)])
abbrev KX5 : Kd := (0, 5, [(2, 1), (0, 0), (0, 0)])
abbrev KX6 : Kd := (0, 6, [(2, 1), (2, 2), (2, 3), (0, 0)])
abbrev KX7 : Kd := (0, 7, [(3, 1), (3, 5), (3, 9), (3, 10), (3, 13), (3, 16), (3, 20), (3, 31), (3, 42), (3, 44), (0, 0), (0, 0), (0, 0)])
abbrev KX8 : Kd := (0, 8, [(3, 1), (3, 2), (0, 0), (3, 3), (3, 4), (0, 0), (3, 5), (3, 6), (3, 7), (0, 0), (0, 0), (0, 0), (0, 0), (3, 8), (3, 9), (0, 0), (3, 10), (3, 11), (3, 12), (3, 13), (3, 14), (0, 0), (0, 0), (3, 15), (3, 16), (3, 17), (3, 18), (0, 0), (3, 19), (3, 20), (3, 21), (3, 22), (3, 23), (3, 24), (3, 25), (3, 26), (0, 0)])
def tabX : List Kd := [KX7, KX1, (1, 8, []), (1, 8, []), (1, 8, []), KX1, (1, 8, []), (1, 8, []), (1, 8, []), KX2, KX0, (1, 12, []), (1, 12, []), KX0, (1, 12, []), (1, 12, []), KX6, (1, 8, []), (1, 8, []), (1, 8, []), KX4, (1, 40, []), (1, 52, []), (1, 8, []), (1, 8, []), (1, 40, []), (1, 40, []), (1, 40, []), (1, 40, []), (1, 8, []), (1, 8, []), KX4, (1, 40, []), (1, 52, []), (1, 8, []), (1, 8, []), (1, 40, []), (1, 40, []), (1, 40, []), (1, 40, []), (1, 8, []), (1, 8, []), KX3, (3, 256, []), (4, 4, [(45, 2)]), KX5, (1, 48, []), KX5, (1, 48, []), KX5, (1, 48, []), KX5, (1, 48, [])]
def tabM : List Kd := [KX8, (1, 2, []), (1, 94, []), (1, 9, []), (1, 9, []), (1, 9, []), (1, 9, []), (1, 9, []), (1, 52, []), (1, 52, []), (1, 52, []), (1, 52, []), (1, 8, []), (1, 8, []), (1, 8, []), (1, 2304, []), (1, 8, []), (1, 256, []), (1, 8, []), (1, 8, []), (1, 8, []), (1, 8, []), (2, 4, []), (1, 4, []), (1, 4, []), (1, 192, []), (1, 48, [])]
def kd (sp : Bool) (t : Nat) : Kd := (if sp then tabM else tabX).getD t (9, 0, [])
def NN (sp : Bool) : Nat := if sp then 27 else 53
theorem kd_lt {sp : Bool} {t : Nat} (h : (kd sp t).1 ≠ 9) : t < NN sp := by
  refine Nat.not_le.mp fun q => h ?_
  unfold kd
  cases sp
  · rw [List.getD_eq_getElem?_getD, List.getElem?_eq_none (by exact q)]; rfl
  · rw [List.getD_eq_getElem?_getD, List.getElem?_eq_none (by exact q)]; rfl
def TB : List Cond := lw_tbl.filter goodWord
theorem tbm {w : Cond} (i : Nat) (h : lw_tbl[i]? = some w) (g : goodWord w = true) : w ∈ TB := List.mem_filter.mpr ⟨List.mem_of_getElem? h, g⟩
theorem goodTB {w : Cond} (h : w ∈ TB) : w ∈ TB ∧ ((w.onTables && w.keeps) = true ∨ ∃ ty, w = .arrayClass ty) := ⟨h, good_of_word (List.mem_filter.mp h).2⟩
def nestW : List Cond := [(Jvm.Cond.fieldLinkNest "FoundVirtues$Run" (94 : Nat) "FoundVirtues$Office" "virtues" "LFoundVirtues$Entries;" "FoundVirtues"), (Jvm.Cond.fieldLinkNest "FoundVirtues$Rows" (33 : Nat) "FoundVirtues$Office" "virtues" "LFoundVirtues$Entries;" "FoundVirtues"), (Jvm.Cond.fieldLinkNest "FoundVirtues$Run" (56 : Nat) "FoundVirtues$Office" "claimants" "LFoundVirtues$Entries;" "FoundVirtues"), (Jvm.Cond.fieldLinkNest "FoundVirtues$Rows" (21 : Nat) "FoundVirtues$Office" "claimants" "LFoundVirtues$Entries;" "FoundVirtues"), (Jvm.Cond.methodLinkNest "FoundVirtues" (32 : Nat) ({ cls := "FoundVirtues$Book", name := "<init>", desc := "()V" } : Jvm.MethodName) "FoundVirtues"), (Jvm.Cond.methodLinkNest "FoundVirtues" (42 : Nat) ({ cls := "FoundVirtues$Sightings", name := "<init>", desc := "()V" } : Jvm.MethodName) "FoundVirtues"), (Jvm.Cond.methodLinkNest "FoundVirtues" (61 : Nat) ({ cls := "FoundVirtues$Rows", name := "<init>", desc := "()V" } : Jvm.MethodName) "FoundVirtues"), (Jvm.Cond.methodLinkNest "FoundVirtues" (72 : Nat) ({ cls := "FoundVirtues$Sheet", name := "<init>", desc := "()V" } : Jvm.MethodName) "FoundVirtues"), (Jvm.Cond.methodLinkNest "FoundVirtues$Book" (18 : Nat) ({ cls := "FoundVirtues", name := "outside", desc := "(II)Z" } : Jvm.MethodName) "FoundVirtues"), (Jvm.Cond.methodLinkNest "FoundVirtues$Sightings" (21 : Nat) ({ cls := "FoundVirtues", name := "outside", desc := "(II)Z" } : Jvm.MethodName) "FoundVirtues"), (Jvm.Cond.methodLinkNest "FoundVirtues$Sheet" (32 : Nat) ({ cls := "FoundVirtues", name := "outside", desc := "(II)Z" } : Jvm.MethodName) "FoundVirtues")]
theorem lay0 : ∀ k, k < 3 → u_lay RX0 TX0 k ∈ lw_tbl := fun k hk => match k, hk with
  | 0, _ => List.mem_of_getElem? (i := 173) (by decide +kernel)
  | 1, _ => List.mem_of_getElem? (i := 175) (by decide +kernel)
  | 2, _ => List.mem_of_getElem? (i := 177) (by decide +kernel)
  | k + 3, h => absurd h (by omega)
theorem layg0 : ∀ k, k < 3 → goodWord (u_lay RX0 TX0 k) = true := by decide +kernel
theorem lay1 : ∀ k, k < 7 → u_lay RX1 TX1 k ∈ lw_tbl := fun k hk => match k, hk with
  | 0, _ => List.mem_of_getElem? (i := 115) (by decide +kernel)
  | 1, _ => List.mem_of_getElem? (i := 117) (by decide +kernel)
  | 2, _ => List.mem_of_getElem? (i := 119) (by decide +kernel)
  | 3, _ => List.mem_of_getElem? (i := 121) (by decide +kernel)
  | 4, _ => List.mem_of_getElem? (i := 123) (by decide +kernel)
  | 5, _ => List.mem_of_getElem? (i := 125) (by decide +kernel)
  | 6, _ => List.mem_of_getElem? (i := 127) (by decide +kernel)
  | k + 7, h => absurd h (by omega)
theorem layg1 : ∀ k, k < 7 → goodWord (u_lay RX1 TX1 k) = true := by decide +kernel
theorem lay2 : ∀ k, k < 5 → u_lay RX2 TX2 k ∈ lw_tbl := fun k hk => match k, hk with
  | 0, _ => List.mem_of_getElem? (i := 149) (by decide +kernel)
  | 1, _ => List.mem_of_getElem? (i := 151) (by decide +kernel)
  | 2, _ => List.mem_of_getElem? (i := 153) (by decide +kernel)
  | 3, _ => List.mem_of_getElem? (i := 155) (by decide +kernel)
  | 4, _ => List.mem_of_getElem? (i := 157) (by decide +kernel)
  | k + 5, h => absurd h (by omega)
theorem layg2 : ∀ k, k < 5 → goodWord (u_lay RX2 TX2 k) = true := by decide +kernel
theorem lay3 : ∀ k, k < 3 → u_lay RX3 TX3 k ∈ lw_tbl := fun k hk => match k, hk with
  | 0, _ => List.mem_of_getElem? (i := 279) (by decide +kernel)
  | 1, _ => List.mem_of_getElem? (i := 281) (by decide +kernel)
  | 2, _ => List.mem_of_getElem? (i := 283) (by decide +kernel)
  | k + 3, h => absurd h (by omega)
theorem layg3 : ∀ k, k < 3 → goodWord (u_lay RX3 TX3 k) = true := by decide +kernel
theorem lay4 : ∀ k, k < 17 → u_lay RX4 TX4 k ∈ lw_tbl := fun k hk => match k, hk with
  | 0, _ => List.mem_of_getElem? (i := 233) (by decide +kernel)
  | 1, _ => List.mem_of_getElem? (i := 235) (by decide +kernel)
  | 2, _ => List.mem_of_getElem? (i := 237) (by decide +kernel)
  | 3, _ => List.mem_of_getElem? (i := 239) (by decide +kernel)
  | 4, _ => List.mem_of_getElem? (i := 241) (by decide +kernel)
  | 5, _ => List.mem_of_getElem? (i := 243) (by decide +kernel)
  | 6, _ => List.mem_of_getElem? (i := 245) (by decide +kernel)
  | 7, _ => List.mem_of_getElem? (i := 247) (by decide +kernel)
  | 8, _ => List.mem_of_getElem? (i := 249) (by decide +kernel)
  | 9, _ => List.mem_of_getElem? (i := 251) (by decide +kernel)
  | 10, _ => List.mem_of_getElem? (i := 253) (by decide +kernel)
  | 11, _ => List.mem_of_getElem? (i := 255) (by decide +kernel)
  | 12, _ => List.mem_of_getElem? (i := 257) (by decide +kernel)
  | 13, _ => List.mem_of_getElem? (i := 259) (by decide +kernel)
  | 14, _ => List.mem_of_getElem? (i := 261) (by decide +kernel)
  | 15, _ => List.mem_of_getElem? (i := 263) (by decide +kernel)
  | 16, _ => List.mem_of_getElem? (i := 265) (by decide +kernel)
  | k + 17, h => absurd h (by omega)
theorem layg4 : ∀ k, k < 17 → goodWord (u_lay RX4 TX4 k) = true := by decide +kernel
theorem lay5 : ∀ k, k < 3 → u_lay RX5 TX5 k ∈ lw_tbl := fun k hk => match k, hk with
  | 0, _ => List.mem_of_getElem? (i := 300) (by decide +kernel)
  | 1, _ => List.mem_of_getElem? (i := 302) (by decide +kernel)
  | 2, _ => List.mem_of_getElem? (i := 304) (by decide +kernel)
  | k + 3, h => absurd h (by omega)
theorem layg5 : ∀ k, k < 3 → goodWord (u_lay RX5 TX5 k) = true := by decide +kernel
theorem lay6 : ∀ k, k < 4 → u_lay RX6 TX6 k ∈ lw_tbl := fun k hk => match k, hk with
  | 0, _ => List.mem_of_getElem? (i := 191) (by decide +kernel)
  | 1, _ => List.mem_of_getElem? (i := 193) (by decide +kernel)
  | 2, _ => List.mem_of_getElem? (i := 195) (by decide +kernel)
  | 3, _ => List.mem_of_getElem? (i := 197) (by decide +kernel)
  | k + 4, h => absurd h (by omega)
theorem layg6 : ∀ k, k < 4 → goodWord (u_lay RX6 TX6 k) = true := by decide +kernel
theorem lay7 : ∀ k, k < 13 → u_lay RX7 TX7 k ∈ lw_tbl := fun k hk => match k, hk with
  | 0, _ => List.mem_of_getElem? (i := 320) (by decide +kernel)
  | 1, _ => List.mem_of_getElem? (i := 322) (by decide +kernel)
  | 2, _ => List.mem_of_getElem? (i := 324) (by decide +kernel)
  | 3, _ => List.mem_of_getElem? (i := 326) (by decide +kernel)
  | 4, _ => List.mem_of_getElem? (i := 328) (by decide +kernel)
  | 5, _ => List.mem_of_getElem? (i := 330) (by decide +kernel)
  | 6, _ => List.mem_of_getElem? (i := 332) (by decide +kernel)
  | 7, _ => List.mem_of_getElem? (i := 334) (by decide +kernel)
  | 8, _ => List.mem_of_getElem? (i := 336) (by decide +kernel)
  | 9, _ => List.mem_of_getElem? (i := 338) (by decide +kernel)
  | 10, _ => List.mem_of_getElem? (i := 340) (by decide +kernel)
  | 11, _ => List.mem_of_getElem? (i := 342) (by decide +kernel)
  | 12, _ => List.mem_of_getElem? (i := 344) (by decide +kernel)
  | k + 13, h => absurd h (by omega)
theorem layg7 : ∀ k, k < 13 → goodWord (u_lay RX7 TX7 k) = true := by decide +kernel
theorem lay8 : ∀ k, k < 37 → u_lay RX8 TX8 k ∈ lw_tbl := fun k hk => match k, hk with
  | 0, _ => List.mem_of_getElem? (i := 855) (by decide +kernel)
  | 1, _ => List.mem_of_getElem? (i := 857) (by decide +kernel)
  | 2, _ => List.mem_of_getElem? (i := 859) (by decide +kernel)
  | 3, _ => List.mem_of_getElem? (i := 861) (by decide +kernel)
  | 4, _ => List.mem_of_getElem? (i := 863) (by decide +kernel)
  | 5, _ => List.mem_of_getElem? (i := 865) (by decide +kernel)
  | 6, _ => List.mem_of_getElem? (i := 867) (by decide +kernel)
  | 7, _ => List.mem_of_getElem? (i := 869) (by decide +kernel)
  | 8, _ => List.mem_of_getElem? (i := 871) (by decide +kernel)
  | 9, _ => List.mem_of_getElem? (i := 873) (by decide +kernel)
  | 10, _ => List.mem_of_getElem? (i := 875) (by decide +kernel)
  | 11, _ => List.mem_of_getElem? (i := 877) (by decide +kernel)
  | 12, _ => List.mem_of_getElem? (i := 879) (by decide +kernel)
  | 13, _ => List.mem_of_getElem? (i := 881) (by decide +kernel)
  | 14, _ => List.mem_of_getElem? (i := 883) (by decide +kernel)
  | 15, _ => List.mem_of_getElem? (i := 885) (by decide +kernel)
  | 16, _ => List.mem_of_getElem? (i := 887) (by decide +kernel)
  | 17, _ => List.mem_of_getElem? (i := 889) (by decide +kernel)
  | 18, _ => List.mem_of_getElem? (i := 891) (by decide +kernel)
  | 19, _ => List.mem_of_getElem? (i := 893) (by decide +kernel)
  | 20, _ => List.mem_of_getElem? (i := 895) (by decide +kernel)
  | 21, _ => List.mem_of_getElem? (i := 897) (by decide +kernel)
  | 22, _ => List.mem_of_getElem? (i := 899) (by decide +kernel)
  | 23, _ => List.mem_of_getElem? (i := 901) (by decide +kernel)
  | 24, _ => List.mem_of_getElem? (i := 903) (by decide +kernel)
  | 25, _ => List.mem_of_getElem? (i := 905) (by decide +kernel)
  | 26, _ => List.mem_of_getElem? (i := 907) (by decide +kernel)
  | 27, _ => List.mem_of_getElem? (i := 909) (by decide +kernel)
  | 28, _ => List.mem_of_getElem? (i := 911) (by decide +kernel)
  | 29, _ => List.mem_of_getElem? (i := 913) (by decide +kernel)
  | 30, _ => List.mem_of_getElem? (i := 915) (by decide +kernel)
  | 31, _ => List.mem_of_getElem? (i := 917) (by decide +kernel)
  | 32, _ => List.mem_of_getElem? (i := 919) (by decide +kernel)
  | 33, _ => List.mem_of_getElem? (i := 921) (by decide +kernel)
  | 34, _ => List.mem_of_getElem? (i := 923) (by decide +kernel)
  | 35, _ => List.mem_of_getElem? (i := 925) (by decide +kernel)
  | 36, _ => List.mem_of_getElem? (i := 927) (by decide +kernel)
  | k + 37, h => absurd h (by omega)
theorem layg8 : ∀ k, k < 37 → goodWord (u_lay RX8 TX8 k) = true := by decide +kernel
theorem inX0 : ∀ w ∈ u_ws RX0 TX0 3, w ∈ TB := by
  intro w hw
  refine List.mem_filter.mpr ?_
  obtain ⟨k, hk, rfl⟩ := List.mem_map.mp hw
  have hk := List.mem_range.mp hk
  exact ⟨lay0 k hk, layg0 k hk⟩
theorem inX1 : ∀ w ∈ u_ws RX1 TX1 7, w ∈ TB := by
  intro w hw
  refine List.mem_filter.mpr ?_
  obtain ⟨k, hk, rfl⟩ := List.mem_map.mp hw
  have hk := List.mem_range.mp hk
  exact ⟨lay1 k hk, layg1 k hk⟩
theorem inX2 : ∀ w ∈ u_ws RX2 TX2 5, w ∈ TB := by
  intro w hw
  refine List.mem_filter.mpr ?_
  obtain ⟨k, hk, rfl⟩ := List.mem_map.mp hw
  have hk := List.mem_range.mp hk
  exact ⟨lay2 k hk, layg2 k hk⟩
theorem inX3 : ∀ w ∈ u_ws RX3 TX3 3, w ∈ TB := by
  intro w hw
  refine List.mem_filter.mpr ?_
  obtain ⟨k, hk, rfl⟩ := List.mem_map.mp hw
  have hk := List.mem_range.mp hk
  exact ⟨lay3 k hk, layg3 k hk⟩
theorem inX4 : ∀ w ∈ u_ws RX4 TX4 17, w ∈ TB := by
  intro w hw
  refine List.mem_filter.mpr ?_
  obtain ⟨k, hk, rfl⟩ := List.mem_map.mp hw
  have hk := List.mem_range.mp hk
  exact ⟨lay4 k hk, layg4 k hk⟩
theorem inX5 : ∀ w ∈ u_ws RX5 TX5 3, w ∈ TB := by
  intro w hw
  refine List.mem_filter.mpr ?_
  obtain ⟨k, hk, rfl⟩ := List.mem_map.mp hw
  have hk := List.mem_range.mp hk
  exact ⟨lay5 k hk, layg5 k hk⟩
theorem inX6 : ∀ w ∈ u_ws RX6 TX6 4, w ∈ TB := by
  intro w hw
  refine List.mem_filter.mpr ?_
  obtain ⟨k, hk, rfl⟩ := List.mem_map.mp hw
  have hk := List.mem_range.mp hk
  exact ⟨lay6 k hk, layg6 k hk⟩
theorem inX7 : ∀ w ∈ u_ws RX7 TX7 13, w ∈ TB := by
  intro w hw
  refine List.mem_filter.mpr ?_
  obtain ⟨k, hk, rfl⟩ := List.mem_map.mp hw
  have hk := List.mem_range.mp hk
  exact ⟨lay7 k hk, layg7 k hk⟩
theorem inX8 : ∀ w ∈ u_ws RX8 TX8 37, w ∈ TB := by
  intro w hw
  refine List.mem_filter.mpr ?_
  obtain ⟨k, hk, rfl⟩ := List.mem_map.mp hw
  have hk := List.mem_range.mp hk
  exact ⟨lay8 k hk, layg8 k hk⟩
end
section
/-! THE JUDGEMENT G and its rows: one a kind of instruction. -/
def wl (sp : Bool) (w : WC) (z : Sg) : va_W := (List.range (NN sp)).map (fun t => (w.2.1 t, entK w z t (kd sp t)))
theorem wl_at {sp : Bool} {w : WC} {z : Sg} {t : Nat} {K : Kd} (h : kd sp t = K) (hK : K.1 ≠ 9) : (wl sp w z)[t]? = some (w.2.1 t, entK w z t K) := by
  have hlt : t < NN sp := kd_lt (by rw [h]; exact hK)
  unfold wl
  rw [List.getElem?_map, List.getElem?_range hlt, ← h]
  rfl
theorem wl_set {sp : Bool} {w : WC} {z z' : Sg} {t : Nat} {E : va_E} (hE : entK w z' t (kd sp t) = E) (ho : ∀ j, j ≠ t → z'.1 j = z.1 j ∧ z'.2 j = z.2 j) : (wl sp w z).set t (w.2.1 t, E) = wl sp w z' := by
  apply List.ext_getElem?
  intro j
  rw [List.getElem?_set]
  by_cases hj : t = j
  · subst hj
    rw [if_pos rfl]
    by_cases hl : t < NN sp
    · have h1 : t < (wl sp w z).length := by simp [wl, hl]
      rw [if_pos h1]
      unfold wl
      rw [List.getElem?_map, List.getElem?_range hl, ← hE]
      rfl
    · have h1 : ¬ t < (wl sp w z).length := by simp [wl, hl]
      rw [if_neg h1]
      unfold wl
      rw [List.getElem?_eq_none (by simp; omega)]
  · rw [if_neg hj]
    unfold wl
    by_cases hl : j < NN sp
    · rw [List.getElem?_map, List.getElem?_map, List.getElem?_range hl]
      obtain ⟨h1, h2⟩ := ho j (fun q => hj q.symm)
      show some (_, entK w z j (kd sp j)) = some (_, entK w z' j (kd sp j))
      rw [entK_congr w z z' j _ h1 h2]
    · rw [List.getElem?_eq_none (by simp; omega), List.getElem?_eq_none (by simp; omega)]
def AW (sp : Bool) (w : WC) : Nat → Prop := fun q => ∃ t, t < NN sp ∧ q = w.2.1 t
def InjW (sp : Bool) (w : WC) : Prop := ∀ i j, i < NN sp → j < NN sp → w.2.1 i = w.2.1 j → i = j
def tysW (w : WC) : List (ClassId × FieldType) := [(w.2.2.1, .int), (w.2.2.2.1, .boolean), (w.2.2.2.2.1, .long), (w.2.2.2.2.2, .object "FoundVirtues$Sheet")]
theorem wl_D {sp : Bool} {w : WC} (h : InjW sp w) (z : Sg) : va_D (AW sp w) (wl sp w z) := by
  have key : ∀ (k : Nat) (q : Nat × va_E), (wl sp w z)[k]? = some q → k < NN sp ∧ q.1 = w.2.1 k := by
    intro k q hk
    unfold wl at hk
    rw [List.getElem?_map] at hk
    by_cases hl : k < NN sp
    · rw [List.getElem?_range hl] at hk
      cases hk
      exact ⟨hl, rfl⟩
    · rw [List.getElem?_eq_none (by simp; omega)] at hk
      cases hk
  refine ⟨fun i j p q hi hj hpq => ?_, fun k q hk => ⟨k, key k q hk⟩⟩
  obtain ⟨h1, h2⟩ := key i p hi
  obtain ⟨h3, h4⟩ := key j q hj
  exact h i j h1 h3 (by rw [← h2, ← h4, hpq])
/-- the world's tables at a state -/
def KS (sp : Bool) (w : WC) (U : State) : Prop := va_K w.1 vwCl (tysW w) U ∧ InjW sp w ∧ ∀ q ∈ nestW, va_Nw q U
/-- the world at a state -/
def WS (sp : Bool) (w : WC) (z : Sg) (U : State) : Prop := va_P w.1 vwCl (wl sp w z) U.heap ∧ KS sp w U
theorem KS.call {sp : Bool} {w : WC} {U : State} {g : JFrame} {mk : MethodId} {a : Array Value} (h : KS sp w U) : KS sp w (U.calling g mk a) :=
  ⟨va_K.moved (u := U) (U := U.calling g mk a) (Vm.Alike.refl U.vm) h.1, h.2.1, fun q hq => va_tabs (u := U) (by
    revert q; unfold nestW; simp only [List.forall_mem_cons]; exact ⟨rfl, rfl, rfl, rfl, rfl, rfl, rfl, rfl, rfl, rfl, rfl, fun _ h => by cases h⟩) rfl (h.2.2 q hq)⟩
theorem KS.warm {sp : Bool} {w : WC} {s U : State} (hW : s.WarmedH U.vm) (h : KS sp w s) : KS sp w U := by
  refine ⟨va_K.moved hW.alike h.1, h.2.1, ?_⟩
  have h3 := h.2.2
  revert h3
  unfold nestW
  simp only [List.forall_mem_cons]
  rintro ⟨h1, h2, h3, h4, h5, h6, h7, h8, h9, h10, h11, -⟩
  refine ⟨?_, ?_, ?_, ?_, ?_, ?_, ?_, ?_, ?_, ?_, ?_, fun _ h => by cases h⟩ <;> first | exact va_Nw.warmF hW (by assumption) | exact va_Nw.warmM hW (by assumption)
-- values of the world: a reference is a cell's number
def tv (ad : Nat → Nat) (v : Value) : Value := match v with
  | .ref t => .ref (ad t)
  | x => x
theorem tv_cat (ad : Nat → Nat) (v : Value) : (tv ad v).category = v.category := by cases v <;> rfl
def nthO : List (Option Value) → Nat → Option Value
  | [], _ => none
  | a :: _, 0 => a
  | _ :: l, n + 1 => nthO l n
def kilL (a : Option Value) : Option Value := match a with
  | some (.long _) => none
  | some (.double _) => none
  | x => x
def setL : List (Option Value) → Nat → Value → List (Option Value)
  | [], _, _ => []
  | _ :: l, 0, v => some v :: l
  | a :: l, 1, v => kilL a :: setL l 0 v
  | a :: l, n + 2, v => a :: setL l (n + 1) v
def nonL : List (Option Value) → List (Option Value)
  | [] => []
  | _ :: l => none :: l
def setJ : List (Option Value) → Nat → Value → List (Option Value)
  | [], _, _ => []
  | _ :: l, 0, v => some v :: nonL l
  | a :: l, 1, v => kilL a :: setJ l 0 v
  | a :: l, n + 2, v => a :: setJ l (n + 1) v
def asc (ad : Nat → Nat) : Nat → List (Option Value) → List (Nat × Value)
  | _, [] => []
  | k, none :: l => asc ad (k + 1) l
  | k, some v :: l => (k, tv ad v) :: asc ad (k + 1) l
theorem asc_of (ad : Nat → Nat) : ∀ (l : List (Option Value)) (k : Nat) (q : Nat × Value), q ∈ asc ad k l → ∃ i v, nthO l i = some v ∧ q = (k + i, tv ad v)
  | [], _, q, h => by cases h
  | none :: l, k, q, h => by
    obtain ⟨i, v, h1, h2⟩ := asc_of ad l (k + 1) q h
    exact ⟨i + 1, v, h1, by rw [h2]; congr 1; omega⟩
  | some w :: l, k, q, h => by
    rcases List.mem_cons.mp h with h | h
    · exact ⟨0, w, rfl, h⟩
    · obtain ⟨i, v, h1, h2⟩ := asc_of ad l (k + 1) q h
      exact ⟨i + 1, v, h1, by rw [h2]; congr 1; omega⟩
theorem asc_in (ad : Nat → Nat) : ∀ (l : List (Option Value)) (k i : Nat) (v : Value), nthO l i = some v → (k + i, tv ad v) ∈ asc ad k l
  | [], _, i, v, h => by cases h
  | none :: l, k, 0, v, h => by cases h
  | none :: l, k, i + 1, v, h => by
    have := asc_in ad l (k + 1) i v h
    rw [show k + (i + 1) = k + 1 + i by omega]
    exact this
  | some w :: l, k, 0, v, h => by
    cases h
    exact List.mem_cons_self
  | some w :: l, k, i + 1, v, h => by
    have := asc_in ad l (k + 1) i v h
    rw [show k + (i + 1) = k + 1 + i by omega]
    exact List.mem_cons_of_mem _ this
theorem kilL_of {a : Option Value} {v : Value} (h : kilL a = some v) : a = some v ∧ ¬ v.category = 2 := by
  cases a with
  | none => cases h
  | some b => cases b <;> first | (cases h; done) | (cases h; exact ⟨rfl, by simp [Value.category]⟩)
theorem setL_of : ∀ (l : List (Option Value)) (i : Nat) (x : Value) (j : Nat) (v : Value), nthO (setL l i x) j = some v → (j = i ∧ v = x) ∨ (j ≠ i ∧ nthO l j = some v ∧ ¬ (j + 1 = i ∧ v.category = 2))
  | [], _, _, j, v, h => by cases h
  | a :: l, 0, x, 0, v, h => by cases h; exact Or.inl ⟨rfl, rfl⟩
  | a :: l, 0, x, j + 1, v, h => Or.inr ⟨by omega, h, by omega⟩
  | a :: l, 1, x, 0, v, h => by
    obtain ⟨h1, h2⟩ := kilL_of h
    exact Or.inr ⟨by omega, h1, fun q => h2 q.2⟩
  | a :: l, 1, x, j + 1, v, h => by
    rcases setL_of l 0 x j v h with ⟨h1, h2⟩ | ⟨h1, h2, h3⟩
    · exact Or.inl ⟨by omega, h2⟩
    · exact Or.inr ⟨by omega, h2, by omega⟩
  | a :: l, n + 2, x, 0, v, h => Or.inr ⟨by omega, h, by omega⟩
  | a :: l, n + 2, x, j + 1, v, h => by
    rcases setL_of l (n + 1) x j v h with ⟨h1, h2⟩ | ⟨h1, h2, h3⟩
    · exact Or.inl ⟨by omega, h2⟩
    · exact Or.inr ⟨by omega, h2, fun q => h3 ⟨by omega, q.2⟩⟩
theorem setJ_of : ∀ (l : List (Option Value)) (i : Nat) (x : Value) (j : Nat) (v : Value), nthO (setJ l i x) j = some v → (j = i ∧ v = x) ∨ (j ≠ i ∧ j ≠ i + 1 ∧ nthO l j = some v ∧ ¬ (j + 1 = i ∧ v.category = 2))
  | [], _, _, j, v, h => by cases h
  | a :: l, 0, x, 0, v, h => by cases h; exact Or.inl ⟨rfl, rfl⟩
  | [a], 0, x, j + 1, v, h => by cases h
  | a :: b :: l, 0, x, 1, v, h => by cases h
  | a :: b :: l, 0, x, j + 2, v, h => Or.inr ⟨by omega, by omega, h, by omega⟩
  | a :: l, 1, x, 0, v, h => by
    obtain ⟨h1, h2⟩ := kilL_of h
    exact Or.inr ⟨by omega, by omega, h1, fun q => h2 q.2⟩
  | a :: l, 1, x, j + 1, v, h => by
    rcases setJ_of l 0 x j v h with ⟨h1, h2⟩ | ⟨h1, h0, h2, h3⟩
    · exact Or.inl ⟨by omega, h2⟩
    · exact Or.inr ⟨by omega, by omega, h2, by omega⟩
  | a :: l, n + 2, x, 0, v, h => Or.inr ⟨by omega, by omega, h, by omega⟩
  | a :: l, n + 2, x, j + 1, v, h => by
    rcases setJ_of l (n + 1) x j v h with ⟨h1, h2⟩ | ⟨h1, h0, h2, h3⟩
    · exact Or.inl ⟨by omega, h2⟩
    · exact Or.inr ⟨by omega, by omega, h2, fun q => h3 ⟨by omega, q.2⟩⟩
theorem lvR_at {ad : Nat → Nat} {ls : Array Slot} {nL : Nat} {lv : List (Option Value)} (h : lv_has ls nL (asc ad 0 lv)) {i : Nat} {v : Value} (hi : nthO lv i = some v) : ls[i]? = some (.val (tv ad v)) := by
  have := h.2.2 _ (asc_in ad lv 0 i v hi)
  simpa using this
theorem lvR_set {ad : Nat → Nat} {ls : Array Slot} {nL i : Nat} {lv lv' : List (Option Value)} {v : Value} (h : lv_has ls nL ((i, tv ad v) :: (asc ad 0 lv).filter (fun q => !(q.1 == i) && !(q.1 + 1 == i && q.2.category == 2)))) (e : setL lv i v = lv') : lv_has ls nL (asc ad 0 lv') := by
  refine ⟨h.1, h.2.1, fun q hq => h.2.2 q ?_⟩
  obtain ⟨j, x, h1, h2⟩ := asc_of ad lv' 0 q hq
  rw [← e] at h1
  rcases setL_of lv i v j x h1 with ⟨h3, h4⟩ | ⟨h3, h4, h5⟩
  · subst h3; subst h4
    rw [h2]
    simp
  · refine List.mem_cons_of_mem _ (List.mem_filter.mpr ⟨by rw [h2]; exact asc_in ad lv 0 j x h4, ?_⟩)
    rw [h2]
    simp only [Nat.zero_add, tv_cat]
    by_cases h6 : j + 1 = i
    · have : ¬ x.category = 2 := fun q => h5 ⟨h6, q⟩
      simp [h3, this]
    · simp [h3, h6]
theorem lvR_setJ {ad : Nat → Nat} {ls : Array Slot} {nL i : Nat} {lv lv' : List (Option Value)} {v : Value} (h : lv_has ls nL ((i, tv ad v) :: (asc ad 0 lv).filter (fun q => !(q.1 == i) && (!(q.1 == i + 1) && !(q.1 + 1 == i && q.2.category == 2))))) (e : setJ lv i v = lv') : lv_has ls nL (asc ad 0 lv') := by
  refine ⟨h.1, h.2.1, fun q hq => h.2.2 q ?_⟩
  obtain ⟨j, x, h1, h2⟩ := asc_of ad lv' 0 q hq
  rw [← e] at h1
  rcases setJ_of lv i v j x h1 with ⟨h3, h4⟩ | ⟨h3, h0, h4, h5⟩
  · subst h3; subst h4
    rw [h2]
    simp
  · refine List.mem_cons_of_mem _ (List.mem_filter.mpr ⟨by rw [h2]; exact asc_in ad lv 0 j x h4, ?_⟩)
    rw [h2]
    simp only [Nat.zero_add, tv_cat]
    by_cases h6 : j + 1 = i
    · have : ¬ x.category = 2 := fun q => h5 ⟨h6, q⟩
      simp [h3, h0, this]
    · simp [h3, h0, h6]
def maskL : List Bool → List (Option Value) → List (Option Value)
  | true :: b, a :: l => a :: maskL b l
  | false :: b, _ :: l => none :: maskL b l
  | _, _ => []
theorem maskL_of : ∀ (b : List Bool) (l : List (Option Value)) (i : Nat) (v : Value), nthO (maskL b l) i = some v → nthO l i = some v
  | [], _, _, _, h => by simp [maskL, nthO] at h
  | true :: b, [], _, _, h => by simp [maskL, nthO] at h
  | false :: b, [], _, _, h => by simp [maskL, nthO] at h
  | true :: b, a :: l, 0, v, h => h
  | true :: b, a :: l, i + 1, v, h => maskL_of b l i v h
  | false :: b, a :: l, 0, v, h => by cases h
  | false :: b, a :: l, i + 1, v, h => maskL_of b l i v h
theorem lvR_mask {ad : Nat → Nat} {ls : Array Slot} {nL : Nat} {lv lv' : List (Option Value)} (b : List Bool) (h : lv_has ls nL (asc ad 0 lv)) (e : maskL b lv = lv') : lv_has ls nL (asc ad 0 lv') := by
  refine ⟨h.1, h.2.1, fun q hq => h.2.2 q ?_⟩
  obtain ⟨j, x, h1, h2⟩ := asc_of ad lv' 0 q hq
  rw [← e] at h1
  rw [h2]
  exact asc_in ad lv 0 j x (maskL_of b lv j x h1)
/-- a method: its class, name, code, locals, answer, depth of calls -/
abbrev MI : Type := String × MethodName × ByteArray × Nat × Option FieldType × Nat
/-- where the machine is -/
abbrev MC : Type := (Program × Launch × Env × State) × (MethodId × Array Value × List Frame × Method × Code) × WC
def rmv (d : Nat) : Room := { frames := d, cells := 0, slots := 0, locals := 38 * d }
def QZ (sp : Bool) (w : WC) (Z : Option Value × Sg) : Array Value → State → Outcome → State → Prop := fun _ st oc t => oc = .returned (Z.1.map (tv w.2.1)) ∧ WS sp w Z.2 t ∧ va_F (AW sp w) st t
def OK (sp : Bool) (Y : MI) (M : MC) : Prop :=
  M.1.1.tables.exec = Jvm.exec ∧ M.2.1.2.2.2.2.code = Y.2.2.1 ∧ M.2.1.2.2.2.2.maxLocals = Y.2.2.2.1 ∧ M.1.2.2.2.vm.findClass Y.1 = some M.2.1.1.cls ∧ (∀ q ∈ TB, q.before M.2.1.2.1 M.1.2.2.2 = true) ∧ M.2.1.2.2.2.1.sig.returnType = Y.2.2.2.2.1 ∧ M.2.1.2.2.2.1.locks = false ∧ KS sp M.2.2 M.1.2.2.2
def G (sp : Bool) (Y : MI) (M : MC) (Z : Option Value × Sg) (pc : Nat) (lv : List (Option Value)) (st : List Value) (z : Sg) : Prop :=
  ∀ (H : Heap) (locs : List Loc) (ls : Array Slot), va_P M.2.2.1 vwCl (wl sp M.2.2 z) H → va_S (AW sp M.2.2) M.1.2.2.2.heap H locs → lv_has ls Y.2.2.2.1 (asc M.2.2.2.1 0 lv) →
    W M.1.1 M.1.2.1 M.1.2.2.1 (rmv Y.2.2.2.2.2) M.1.2.2.2 M.2.1.1 M.2.1.2.1 M.2.1.2.2.1 M.2.1.2.2.2.1 M.2.1.2.2.2.2 H locs 0 0 (MQ M.2.1.2.2.1 (QZ sp M.2.2 Z) M.2.1.2.1 M.1.2.2.2 0 0 (AW sp M.2.2)) (F0 M.2.1.1 pc ls (st.map (tv M.2.2.2.1)))
/-- a method's contract -/
def CT (sp : Bool) (l : Launch) (Y : MI) (w : WC) (av : List Value) (z : Sg) (r : Option Value) (z' : Sg) : Prop :=
  Met l Y.2.1 (.code Y.2.1 Y.2.2.1 Y.2.2.2.1 Y.2.2.2.2.1 :: TB) (rmv Y.2.2.2.2.2) (va_Pc (av.map (tv w.2.1)) (WS sp w z)) (QZ sp w (r, z')) 0 0 (AW sp w)
/-- the locals at the entry -/
def entL : List Value → List (Option Value)
  | [] => []
  | .long x :: l => some (.long x) :: none :: entL l
  | .double x :: l => some (.double x) :: none :: entL l
  | v :: l => some v :: entL l
theorem entL_ok (ad : Nat → Nat) : ∀ (av : List Value) (k : Nat), asc ad k (entL av) = lv_args k (av.map (tv ad))
  | [], _ => rfl
  | v :: l, k => by
    cases v <;> simp [entL, asc, lv_args, tv, Value.category, entL_ok ad l, Nat.add_assoc]
def padL (lv : List (Option Value)) : Nat → List (Option Value)
  | 0 => lv
  | n + 1 => padL (lv ++ [none]) n
theorem asc_app (ad : Nat → Nat) : ∀ (l : List (Option Value)) (k : Nat), asc ad k (l ++ [none]) = asc ad k l
  | [], _ => rfl
  | none :: l, k => by simp [asc, asc_app ad l]
  | some v :: l, k => by simp [asc, asc_app ad l]
theorem asc_pad (ad : Nat → Nat) (k : Nat) : ∀ (n : Nat) (l : List (Option Value)), asc ad k (padL l n) = asc ad k l
  | 0, _ => rfl
  | n + 1, l => by rw [padL, asc_pad ad k n, asc_app]
theorem lg_sl_len (ad : Nat → Nat) (av : List Value) : (lg_sl (av.map (tv ad))).length = (lg_sl av).length := by
  induction av with
  | nil => rfl
  | cons v l ih => cases v <;> simp_all [lg_sl, tv, Value.category]
theorem ct_of {sp : Bool} {l : Launch} {Y : MI} {w : WC} {av : List Value} {z : Sg} {r : Option Value} {z' : Sg} (n : Nat) {lv : List (Option Value)} (hn : plainName Y.2.1.cls = true) (ho : Y.1 = Y.2.1.cls) (hl : (lg_sl av).length ≤ Y.2.2.2.1) (he : padL (entL av) n = lv)
    (body : ∀ M : MC, M.1.2.1 = l → M.2.2 = w → OK sp Y M → G sp Y M (r, z') 0 lv [] z) : CT sp l Y w av z r z' := by
  refine Met.ofW (cc := Y.2.2.1) (maxL := Y.2.2.2.1) (ret := Y.2.2.2.2.1) hn rfl ?_
  intro p e s m args below meth c s₁ B hml hv
  obtain ⟨rfl, hP, hK⟩ := hv
  have hts := atoms_spec (ws := Cond.code Y.2.1 Y.2.2.1 Y.2.2.2.1 Y.2.2.2.2.1 :: TB) B.pre
  have hown : s.vm.findClass Y.1 = some m.cls := by rw [ho]; exact findClass_of_methodNamed B.named
  have h0 := lv_entry (av.map (tv w.2.1)) (n := Y.2.2.2.1) (by rw [lg_sl_len]; exact hl)
  rw [lg_entry_eq]
  rw [← entL_ok, ← asc_pad w.2.1 0 n, he] at h0
  exact body ((p, l, e, s), (m, (av.map (tv w.2.1)).toArray, below, meth, c), w) rfl rfl ⟨B.exec, B.bytes, hml, hown, fun q hq => hts q (List.mem_cons_of_mem _ hq), B.returns, B.notSynchronized, hK⟩ s.heap [] _ hP va_S.rf h0
end
section
/-! ROWS OF G. Printed by wip/whole/gen/mkrows.py. -/
section Rows
variable {sp : Bool} {Y : MI} {M : MC} {Z : Option Value × Sg} {pc : Nat} {lv : List (Option Value)} {st : List Value} {z : Sg}
theorem g_iconst (hE : OK sp Y M) {n : Int} (v : Int32) (hdg : decode Y.2.2.1 pc = .ok (.iconst n, 1)) (hv : Int32.ofInt n = v) (k : G sp Y M Z (pc + 1) lv (.int v :: st) z) : G sp Y M Z pc lv st z := fun H locs ls hP hS hl => lv_iconst hE.1 hE.2.1 hdg hv (k H locs ls hP hS hl)
theorem g_bipush (hE : OK sp Y M) {n : Int} (v : Int32) (hdg : decode Y.2.2.1 pc = .ok (.bipush n, 2)) (hv : (Int8.ofInt n).toInt32 = v) (k : G sp Y M Z (pc + 2) lv (.int v :: st) z) : G sp Y M Z pc lv st z := fun H locs ls hP hS hl => lv_bipush hE.1 hE.2.1 hdg hv (k H locs ls hP hS hl)
theorem g_sipush (hE : OK sp Y M) {n : Int} (v : Int32) (hdg : decode Y.2.2.1 pc = .ok (.sipush n, 3)) (hv : (Int16.ofInt n).toInt32 = v) (k : G sp Y M Z (pc + 3) lv (.int v :: st) z) : G sp Y M Z pc lv st z := fun H locs ls hP hS hl => lv_sipush hE.1 hE.2.1 hdg hv (k H locs ls hP hS hl)
theorem g_lconst (hE : OK sp Y M) {n : Fin 2} (v : Int64) (hdg : decode Y.2.2.1 pc = .ok (.lconst n, 1)) (hv : Int64.ofNat (n : Nat) = v) (k : G sp Y M Z (pc + 1) lv (.long v :: st) z) : G sp Y M Z pc lv st z := fun H locs ls hP hS hl => lv_lconst hE.1 hE.2.1 hdg hv (k H locs ls hP hS hl)
theorem g_ldc (hE : OK sp Y M) {i : Nat} {v : Int32} (hw : Cond.constant Y.1 i v ∈ TB) (hdg : decode Y.2.2.1 pc = .ok (.ldc i, 2)) (k : G sp Y M Z (pc + 2) lv (.int v :: st) z) : G sp Y M Z pc lv st z := fun H locs ls hP hS hl => lv_ldc hE.1 hE.2.1 hE.2.2.2.1 (hE.2.2.2.2.1 _ hw) hdg (k H locs ls hP hS hl)
theorem g_ldcw (hE : OK sp Y M) {i : Nat} {v : Int32} (hw : Cond.constant Y.1 i v ∈ TB) (hdg : decode Y.2.2.1 pc = .ok (.ldc_w i, 3)) (k : G sp Y M Z (pc + 3) lv (.int v :: st) z) : G sp Y M Z pc lv st z := fun H locs ls hP hS hl => lv_ldcw hE.1 hE.2.1 hE.2.2.2.1 (hE.2.2.2.2.1 _ hw) hdg (k H locs ls hP hS hl)
theorem g_ldc2 (hE : OK sp Y M) {i : Nat} {v : Int64} (hw : Cond.constantLong Y.1 i v ∈ TB) (hdg : decode Y.2.2.1 pc = .ok (.ldc2_w i, 3)) (k : G sp Y M Z (pc + 3) lv (.long v :: st) z) : G sp Y M Z pc lv st z := fun H locs ls hP hS hl => lv_ldc2 hE.1 hE.2.1 hE.2.2.2.1 (hE.2.2.2.2.1 _ hw) hdg (k H locs ls hP hS hl)
theorem g_iload_n (hE : OK sp Y M) {k : Fin 4} {x : Int32} (hdg : decode Y.2.2.1 pc = .ok (.iload_n k, 1)) (hi : nthO lv k = some (.int x)) (kk : G sp Y M Z (pc + 1) lv (.int x :: st) z) : G sp Y M Z pc lv st z := fun H locs ls hP hS hl => lv_iload_n hE.1 hE.2.1 hdg rfl (lvR_at hl hi) (kk H locs ls hP hS hl)
theorem g_iload (hE : OK sp Y M) {i : Nat} {x : Int32} (hdg : decode Y.2.2.1 pc = .ok (.iload i, 2)) (hi : nthO lv i = some (.int x)) (kk : G sp Y M Z (pc + 2) lv (.int x :: st) z) : G sp Y M Z pc lv st z := fun H locs ls hP hS hl => lv_iload hE.1 hE.2.1 hdg (lvR_at hl hi) (kk H locs ls hP hS hl)
theorem g_istore_n (lv' : List (Option Value)) (hE : OK sp Y M) {k : Fin 4} {x : Int32} (hdg : decode Y.2.2.1 pc = .ok (.istore_n k, 1)) (hn : (k : Nat) < Y.2.2.2.1) (e : setL lv k (.int x) = lv') (kk : G sp Y M Z (pc + 1) lv' st z) : G sp Y M Z pc lv (.int x :: st) z := fun H locs ls hP hS hl => lv_istore_n hE.1 hE.2.1 hdg rfl hl hn rfl (fun ls' hl' => kk H locs ls' hP hS (lvR_set (v := .int x) hl' e))
theorem g_istore (lv' : List (Option Value)) (hE : OK sp Y M) {i : Nat} {x : Int32} (hdg : decode Y.2.2.1 pc = .ok (.istore i, 2)) (hn : i < Y.2.2.2.1) (e : setL lv i (.int x) = lv') (kk : G sp Y M Z (pc + 2) lv' st z) : G sp Y M Z pc lv (.int x :: st) z := fun H locs ls hP hS hl => lv_istore hE.1 hE.2.1 hdg hl hn rfl (fun ls' hl' => kk H locs ls' hP hS (lvR_set (v := .int x) hl' e))
theorem g_lload_n (hE : OK sp Y M) {k : Fin 4} {x : Int64} (hdg : decode Y.2.2.1 pc = .ok (.lload_n k, 1)) (hi : nthO lv k = some (.long x)) (kk : G sp Y M Z (pc + 1) lv (.long x :: st) z) : G sp Y M Z pc lv st z := fun H locs ls hP hS hl => lv_lload_n hE.1 hE.2.1 hdg rfl (lvR_at hl hi) (kk H locs ls hP hS hl)
theorem g_lload (hE : OK sp Y M) {i : Nat} {x : Int64} (hdg : decode Y.2.2.1 pc = .ok (.lload i, 2)) (hi : nthO lv i = some (.long x)) (kk : G sp Y M Z (pc + 2) lv (.long x :: st) z) : G sp Y M Z pc lv st z := fun H locs ls hP hS hl => lv_lload hE.1 hE.2.1 hdg (lvR_at hl hi) (kk H locs ls hP hS hl)
theorem g_lstore_n (lv' : List (Option Value)) (hE : OK sp Y M) {k : Fin 4} {x : Int64} (hdg : decode Y.2.2.1 pc = .ok (.lstore_n k, 1)) (hn : (k : Nat) + 1 < Y.2.2.2.1) (e : setJ lv k (.long x) = lv') (kk : G sp Y M Z (pc + 1) lv' st z) : G sp Y M Z pc lv (.long x :: st) z := fun H locs ls hP hS hl => lv_lstore_n hE.1 hE.2.1 hdg rfl hl hn rfl (fun ls' hl' => kk H locs ls' hP hS (lvR_setJ (v := .long x) hl' e))
theorem g_lstore (lv' : List (Option Value)) (hE : OK sp Y M) {i : Nat} {x : Int64} (hdg : decode Y.2.2.1 pc = .ok (.lstore i, 2)) (hn : i + 1 < Y.2.2.2.1) (e : setJ lv i (.long x) = lv') (kk : G sp Y M Z (pc + 2) lv' st z) : G sp Y M Z pc lv (.long x :: st) z := fun H locs ls hP hS hl => lv_lstore hE.1 hE.2.1 hdg hl hn rfl (fun ls' hl' => kk H locs ls' hP hS (lvR_setJ (v := .long x) hl' e))
theorem g_aload_n (hE : OK sp Y M) {k : Fin 4} {x : Nat} (hdg : decode Y.2.2.1 pc = .ok (.aload_n k, 1)) (hi : nthO lv k = some (.ref x)) (kk : G sp Y M Z (pc + 1) lv (.ref x :: st) z) : G sp Y M Z pc lv st z := fun H locs ls hP hS hl => lv_aload_n hE.1 hE.2.1 hdg rfl (lvR_at hl hi) (kk H locs ls hP hS hl)
theorem g_aload (hE : OK sp Y M) {i : Nat} {x : Nat} (hdg : decode Y.2.2.1 pc = .ok (.aload i, 2)) (hi : nthO lv i = some (.ref x)) (kk : G sp Y M Z (pc + 2) lv (.ref x :: st) z) : G sp Y M Z pc lv st z := fun H locs ls hP hS hl => lv_aload hE.1 hE.2.1 hdg (lvR_at hl hi) (kk H locs ls hP hS hl)
theorem g_astore_n (lv' : List (Option Value)) (hE : OK sp Y M) {k : Fin 4} {x : Nat} (hdg : decode Y.2.2.1 pc = .ok (.astore_n k, 1)) (hn : (k : Nat) < Y.2.2.2.1) (e : setL lv k (.ref x) = lv') (kk : G sp Y M Z (pc + 1) lv' st z) : G sp Y M Z pc lv (.ref x :: st) z := fun H locs ls hP hS hl => lv_astore_n hE.1 hE.2.1 hdg rfl hl hn rfl (fun ls' hl' => kk H locs ls' hP hS (lvR_set (v := .ref x) hl' e))
theorem g_astore (lv' : List (Option Value)) (hE : OK sp Y M) {i : Nat} {x : Nat} (hdg : decode Y.2.2.1 pc = .ok (.astore i, 2)) (hn : i < Y.2.2.2.1) (e : setL lv i (.ref x) = lv') (kk : G sp Y M Z (pc + 2) lv' st z) : G sp Y M Z pc lv (.ref x :: st) z := fun H locs ls hP hS hl => lv_astore hE.1 hE.2.1 hdg hl hn rfl (fun ls' hl' => kk H locs ls' hP hS (lvR_set (v := .ref x) hl' e))
theorem lv_iincP {p : Program} {l : Launch} {e : Env} {R : Room} {s : State} {m : MethodId} {args : Array Value} {below : List Frame} {meth : Method} {c : Code} {H : Heap} {locs : List Loc} {cells slots : Nat} {Q : State → Prop} {cc : ByteArray} {ls : Array Slot} {rest : List Value} (hexec : p.tables.exec = Jvm.exec) (hb : c.code = cc) {i nL : Nat} {n : Int} {x v : Int32} {l1 : List (Nat × Value)} (hdg : decode cc pc = .ok (.iinc i n, 3)) (h : lv_has ls nL l1) (hm : (i, Value.int x) ∈ l1) (hv : x + Int32.ofInt n = v) (hn : i < nL)
    (kk : ∀ ls' : Array Slot, lv_has ls' nL ((i, Value.int v) :: l1.filter (fun q => !(q.1 == i) && !(q.1 + 1 == i && q.2.category == 2))) → W p l e R s m args below meth c H locs cells slots Q (F0 m (pc + 3) ls' rest)) : W p l e R s m args below meth c H locs cells slots Q (F0 m pc ls rest) := by
  obtain ⟨k, hk⟩ := List.getElem?_of_mem hm
  exact lv_iinc hexec hb hdg h hk hv hn rfl kk
theorem g_iinc (lv' : List (Option Value)) (hE : OK sp Y M) {i : Nat} {n : Int} {x : Int32} (v : Int32) (hdg : decode Y.2.2.1 pc = .ok (.iinc i n, 3)) (hi : nthO lv i = some (.int x)) (hv : x + Int32.ofInt n = v) (hn : i < Y.2.2.2.1) (e : setL lv i (.int v) = lv') (kk : G sp Y M Z (pc + 3) lv' st z) : G sp Y M Z pc lv st z := fun H locs ls hP hS hl => lv_iincP hE.1 hE.2.1 hdg hl (by have := asc_in M.2.2.2.1 lv 0 i _ hi; rw [Nat.zero_add] at this; exact this) hv hn (fun ls' hl' => kk H locs ls' hP hS (lvR_set (v := .int v) hl' e))
theorem g_iadd (hE : OK sp Y M) {x y : Int32} (hdg : decode Y.2.2.1 pc = .ok (.iadd, 1)) (k : G sp Y M Z (pc + 1) lv (.int (x + y) :: st) z) : G sp Y M Z pc lv (.int y :: .int x :: st) z := fun H locs ls hP hS hl => lv_iadd hE.1 hE.2.1 hdg (k H locs ls hP hS hl)
theorem g_isub (hE : OK sp Y M) {x y : Int32} (hdg : decode Y.2.2.1 pc = .ok (.isub, 1)) (k : G sp Y M Z (pc + 1) lv (.int (x - y) :: st) z) : G sp Y M Z pc lv (.int y :: .int x :: st) z := fun H locs ls hP hS hl => lv_isub hE.1 hE.2.1 hdg (k H locs ls hP hS hl)
theorem g_imul (hE : OK sp Y M) {x y : Int32} (hdg : decode Y.2.2.1 pc = .ok (.imul, 1)) (k : G sp Y M Z (pc + 1) lv (.int (x * y) :: st) z) : G sp Y M Z pc lv (.int y :: .int x :: st) z := fun H locs ls hP hS hl => lv_imul hE.1 hE.2.1 hdg (k H locs ls hP hS hl)
theorem g_iand (hE : OK sp Y M) {x y : Int32} (hdg : decode Y.2.2.1 pc = .ok (.iand, 1)) (k : G sp Y M Z (pc + 1) lv (.int (x &&& y) :: st) z) : G sp Y M Z pc lv (.int y :: .int x :: st) z := fun H locs ls hP hS hl => lv_iand hE.1 hE.2.1 hdg (k H locs ls hP hS hl)
theorem g_ior (hE : OK sp Y M) {x y : Int32} (hdg : decode Y.2.2.1 pc = .ok (.ior, 1)) (k : G sp Y M Z (pc + 1) lv (.int (x ||| y) :: st) z) : G sp Y M Z pc lv (.int y :: .int x :: st) z := fun H locs ls hP hS hl => lv_ior hE.1 hE.2.1 hdg (k H locs ls hP hS hl)
theorem g_ixor (hE : OK sp Y M) {x y : Int32} (hdg : decode Y.2.2.1 pc = .ok (.ixor, 1)) (k : G sp Y M Z (pc + 1) lv (.int (x ^^^ y) :: st) z) : G sp Y M Z pc lv (.int y :: .int x :: st) z := fun H locs ls hP hS hl => lv_ixor hE.1 hE.2.1 hdg (k H locs ls hP hS hl)
theorem g_ishl (hE : OK sp Y M) {x y : Int32} (hdg : decode Y.2.2.1 pc = .ok (.ishl, 1)) (k : G sp Y M Z (pc + 1) lv (.int (x <<< (y &&& 31)) :: st) z) : G sp Y M Z pc lv (.int y :: .int x :: st) z := fun H locs ls hP hS hl => lv_ishl hE.1 hE.2.1 hdg (k H locs ls hP hS hl)
theorem g_ishr (hE : OK sp Y M) {x y : Int32} (hdg : decode Y.2.2.1 pc = .ok (.ishr, 1)) (k : G sp Y M Z (pc + 1) lv (.int (x >>> (y &&& 31)) :: st) z) : G sp Y M Z pc lv (.int y :: .int x :: st) z := fun H locs ls hP hS hl => lv_ishr hE.1 hE.2.1 hdg (k H locs ls hP hS hl)
theorem g_iushr (hE : OK sp Y M) {x y : Int32} (hdg : decode Y.2.2.1 pc = .ok (.iushr, 1)) (k : G sp Y M Z (pc + 1) lv (.int ((x.toUInt32 >>> (y.toUInt32 &&& Int32.toUInt32 31)).toInt32) :: st) z) : G sp Y M Z pc lv (.int y :: .int x :: st) z := fun H locs ls hP hS hl => lv_iushr hE.1 hE.2.1 hdg rfl (k H locs ls hP hS hl)
theorem g_idiv (hE : OK sp Y M) {x y : Int32} (hdg : decode Y.2.2.1 pc = .ok (.idiv, 1)) (hne : ¬ y = 0) (k : G sp Y M Z (pc + 1) lv (.int (x / y) :: st) z) : G sp Y M Z pc lv (.int y :: .int x :: st) z := fun H locs ls hP hS hl => lv_idiv hE.1 hE.2.1 hdg hne (k H locs ls hP hS hl)
theorem g_irem (hE : OK sp Y M) {x y : Int32} (hdg : decode Y.2.2.1 pc = .ok (.irem, 1)) (hne : ¬ y = 0) (k : G sp Y M Z (pc + 1) lv (.int (x - x / y * y) :: st) z) : G sp Y M Z pc lv (.int y :: .int x :: st) z := fun H locs ls hP hS hl => lv_irem hE.1 hE.2.1 hdg hne (k H locs ls hP hS hl)
theorem g_ladd (hE : OK sp Y M) {x y : Int64} (hdg : decode Y.2.2.1 pc = .ok (.ladd, 1)) (k : G sp Y M Z (pc + 1) lv (.long (x + y) :: st) z) : G sp Y M Z pc lv (.long y :: .long x :: st) z := fun H locs ls hP hS hl => lv_ladd hE.1 hE.2.1 hdg (k H locs ls hP hS hl)
theorem g_lsub (hE : OK sp Y M) {x y : Int64} (hdg : decode Y.2.2.1 pc = .ok (.lsub, 1)) (k : G sp Y M Z (pc + 1) lv (.long (x - y) :: st) z) : G sp Y M Z pc lv (.long y :: .long x :: st) z := fun H locs ls hP hS hl => lv_lsub hE.1 hE.2.1 hdg (k H locs ls hP hS hl)
theorem g_lmul (hE : OK sp Y M) {x y : Int64} (hdg : decode Y.2.2.1 pc = .ok (.lmul, 1)) (k : G sp Y M Z (pc + 1) lv (.long (x * y) :: st) z) : G sp Y M Z pc lv (.long y :: .long x :: st) z := fun H locs ls hP hS hl => lv_lmul hE.1 hE.2.1 hdg (k H locs ls hP hS hl)
theorem g_land (hE : OK sp Y M) {x y : Int64} (hdg : decode Y.2.2.1 pc = .ok (.land, 1)) (k : G sp Y M Z (pc + 1) lv (.long (x &&& y) :: st) z) : G sp Y M Z pc lv (.long y :: .long x :: st) z := fun H locs ls hP hS hl => lv_land hE.1 hE.2.1 hdg (k H locs ls hP hS hl)
theorem g_lor (hE : OK sp Y M) {x y : Int64} (hdg : decode Y.2.2.1 pc = .ok (.lor, 1)) (k : G sp Y M Z (pc + 1) lv (.long (x ||| y) :: st) z) : G sp Y M Z pc lv (.long y :: .long x :: st) z := fun H locs ls hP hS hl => lv_lor hE.1 hE.2.1 hdg (k H locs ls hP hS hl)
theorem g_lxor (hE : OK sp Y M) {x y : Int64} (hdg : decode Y.2.2.1 pc = .ok (.lxor, 1)) (k : G sp Y M Z (pc + 1) lv (.long (x ^^^ y) :: st) z) : G sp Y M Z pc lv (.long y :: .long x :: st) z := fun H locs ls hP hS hl => lv_lxor hE.1 hE.2.1 hdg (k H locs ls hP hS hl)
theorem g_ldiv (hE : OK sp Y M) {x y : Int64} (hdg : decode Y.2.2.1 pc = .ok (.ldiv, 1)) (hne : ¬ y = 0) (k : G sp Y M Z (pc + 1) lv (.long (x / y) :: st) z) : G sp Y M Z pc lv (.long y :: .long x :: st) z := fun H locs ls hP hS hl => lv_ldiv hE.1 hE.2.1 hdg hne (k H locs ls hP hS hl)
theorem g_lrem (hE : OK sp Y M) {x y : Int64} (hdg : decode Y.2.2.1 pc = .ok (.lrem, 1)) (hne : ¬ y = 0) (k : G sp Y M Z (pc + 1) lv (.long (x - x / y * y) :: st) z) : G sp Y M Z pc lv (.long y :: .long x :: st) z := fun H locs ls hP hS hl => lv_lrem hE.1 hE.2.1 hdg hne (k H locs ls hP hS hl)
theorem g_lshl (hE : OK sp Y M) {x : Int64} {y : Int32} (hdg : decode Y.2.2.1 pc = .ok (.lshl, 1)) (k : G sp Y M Z (pc + 1) lv (.long (x <<< (y.toInt64 &&& 63)) :: st) z) : G sp Y M Z pc lv (.int y :: .long x :: st) z := fun H locs ls hP hS hl => lv_lshl hE.1 hE.2.1 hdg rfl (k H locs ls hP hS hl)
theorem g_lshr (hE : OK sp Y M) {x : Int64} {y : Int32} (hdg : decode Y.2.2.1 pc = .ok (.lshr, 1)) (k : G sp Y M Z (pc + 1) lv (.long (x >>> (y.toInt64 &&& 63)) :: st) z) : G sp Y M Z pc lv (.int y :: .long x :: st) z := fun H locs ls hP hS hl => lv_lshr hE.1 hE.2.1 hdg rfl (k H locs ls hP hS hl)
theorem g_lcmp (hE : OK sp Y M) {x y : Int64} (hdg : decode Y.2.2.1 pc = .ok (.lcmp, 1)) (k : G sp Y M Z (pc + 1) lv (.int (lg_cmp x y) :: st) z) : G sp Y M Z pc lv (.long y :: .long x :: st) z := fun H locs ls hP hS hl => W.lcmp hE.1 hE.2.1 hdg (k H locs ls hP hS hl)
theorem g_i2l (hE : OK sp Y M) {x : Int32} (hdg : decode Y.2.2.1 pc = .ok (.i2l, 1)) (k : G sp Y M Z (pc + 1) lv (.long x.toInt64 :: st) z) : G sp Y M Z pc lv (.int x :: st) z := fun H locs ls hP hS hl => lv_i2l hE.1 hE.2.1 hdg rfl (k H locs ls hP hS hl)
theorem g_l2i (hE : OK sp Y M) {x : Int64} (hdg : decode Y.2.2.1 pc = .ok (.l2i, 1)) (k : G sp Y M Z (pc + 1) lv (.int x.toInt32 :: st) z) : G sp Y M Z pc lv (.long x :: st) z := fun H locs ls hP hS hl => lv_l2i hE.1 hE.2.1 hdg rfl (k H locs ls hP hS hl)
theorem g_i2b (hE : OK sp Y M) {x : Int32} (hdg : decode Y.2.2.1 pc = .ok (.i2b, 1)) (k : G sp Y M Z (pc + 1) lv (.int x.toInt8.toInt32 :: st) z) : G sp Y M Z pc lv (.int x :: st) z := fun H locs ls hP hS hl => lv_i2b hE.1 hE.2.1 hdg rfl (k H locs ls hP hS hl)
theorem g_i2s (hE : OK sp Y M) {x : Int32} (hdg : decode Y.2.2.1 pc = .ok (.i2s, 1)) (k : G sp Y M Z (pc + 1) lv (.int x.toInt16.toInt32 :: st) z) : G sp Y M Z pc lv (.int x :: st) z := fun H locs ls hP hS hl => lv_i2s hE.1 hE.2.1 hdg rfl (k H locs ls hP hS hl)
theorem g_dup (hE : OK sp Y M) {a : Value} (hdg : decode Y.2.2.1 pc = .ok (.dup, 1)) (ha : a.category = 1) (k : G sp Y M Z (pc + 1) lv (a :: a :: st) z) : G sp Y M Z pc lv (a :: st) z := fun H locs ls hP hS hl => lv_dup hE.1 hE.2.1 hdg (by rw [tv_cat]; exact ha) (k H locs ls hP hS hl)
theorem g_dup2 (hE : OK sp Y M) {a b : Value} (hdg : decode Y.2.2.1 pc = .ok (.dup2, 1)) (ha : a.category = 1) (hb : b.category = 1) (k : G sp Y M Z (pc + 1) lv (a :: b :: a :: b :: st) z) : G sp Y M Z pc lv (a :: b :: st) z := fun H locs ls hP hS hl => lv_dup2_11 hE.1 hE.2.1 hdg (by rw [tv_cat]; exact ha) (by rw [tv_cat]; exact hb) (k H locs ls hP hS hl)
theorem g_if_eq (tgt : Nat) (hE : OK sp Y M) {x : Int32} {off : Int} (hdg : decode Y.2.2.1 pc = .ok (.ifCond .eq off, 3)) (ht : (pc : Int) + off = (tgt : Int)) (kt : x = 0 → G sp Y M Z tgt lv st z) (kf : ¬ x = 0 → G sp Y M Z (pc + 3) lv st z) : G sp Y M Z pc lv (.int x :: st) z := fun H locs ls hP hS hl => lv_if_eq hE.1 hE.2.1 hdg ht (fun h => kt h H locs ls hP hS hl) (fun h => kf h H locs ls hP hS hl)
theorem g_icmp_eq (tgt : Nat) (hE : OK sp Y M) {x y : Int32} {off : Int} (hdg : decode Y.2.2.1 pc = .ok (.if_icmp .eq off, 3)) (ht : (pc : Int) + off = (tgt : Int)) (kt : x = y → G sp Y M Z tgt lv st z) (kf : ¬ x = y → G sp Y M Z (pc + 3) lv st z) : G sp Y M Z pc lv (.int y :: .int x :: st) z := fun H locs ls hP hS hl => lv_icmp_eq hE.1 hE.2.1 hdg ht (fun h => kt h H locs ls hP hS hl) (fun h => kf h H locs ls hP hS hl)
theorem g_if_ne (tgt : Nat) (hE : OK sp Y M) {x : Int32} {off : Int} (hdg : decode Y.2.2.1 pc = .ok (.ifCond .ne off, 3)) (ht : (pc : Int) + off = (tgt : Int)) (kt : ¬ x = 0 → G sp Y M Z tgt lv st z) (kf : x = 0 → G sp Y M Z (pc + 3) lv st z) : G sp Y M Z pc lv (.int x :: st) z := fun H locs ls hP hS hl => lv_if_ne hE.1 hE.2.1 hdg ht (fun h => kt h H locs ls hP hS hl) (fun h => kf h H locs ls hP hS hl)
theorem g_icmp_ne (tgt : Nat) (hE : OK sp Y M) {x y : Int32} {off : Int} (hdg : decode Y.2.2.1 pc = .ok (.if_icmp .ne off, 3)) (ht : (pc : Int) + off = (tgt : Int)) (kt : ¬ x = y → G sp Y M Z tgt lv st z) (kf : x = y → G sp Y M Z (pc + 3) lv st z) : G sp Y M Z pc lv (.int y :: .int x :: st) z := fun H locs ls hP hS hl => lv_icmp_ne hE.1 hE.2.1 hdg ht (fun h => kt h H locs ls hP hS hl) (fun h => kf h H locs ls hP hS hl)
theorem g_if_lt (tgt : Nat) (hE : OK sp Y M) {x : Int32} {off : Int} (hdg : decode Y.2.2.1 pc = .ok (.ifCond .lt off, 3)) (ht : (pc : Int) + off = (tgt : Int)) (kt : x < 0 → G sp Y M Z tgt lv st z) (kf : ¬ x < 0 → G sp Y M Z (pc + 3) lv st z) : G sp Y M Z pc lv (.int x :: st) z := fun H locs ls hP hS hl => lv_if_lt hE.1 hE.2.1 hdg ht (fun h => kt h H locs ls hP hS hl) (fun h => kf h H locs ls hP hS hl)
theorem g_icmp_lt (tgt : Nat) (hE : OK sp Y M) {x y : Int32} {off : Int} (hdg : decode Y.2.2.1 pc = .ok (.if_icmp .lt off, 3)) (ht : (pc : Int) + off = (tgt : Int)) (kt : x < y → G sp Y M Z tgt lv st z) (kf : ¬ x < y → G sp Y M Z (pc + 3) lv st z) : G sp Y M Z pc lv (.int y :: .int x :: st) z := fun H locs ls hP hS hl => lv_icmp_lt hE.1 hE.2.1 hdg ht (fun h => kt h H locs ls hP hS hl) (fun h => kf h H locs ls hP hS hl)
theorem g_if_ge (tgt : Nat) (hE : OK sp Y M) {x : Int32} {off : Int} (hdg : decode Y.2.2.1 pc = .ok (.ifCond .ge off, 3)) (ht : (pc : Int) + off = (tgt : Int)) (kt : 0 ≤ x → G sp Y M Z tgt lv st z) (kf : ¬ 0 ≤ x → G sp Y M Z (pc + 3) lv st z) : G sp Y M Z pc lv (.int x :: st) z := fun H locs ls hP hS hl => lv_if_ge hE.1 hE.2.1 hdg ht (fun h => kt h H locs ls hP hS hl) (fun h => kf h H locs ls hP hS hl)
theorem g_icmp_ge (tgt : Nat) (hE : OK sp Y M) {x y : Int32} {off : Int} (hdg : decode Y.2.2.1 pc = .ok (.if_icmp .ge off, 3)) (ht : (pc : Int) + off = (tgt : Int)) (kt : y ≤ x → G sp Y M Z tgt lv st z) (kf : ¬ y ≤ x → G sp Y M Z (pc + 3) lv st z) : G sp Y M Z pc lv (.int y :: .int x :: st) z := fun H locs ls hP hS hl => lv_icmp_ge hE.1 hE.2.1 hdg ht (fun h => kt h H locs ls hP hS hl) (fun h => kf h H locs ls hP hS hl)
theorem g_if_gt (tgt : Nat) (hE : OK sp Y M) {x : Int32} {off : Int} (hdg : decode Y.2.2.1 pc = .ok (.ifCond .gt off, 3)) (ht : (pc : Int) + off = (tgt : Int)) (kt : 0 < x → G sp Y M Z tgt lv st z) (kf : ¬ 0 < x → G sp Y M Z (pc + 3) lv st z) : G sp Y M Z pc lv (.int x :: st) z := fun H locs ls hP hS hl => lv_if_gt hE.1 hE.2.1 hdg ht (fun h => kt h H locs ls hP hS hl) (fun h => kf h H locs ls hP hS hl)
theorem g_icmp_gt (tgt : Nat) (hE : OK sp Y M) {x y : Int32} {off : Int} (hdg : decode Y.2.2.1 pc = .ok (.if_icmp .gt off, 3)) (ht : (pc : Int) + off = (tgt : Int)) (kt : y < x → G sp Y M Z tgt lv st z) (kf : ¬ y < x → G sp Y M Z (pc + 3) lv st z) : G sp Y M Z pc lv (.int y :: .int x :: st) z := fun H locs ls hP hS hl => lv_icmp_gt hE.1 hE.2.1 hdg ht (fun h => kt h H locs ls hP hS hl) (fun h => kf h H locs ls hP hS hl)
theorem g_if_le (tgt : Nat) (hE : OK sp Y M) {x : Int32} {off : Int} (hdg : decode Y.2.2.1 pc = .ok (.ifCond .le off, 3)) (ht : (pc : Int) + off = (tgt : Int)) (kt : x ≤ 0 → G sp Y M Z tgt lv st z) (kf : ¬ x ≤ 0 → G sp Y M Z (pc + 3) lv st z) : G sp Y M Z pc lv (.int x :: st) z := fun H locs ls hP hS hl => lv_if_le hE.1 hE.2.1 hdg ht (fun h => kt h H locs ls hP hS hl) (fun h => kf h H locs ls hP hS hl)
theorem g_icmp_le (tgt : Nat) (hE : OK sp Y M) {x y : Int32} {off : Int} (hdg : decode Y.2.2.1 pc = .ok (.if_icmp .le off, 3)) (ht : (pc : Int) + off = (tgt : Int)) (kt : x ≤ y → G sp Y M Z tgt lv st z) (kf : ¬ x ≤ y → G sp Y M Z (pc + 3) lv st z) : G sp Y M Z pc lv (.int y :: .int x :: st) z := fun H locs ls hP hS hl => lv_icmp_le hE.1 hE.2.1 hdg ht (fun h => kt h H locs ls hP hS hl) (fun h => kf h H locs ls hP hS hl)
theorem g_goto (tgt : Nat) (hE : OK sp Y M) {off : Int} (hdg : decode Y.2.2.1 pc = .ok (.goto off, 3)) (ht : (pc : Int) + off = (tgt : Int)) (k : G sp Y M Z tgt lv st z) : G sp Y M Z pc lv st z := fun H locs ls hP hS hl => lv_goto hE.1 hE.2.1 hdg ht (k H locs ls hP hS hl)
theorem g_tabIn (tgt : Nat) (hE : OK sp Y M) {x : Int32} {dflt lo hi off : Int} {offs : Array Int} {len : Nat} (hdg : decode Y.2.2.1 pc = .ok (.tableswitch dflt lo hi offs, len)) (h1 : ¬ x.toInt < lo) (h2 : ¬ hi < x.toInt) (ho : offs[(x.toInt - lo).toNat]? = some off) (ht : (pc : Int) + off = (tgt : Int)) (k : G sp Y M Z tgt lv st z) : G sp Y M Z pc lv (.int x :: st) z := fun H locs ls hP hS hl => lv_tableIn hE.1 hE.2.1 hdg h1 h2 ho ht (k H locs ls hP hS hl)
theorem g_tabOut (tgt : Nat) (hE : OK sp Y M) {x : Int32} {dflt lo hi : Int} {offs : Array Int} {len : Nat} (hdg : decode Y.2.2.1 pc = .ok (.tableswitch dflt lo hi offs, len)) (h : x.toInt < lo ∨ hi < x.toInt) (ht : (pc : Int) + dflt = (tgt : Int)) (k : G sp Y M Z tgt lv st z) : G sp Y M Z pc lv (.int x :: st) z := fun H locs ls hP hS hl => lv_tableOut hE.1 hE.2.1 hdg h ht (k H locs ls hP hS hl)
theorem g_wk (b : List Bool) {lv2 : List (Option Value)} (e : maskL b lv = lv2) (k : G sp Y M Z pc lv2 st z) : G sp Y M Z pc lv st z := fun H locs ls hP hS hl => k H locs ls hP hS (lvR_mask b hl e)
theorem g_iald (hE : OK sp Y M) {t n : Nat} {q : List (Nat × Nat)} {i : Int32} (hk : kd sp t = (1, n, q)) (hin : ib i n) (hdg : decode Y.2.2.1 pc = .ok (.iaload, 1)) (k : G sp Y M Z (pc + 1) lv (.int (rI z t (ix i)) :: st) z) : G sp Y M Z pc lv (.int i :: .ref t :: st) z := fun H locs ls hP hS hl => va_iald (D := M.2.2.1) (cl := vwCl) hE.1 hE.2.1 hE.2.2.2.2.2.2.2.1 hP t 0 (wl_at hk (by simp)) rfl hin hdg (k H locs ls hP hS hl)
theorem g_zald (hE : OK sp Y M) {t n : Nat} {q : List (Nat × Nat)} {i : Int32} (hk : kd sp t = (2, n, q)) (hin : ib i n) (hdg : decode Y.2.2.1 pc = .ok (.baload, 1)) (k : G sp Y M Z (pc + 1) lv (.int (rI z t (ix i)) :: st) z) : G sp Y M Z pc lv (.int i :: .ref t :: st) z := fun H locs ls hP hS hl => va_zald (D := M.2.2.1) (cl := vwCl) hE.1 hE.2.1 hE.2.2.2.2.2.2.2.1 hP t 1 (wl_at hk (by simp)) rfl hin hdg (k H locs ls hP hS hl)
theorem g_lald (hE : OK sp Y M) {t n : Nat} {q : List (Nat × Nat)} {i : Int32} (hk : kd sp t = (3, n, q)) (hin : ib i n) (hdg : decode Y.2.2.1 pc = .ok (.laload, 1)) (k : G sp Y M Z (pc + 1) lv (.long (rJ z t (ix i)) :: st) z) : G sp Y M Z pc lv (.int i :: .ref t :: st) z := fun H locs ls hP hS hl => va_lald (D := M.2.2.1) (cl := vwCl) hE.1 hE.2.1 hE.2.2.2.2.2.2.2.1 hP t 2 (wl_at hk (by simp)) rfl hin hdg (k H locs ls hP hS hl)
theorem g_aald (hE : OK sp Y M) {t n b d : Nat} {q : List (Nat × Nat)} {i : Int32} (hk : kd sp t = (4, n, (b, d) :: q)) (hin : ib i n) (hdg : decode Y.2.2.1 pc = .ok (.aaload, 1)) (k : G sp Y M Z (pc + 1) lv (.ref (b + d * ix i) :: st) z) : G sp Y M Z pc lv (.int i :: .ref t :: st) z := fun H locs ls hP hS hl => va_aldq (D := M.2.2.1) (cl := vwCl) hE.1 hE.2.1 hE.2.2.2.2.2.2.2.1 hP t 3 (wl_at hk (by simp)) rfl hin hdg (k H locs ls hP hS hl)
theorem up_o {z : Sg} {t k : Nat} {v : Int32} : ∀ j, j ≠ t → (wI z t k v).1 j = z.1 j ∧ (wI z t k v).2 j = z.2 j := fun j hj => ⟨if_neg hj, rfl⟩
theorem up_oJ {z : Sg} {t k : Nat} {v : Int64} : ∀ j, j ≠ t → (wJ z t k v).1 j = z.1 j ∧ (wJ z t k v).2 j = z.2 j := fun j hj => ⟨rfl, if_neg hj⟩
theorem up_oA {z : Sg} {t : Nat} {f : Nat → Int32} : ∀ j, j ≠ t → (wA z t f).1 j = z.1 j ∧ (wA z t f).2 j = z.2 j := fun j hj => ⟨if_neg hj, rfl⟩
theorem up_s {z : Sg} {t k : Nat} {v : Int32} : (wI z t k v).1 t = upd (z.1 t) k v := if_pos rfl
theorem up_sJ {z : Sg} {t k : Nat} {v : Int64} : (wJ z t k v).2 t = vp_updL (z.2 t) k v := if_pos rfl
theorem up_sA {z : Sg} {t : Nat} {f : Nat → Int32} : (wA z t f).1 t = f := if_pos rfl
theorem g_iast (hE : OK sp Y M) {t n : Nat} {q : List (Nat × Nat)} {i x : Int32} (hk : kd sp t = (1, n, q)) (hin : ib i n) (hdg : decode Y.2.2.1 pc = .ok (.iastore, 1)) (k : G sp Y M Z (pc + 1) lv st (wI z t (ix i) x)) : G sp Y M Z pc lv (.int x :: .int i :: .ref t :: st) z := by
  intro H locs ls hP hS hl
  refine va_iast (D := M.2.2.1) (cl := vwCl) hE.1 hE.2.1 hE.2.2.2.2.2.2.2.1 hP (wl_D hE.2.2.2.2.2.2.2.2.1 z) hS t 0 (wl_at hk (by simp)) rfl hin hdg (fun H1 locs1 h1 _ h3 => ?_)
  rw [wl_set (z' := wI z t (ix i) x) (by rw [hk]; show Sum.inl (_, _, Sum.inl ((wI z t (ix i) x).1 t)) = _; rw [up_s]) up_o] at h1
  exact k H1 locs1 ls h1 h3 hl
theorem g_zast (hE : OK sp Y M) {t n : Nat} {q : List (Nat × Nat)} {i x : Int32} (hk : kd sp t = (2, n, q)) (hin : ib i n) (hx : vp_nar .boolean x = x) (hdg : decode Y.2.2.1 pc = .ok (.bastore, 1)) (k : G sp Y M Z (pc + 1) lv st (wI z t (ix i) x)) : G sp Y M Z pc lv (.int x :: .int i :: .ref t :: st) z := by
  intro H locs ls hP hS hl
  refine va_zast (D := M.2.2.1) (cl := vwCl) hE.1 hE.2.1 hE.2.2.2.2.2.2.2.1 hP (wl_D hE.2.2.2.2.2.2.2.2.1 z) hS t 1 (wl_at hk (by simp)) rfl hin hdg (fun H1 locs1 h1 _ h3 => ?_)
  rw [wl_set (z' := wI z t (ix i) x) (by rw [hk]; show Sum.inl (_, _, Sum.inl ((wI z t (ix i) x).1 t)) = _; rw [up_s, hx]) up_o] at h1
  exact k H1 locs1 ls h1 h3 hl
theorem g_last (hE : OK sp Y M) {t n : Nat} {q : List (Nat × Nat)} {i : Int32} {x : Int64} (hk : kd sp t = (3, n, q)) (hin : ib i n) (hdg : decode Y.2.2.1 pc = .ok (.lastore, 1)) (k : G sp Y M Z (pc + 1) lv st (wJ z t (ix i) x)) : G sp Y M Z pc lv (.long x :: .int i :: .ref t :: st) z := by
  intro H locs ls hP hS hl
  refine va_last (D := M.2.2.1) (cl := vwCl) hE.1 hE.2.1 hE.2.2.2.2.2.2.2.1 hP (wl_D hE.2.2.2.2.2.2.2.2.1 z) hS t 2 (wl_at hk (by simp)) rfl hin hdg (fun H1 locs1 h1 _ h3 => ?_)
  rw [wl_set (z' := wJ z t (ix i) x) (by rw [hk]; show Sum.inl (_, _, Sum.inr (Sum.inl ((wJ z t (ix i) x).2 t))) = _; rw [up_sJ]) up_oJ] at h1
  exact k H1 locs1 ls h1 h3 hl
theorem g_alenI (hE : OK sp Y M) {t n : Nat} {q : List (Nat × Nat)} {v : Int32} (hk : kd sp t = (1, n, q)) (hv : Int32.ofNat n = v) (hdg : decode Y.2.2.1 pc = .ok (.arraylength, 1)) (k : G sp Y M Z (pc + 1) lv (.int v :: st) z) : G sp Y M Z pc lv (.ref t :: st) z := fun H locs ls hP hS hl => va_alen (D := M.2.2.1) (cl := vwCl) hE.1 hE.2.1 hE.2.2.2.2.2.2.2.1 hP t 0 (wl_at hk (by simp)) rfl hv hdg (k H locs ls hP hS hl)
theorem g_alenJ (hE : OK sp Y M) {t n : Nat} {q : List (Nat × Nat)} {v : Int32} (hk : kd sp t = (3, n, q)) (hv : Int32.ofNat n = v) (hdg : decode Y.2.2.1 pc = .ok (.arraylength, 1)) (k : G sp Y M Z (pc + 1) lv (.int v :: st) z) : G sp Y M Z pc lv (.ref t :: st) z := fun H locs ls hP hS hl => va_alen (D := M.2.2.1) (cl := vwCl) hE.1 hE.2.1 hE.2.2.2.2.2.2.2.1 hP t 2 (wl_at hk (by simp)) rfl hv hdg (k H locs ls hP hS hl)
theorem g_copy (hE : OK sp Y M) {i : Nat} {t t0 n0 n1 : Nat} {q q' : List (Nat × Nat)} {a b n : Int32} (hw : Cond.methodLink Y.1 i arraycopyName ∈ TB) (w1 : Cond.native arraycopyName ∈ TB) (w2 : Cond.static arraycopyName ∈ TB) (w3 : Cond.initialized "java/lang/System" ∈ TB) (hk0 : kd sp t0 = (1, n0, q)) (hk : kd sp t = (1, n1, q')) (hc : cpOK a b n n0 n1) (hd : 1 ≤ Y.2.2.2.2.2) (hr : (st.map fun v => v.category).sum ≤ 8) (hdg : decode Y.2.2.1 pc = .ok (.invokestatic i, 3)) (k : G sp Y M Z (pc + 3) lv st (wA z t (va_cpy (z.1 t0) (z.1 t) (ix a) (ix b) (ix n)))) : G sp Y M Z pc lv (.int n :: .int b :: .ref t :: .int a :: .ref t0 :: st) z := by
  intro H locs ls hP hS hl
  have hcat : ((st.map (tv M.2.2.2.1)).map fun v => v.category).sum ≤ 8 := by
    rw [List.map_map]
    have : ((fun v : Value => v.category) ∘ tv M.2.2.2.1) = fun v => v.category := by funext v; exact tv_cat _ v
    rw [this]; exact hr
  refine va_copyi (D := M.2.2.1) (cl := vwCl) (ty := .int) hE.1 hE.2.1 (by rw [hE.2.2.1, hl.1]) hE.2.2.2.1 (hE.2.2.2.2.1 _ hw) (hE.2.2.2.2.1 _ w1) (hE.2.2.2.2.1 _ w2) (hE.2.2.2.2.1 _ w3) hE.2.2.2.2.2.2.2.1 hP (wl_D hE.2.2.2.2.2.2.2.2.1 z) hS t0 t 0 0 (wl_at hk0 (by simp)) (wl_at hk (by simp)) rfl rfl rfl hc.1 hc.2.1 hc.2.2.1 hc.2.2.2.1 hc.2.2.2.2 (fun _ _ => rfl) hd ?_ hdg (fun H1 locs1 h1 _ h3 => ?_)
  · have h5 : nativeFrameWords "java/lang/System" "arraycopy" 5 + 11 ≤ 30 := by decide +kernel
    show _ ≤ 38 * Y.2.2.2.2.2
    omega
  · rw [wl_set (z' := wA z t (va_cpy (z.1 t0) (z.1 t) (ix a) (ix b) (ix n))) (by rw [hk]; show Sum.inl (_, _, Sum.inl ((wA z t _).1 t)) = _; rw [up_sA]) up_oA] at h1
    exact k H1 locs1 ls h1 h3 hl
theorem g_get (hE : OK sp Y M) {t ci k i N : Nat} {fl : List (Nat × Nat)} {f : Nat × Nat} {C : String} {T : u_T} {v : Value} (hk : kd sp t = (0, ci, fl)) (hc : vwCl[ci]? = some (C, T, N)) (hin : ∀ q ∈ u_ws C T N, q ∈ TB) (hkN : k < N) (hw : Cond.fieldLink Y.1 i (T k).1 (T k).2.1 (T k).2.2.1 ∈ TB) (hf : fl[k]? = some f) (hv : fv M.2.2.2.1 z t k f = tv M.2.2.2.1 v) (hdg : decode Y.2.2.1 pc = .ok (.getfield i, 3)) (kk : G sp Y M Z (pc + 3) lv (v :: st) z) : G sp Y M Z pc lv (.ref t :: st) z := fun H locs ls hP hS hl => va_get (D := M.2.2.1) (cl := vwCl) hE.1 hE.2.1 hE.2.2.2.2.1 hin hE.2.2.2.1 hE.2.2.2.2.2.2.2.1 hP t (wl_at hk (by simp)) hc k hkN (hE.2.2.2.2.1 _ hw) (fun _ h => h) (by rw [flds_at _ _ _ _ 0 k f hf, Nat.zero_add, hv]) hdg (kk H locs ls hP hS hl)
theorem g_getN (hE : OK sp Y M) {t ci k i N : Nat} {fl : List (Nat × Nat)} {f : Nat × Nat} {C host : String} {T : u_T} {v : Value} (hk : kd sp t = (0, ci, fl)) (hc : vwCl[ci]? = some (C, T, N)) (hin : ∀ q ∈ u_ws C T N, q ∈ TB) (hkN : k < N) (hw : Cond.fieldLinkNest Y.1 i (T k).1 (T k).2.1 (T k).2.2.1 host ∈ nestW) (hf : fl[k]? = some f) (hv : fv M.2.2.2.1 z t k f = tv M.2.2.2.1 v) (hdg : decode Y.2.2.1 pc = .ok (.getfield i, 3)) (kk : G sp Y M Z (pc + 3) lv (v :: st) z) : G sp Y M Z pc lv (.ref t :: st) z := fun H locs ls hP hS hl => va_getN (D := M.2.2.1) (cl := vwCl) hE.1 hE.2.1 hE.2.2.2.2.1 hin hE.2.2.2.1 hE.2.2.2.2.2.2.2.1 hP t (wl_at hk (by simp)) hc k hkN (va_Nw.use rfl (hE.2.2.2.2.2.2.2.2.2 _ hw)) (fun _ h => h) (by rw [flds_at _ _ _ _ 0 k f hf, Nat.zero_add, hv]) hdg (kk H locs ls hP hS hl)
theorem g_putI (hE : OK sp Y M) {t ci k i N y0 : Nat} {fl : List (Nat × Nat)} {C : String} {T : u_T} {x : Int32} {ty : FieldType} (ty0 : Nat → FieldType) (hty : ∀ k, k < N → parseFieldDescriptor (T k).2.2.1 = some (ty0 k)) (hnm : ∀ a, a < N → ∀ b, b < N → a ≠ b → (T a).2.1 ≠ (T b).2.1) (hk : kd sp t = (0, ci, fl)) (hc : vwCl[ci]? = some (C, T, N)) (hin : ∀ q ∈ u_ws C T N, q ∈ TB) (hkN : k < N) (hw : Cond.fieldLink Y.1 i (T k).1 (T k).2.1 (T k).2.2.1 ∈ TB) (hfin : (T k).2.2.2 = false) (hd : parseFieldDescriptor (T k).2.2.1 = some ty) (hn : narrow ty (.int x) = .int x) (hfit : fits ty (.int x) = true) (hf : fl[k]? = some (0, y0)) (hdg : decode Y.2.2.1 pc = .ok (.putfield i, 3)) (kk : G sp Y M Z (pc + 3) lv st (wI z t k x)) : G sp Y M Z pc lv (.int x :: .ref t :: st) z := by
  intro H locs ls hP hS hl
  refine va_put (D := M.2.2.1) (cl := vwCl) hE.1 hE.2.1 hE.2.2.2.2.1 hin ty0 hty hnm hE.2.2.2.1 hE.2.2.2.2.2.2.2.1 hP (wl_D hE.2.2.2.2.2.2.2.2.1 z) hS t (wl_at hk (by simp)) hc k hkN (hE.2.2.2.2.1 _ hw) (fun _ h => h) hfin hd hn hfit (by rw [flds_len]; exact (List.getElem?_eq_some_iff.mp hf).1) hdg (fun H1 locs1 h1 _ h3 => ?_)
  rw [wl_set (z' := wI z t k x) (by
    rw [hk]
    show Sum.inr (ci, flds M.2.2.2.1 (wI z t k x) t 0 fl) = _
    rw [flds_ext M.2.2.2.1 z (wI z t k x) t (.int x) fl 0 k (0, y0) hf (by simp [fv, rI_wI]) (fun j g hg hj => by unfold fv; split <;> simp [rI_wI, rJ_wI, hj])]; rfl) up_o] at h1
  exact kk H1 locs1 ls h1 h3 hl
theorem g_putJ (hE : OK sp Y M) {t ci k i N y0 : Nat} {fl : List (Nat × Nat)} {C : String} {T : u_T} {x : Int64} (ty0 : Nat → FieldType) (hty : ∀ k, k < N → parseFieldDescriptor (T k).2.2.1 = some (ty0 k)) (hnm : ∀ a, a < N → ∀ b, b < N → a ≠ b → (T a).2.1 ≠ (T b).2.1) (hk : kd sp t = (0, ci, fl)) (hc : vwCl[ci]? = some (C, T, N)) (hin : ∀ q ∈ u_ws C T N, q ∈ TB) (hkN : k < N) (hw : Cond.fieldLink Y.1 i (T k).1 (T k).2.1 (T k).2.2.1 ∈ TB) (hfin : (T k).2.2.2 = false) (hd : parseFieldDescriptor (T k).2.2.1 = some .long) (hf : fl[k]? = some (1, y0)) (hdg : decode Y.2.2.1 pc = .ok (.putfield i, 3)) (kk : G sp Y M Z (pc + 3) lv st (wJ z t k x)) : G sp Y M Z pc lv (.long x :: .ref t :: st) z := by
  intro H locs ls hP hS hl
  refine va_put (D := M.2.2.1) (cl := vwCl) hE.1 hE.2.1 hE.2.2.2.2.1 hin ty0 hty hnm hE.2.2.2.1 hE.2.2.2.2.2.2.2.1 hP (wl_D hE.2.2.2.2.2.2.2.2.1 z) hS t (wl_at hk (by simp)) hc k hkN (hE.2.2.2.2.1 _ hw) (fun _ h => h) hfin hd rfl rfl (by rw [flds_len]; exact (List.getElem?_eq_some_iff.mp hf).1) hdg (fun H1 locs1 h1 _ h3 => ?_)
  rw [wl_set (z' := wJ z t k x) (by
    rw [hk]
    show Sum.inr (ci, flds M.2.2.2.1 (wJ z t k x) t 0 fl) = _
    rw [flds_ext M.2.2.2.1 z (wJ z t k x) t (.long x) fl 0 k (1, y0) hf (by simp [fv, rJ_wJ]) (fun j g hg hj => by unfold fv; split <;> simp [rJ_wJ, rI_wJ, hj])]; rfl) up_oJ] at h1
  exact kk H1 locs1 ls h1 h3 hl
theorem g_ret (hE : OK sp Y M) (hr : Y.2.2.2.2.1 = none) (hdg : decode Y.2.2.1 pc = .ok (.return_, 1)) : G sp Y M (none, z) pc lv [] z := fun H locs ls hP hS hl =>
  W.vret hE.1 hE.2.1 (hE.2.2.2.2.2.1.trans hr) (fun t ht hW => ⟨rfl, ⟨by rw [ht]; exact hP, hE.2.2.2.2.2.2.2.warm hW⟩, hS.F ht⟩) hS.2.2 hdg hE.2.2.2.2.2.2.1
theorem g_iret (hE : OK sp Y M) {x : Int32} (hr : Y.2.2.2.2.1 = some .int) (hdg : decode Y.2.2.1 pc = .ok (.ireturn, 1)) : G sp Y M (some (.int x), z) pc lv [.int x] z := fun H locs ls hP hS hl =>
  W.iret hE.1 hE.2.1 (hE.2.2.2.2.2.1.trans hr) (fun t ht hW => ⟨rfl, ⟨by rw [ht]; exact hP, hE.2.2.2.2.2.2.2.warm hW⟩, hS.F ht⟩) hS.2.2 hdg hE.2.2.2.2.2.2.1
theorem g_zret (hE : OK sp Y M) {x : Int32} (hr : Y.2.2.2.2.1 = some .boolean) (hn : narrow .boolean (.int x) = .int x) (hdg : decode Y.2.2.1 pc = .ok (.ireturn, 1)) : G sp Y M (some (.int x), z) pc lv [.int x] z := fun H locs ls hP hS hl =>
  W.zret hE.1 hE.2.1 (hE.2.2.2.2.2.1.trans hr) hn (fun t ht hW => ⟨rfl, ⟨by rw [ht]; exact hP, hE.2.2.2.2.2.2.2.warm hW⟩, hS.F ht⟩) hS.2.2 hdg hE.2.2.2.2.2.2.1
theorem g_lret (hE : OK sp Y M) {x : Int64} (hr : Y.2.2.2.2.1 = some .long) (hdg : decode Y.2.2.1 pc = .ok (.lreturn, 1)) : G sp Y M (some (.long x), z) pc lv [.long x] z := fun H locs ls hP hS hl =>
  W.lret hE.1 hE.2.1 (hE.2.2.2.2.2.1.trans hr) (fun t ht hW => ⟨rfl, ⟨by rw [ht]; exact hP, hE.2.2.2.2.2.2.2.warm hW⟩, hS.F ht⟩) hS.2.2 hdg hE.2.2.2.2.2.2.1
theorem g_aret (hE : OK sp Y M) {x : Nat} {n : String} (hr : Y.2.2.2.2.1 = some (.object n)) (hdg : decode Y.2.2.1 pc = .ok (.areturn, 1)) : G sp Y M (some (.ref x), z) pc lv [.ref x] z := fun H locs ls hP hS hl =>
  W.aret hE.1 hE.2.1 (hE.2.2.2.2.2.1.trans hr) (Or.inl ⟨_, rfl⟩) (Or.inr ⟨_, rfl⟩) (fun t ht hW => ⟨rfl, ⟨by rw [ht]; exact hP, hE.2.2.2.2.2.2.2.warm hW⟩, hS.F ht⟩) hS.2.2 hdg hE.2.2.2.2.2.2.1
theorem cat_tv (ad : Nat → Nat) {st : List Value} (hr : (st.map fun v => v.category).sum ≤ 8) : ((st.map (tv ad)).map fun v => v.category).sum ≤ 8 := by
  rw [List.map_map]
  have : ((fun v : Value => v.category) ∘ tv ad) = fun v => v.category := by funext v; exact tv_cat _ v
  rw [this]; exact hr
theorem g_run {st0 rest : List Value} {r : Option Value} {z' : Sg} {a : Array Value}
    (hr : ∀ (H : Heap) (locs : List Loc) (ls : Array Slot), va_P M.2.2.1 vwCl (wl sp M.2.2 z) H → lv_has ls Y.2.2.2.1 (asc M.2.2.2.1 0 lv) → va_Run M.1.1 M.1.2.1 M.1.2.2.1 (rmv Y.2.2.2.2.2) M.1.2.2.2 M.2.1.1 M.2.1.2.1 M.2.1.2.2.1 M.2.1.2.2.2.1 M.2.1.2.2.2.2 H locs 0 0 0 0 (F0 M.2.1.1 pc ls (st0.map (tv M.2.2.2.1))) (rest.map (tv M.2.2.2.1)) (QZ sp M.2.2 (r, z') a) (AW sp M.2.2))
    (k : G sp Y M Z (pc + 3) lv (r.toList ++ rest) z') : G sp Y M Z pc lv st0 z := by
  intro H locs ls hP hS hl T hT X
  obtain ⟨v, st₀, t, T', L, h0, X', hL, e1, e2, ⟨ho, hB, hF⟩, hst⟩ := hr H locs ls hP hl T hT X
  have hv : v = r.map (tv M.2.2.2.1) := Outcome.returned.inj ho
  subst hv
  have hS' : va_S (AW sp M.2.2) M.1.2.2.2.heap T'.heap (locs ++ L) := by
    refine ⟨Nat.le_trans hS.1 (by rw [e1, ← h0]; exact hF.1), fun q h1 h2 => ?_, fun q hq => ?_⟩
    · rw [e1, hF.2 q (by rw [h0]; exact Nat.lt_of_lt_of_le h1 hS.1) h2, h0]
      exact hS.2.1 q h1 h2
    · rcases List.mem_append.mp hq with h | h
      · exact hS.2.2 q h
      · exact hL q h
  obtain ⟨t2, a1, b1⟩ := k T'.heap (locs ++ L) ls (by rw [e1]; exact hB.1) hS' hl T' rfl X'
  refine ⟨t2, hst t2 ?_, b1⟩
  have hs : (r.map (tv M.2.2.2.1)).toList ++ rest.map (tv M.2.2.2.1) = (r.toList ++ rest).map (tv M.2.2.2.1) := by cases r <;> simp
  rw [hs]
  exact a1
theorem blind {w : WC} {av : List Value} : FrameBlind (va_Pc av (WS sp w z)) := fun a U g mk h => ⟨h.1, h.2.1, h.2.2.call⟩
theorem goodW {ws : List Cond} (h : ∀ q ∈ ws, q ∈ TB) : GoodIn TB ws := fun q hq => goodTB (h q hq)
theorem wsCT {y : MethodName} {cc : ByteArray} {n : Nat} {ret : Option FieldType} (h : Cond.code y cc n ret ∈ TB) : ∀ q ∈ (Cond.code y cc n ret :: TB), q ∈ TB := fun q hq => by
  rcases List.mem_cons.mp hq with rfl | h2
  · exact h
  · exact h2
/-- what a callee's words say, once for each method -/
def MV (Y : MI) (C : String) (n : Nat) : Prop := Cond.code Y.2.1 Y.2.2.1 Y.2.2.2.1 Y.2.2.2.2.1 ∈ TB ∧ Cond.instanceMethod Y.2.1 ∈ TB ∧ Cond.selects C Y.2.1 Y.2.1 ∈ TB ∧ Cond.initialized C ∈ TB ∧ (Y.2.1.cls = C ∧ Y.2.1.cls ≠ "java/lang/invoke/MethodHandle" ∧ Y.2.1.cls ≠ "java/lang/invoke/VarHandle" ∧ (parseMethodDescriptor Y.2.1.desc).map (fun d => d.parameters.length) = some n) ∧ Y.2.2.2.1 ≤ 19
def MS (Y : MI) (n : Nat) : Prop := Cond.code Y.2.1 Y.2.2.1 Y.2.2.2.1 Y.2.2.2.2.1 ∈ TB ∧ Cond.static Y.2.1 ∈ TB ∧ Cond.initialized Y.2.1.cls ∈ TB ∧ (Y.2.1.cls ≠ "java/lang/invoke/MethodHandle" ∧ Y.2.1.cls ≠ "java/lang/invoke/VarHandle" ∧ (parseMethodDescriptor Y.2.1.desc).map (fun d => d.parameters.length) = some n) ∧ Y.2.2.2.1 ≤ 19
theorem rmv_fit {d e n : Nat} (h : d < e) (hn : n ≤ 19) : (rmv d).frames + 1 ≤ (rmv e).frames ∧ 8 + (n + 11) + (rmv d).locals ≤ (rmv e).locals := by
  refine ⟨h, ?_⟩
  show 8 + (n + 11) + 38 * d ≤ 38 * e
  omega
theorem g_callV {Y' : MI} {C : String} {n i ci : Nat} {K : Nat × Nat} {T : u_T} {N t : Nat} {fl : List (Nat × Nat)} {As rest st0 : List Value} {r : Option Value} {z' : Sg} (hE : OK sp Y M) (hM : MV Y' C n) (hk : kd sp t = (0, ci, fl)) (hc : vwCl[ci]? = some (C, T, N)) (hw : Cond.methodLink Y.1 i Y'.2.1 ∈ TB) (hd : Y'.2.2.2.2.2 < Y.2.2.2.2.2) (hn : As.length = n) (hst : st0 = As.reverse ++ .ref t :: rest) (hr : (rest.map fun v => v.category).sum ≤ 8) (hdg : decode Y.2.2.1 pc = .ok (.invokevirtual i, 3))
    (h : CT sp M.1.2.1 Y' M.2.2 (.ref t :: As) z r z') (k : G sp Y M Z (pc + 3) lv (r.toList ++ rest) z') : G sp Y M Z pc lv st0 z := by
  refine g_run (rest := rest) (a := (Value.ref (M.2.2.2.1 t) :: As.map (tv M.2.2.2.1)).toArray) (fun H locs ls hP hl => ?_) k
  obtain ⟨w1, w2, w3, w4, hy, hnl⟩ := hM
  refine va_runV (As := As.map (tv M.2.2.2.1)) (rest := rest.map (tv M.2.2.2.1)) ⟨hE.1, hE.2.1, hE.2.2.1, hE.2.2.2.1, hE.2.2.2.2.1⟩ h (cwV (C := C) n hE.2.2.2.2.1 (goodW (fun q hq => ?_)) rfl rfl rfl hy (rmv_fit hd hnl)) ⟨blind, va_recv hE.2.2.2.2.2.2.2.1 hP (q0 := t) hc (wl_at hk (by simp)), fun U hU hW => ⟨rfl, by rw [hU]; exact hP, hE.2.2.2.2.2.2.2.warm hW⟩⟩ rfl (by rw [List.length_map]; exact hn) hl.1 (by rw [hst]; simp [tv, List.map_reverse]) (lv_room (cat_tv _ hr)) hdg ⟨Nat.zero_le _, Nat.zero_le _⟩
  rcases List.mem_append.mp hq with hq | hq
  · simp only [List.mem_cons, List.not_mem_nil, or_false] at hq
    rcases hq with rfl | rfl | rfl | rfl
    · exact hw
    · exact w2
    · exact w3
    · exact w4
  · exact wsCT w1 q hq
theorem g_callS {Y' : MI} {n i : Nat} {As rest st0 : List Value} {r : Option Value} {z' : Sg} (hE : OK sp Y M) (hM : MS Y' n) (hw : Cond.methodLink Y.1 i Y'.2.1 ∈ TB) (hd : Y'.2.2.2.2.2 < Y.2.2.2.2.2) (hn : As.length = n) (hst : st0 = As.reverse ++ rest) (hr : (rest.map fun v => v.category).sum ≤ 8) (hdg : decode Y.2.2.1 pc = .ok (.invokestatic i, 3))
    (h : CT sp M.1.2.1 Y' M.2.2 As z r z') (k : G sp Y M Z (pc + 3) lv (r.toList ++ rest) z') : G sp Y M Z pc lv st0 z := by
  refine g_run (rest := rest) (a := (As.map (tv M.2.2.2.1)).toArray) (fun H locs ls hP hl => ?_) k
  obtain ⟨w1, w2, w4, hy, hnl⟩ := hM
  refine va_runS (As := As.map (tv M.2.2.2.1)) (rest := rest.map (tv M.2.2.2.1)) ⟨hE.1, hE.2.1, hE.2.2.1, hE.2.2.2.1, hE.2.2.2.2.1⟩ h (va_cwS n hE.2.2.2.2.1 (goodW (fun q hq => ?_)) rfl rfl rfl hy (rmv_fit hd hnl)) ⟨blind, fun U hU hW => ⟨rfl, by rw [hU]; exact hP, hE.2.2.2.2.2.2.2.warm hW⟩⟩ rfl (by rw [List.length_map]; exact hn) hl.1 (by rw [hst]; simp [List.map_reverse]) (lv_room (cat_tv _ hr)) hdg ⟨Nat.zero_le _, Nat.zero_le _⟩
  rcases List.mem_append.mp hq with hq | hq
  · simp only [List.mem_cons, List.not_mem_nil, or_false] at hq
    rcases hq with rfl | rfl | rfl
    · exact hw
    · exact w2
    · exact w4
  · exact wsCT w1 q hq
theorem g_callSN {Y' : MI} {n i : Nat} {host : String} {As rest st0 : List Value} {r : Option Value} {z' : Sg} (hE : OK sp Y M) (hM : MS Y' n) (hw : Cond.methodLinkNest Y.1 i Y'.2.1 host ∈ nestW) (hd : Y'.2.2.2.2.2 < Y.2.2.2.2.2) (hn : As.length = n) (hst : st0 = As.reverse ++ rest) (hr : (rest.map fun v => v.category).sum ≤ 8) (hdg : decode Y.2.2.1 pc = .ok (.invokestatic i, 3))
    (h : CT sp M.1.2.1 Y' M.2.2 As z r z') (k : G sp Y M Z (pc + 3) lv (r.toList ++ rest) z') : G sp Y M Z pc lv st0 z := by
  refine g_run (rest := rest) (a := (As.map (tv M.2.2.2.1)).toArray) (fun H locs ls hP hl => ?_) k
  obtain ⟨w1, w2, w4, hy, hnl⟩ := hM
  exact va_runSN (As := As.map (tv M.2.2.2.1)) (rest := rest.map (tv M.2.2.2.1)) ⟨hE.1, hE.2.1, hE.2.2.1, hE.2.2.2.1, hE.2.2.2.2.1⟩ h ⟨va_cnB n hE.2.2.2.2.1 (goodW (wsCT w1)) rfl rfl rfl (hE.2.2.2.2.2.2.2.2.2 _ hw) (hE.2.2.2.2.1 _ w4) hy (rmv_fit hd hnl), hE.2.2.2.2.1 _ w2, trivial⟩ ⟨blind, fun U hU hW => ⟨rfl, by rw [hU]; exact hP, hE.2.2.2.2.2.2.2.warm hW⟩⟩ rfl (by rw [List.length_map]; exact hn) hl.1 (by rw [hst]; simp [List.map_reverse]) (lv_room (cat_tv _ hr)) hdg ⟨Nat.zero_le _, Nat.zero_le _⟩
end Rows
end
