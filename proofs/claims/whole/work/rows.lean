section
-- ===== PART A: goes FIRST, ahead of the names: the tables' words, and 'selects' of the private methods out of them =====
/-- a private method of a class that the tables say can be made, by its rows of tables_1 -/
def lw_okq (q : MethodName × Nat) : Prop := (q.1.cls ≠ "java/lang/invoke/MethodHandle" ∧ q.1.cls ≠ "java/lang/invoke/VarHandle") ∧ Cond.instantiable q.1.cls q.2 ∈ tables_1 ∧ Cond.privateMethod q.1 ∈ tables_1 ∧ Cond.instanceMethod q.1 ∈ tables_1
theorem lw_p0 : lw_okq (⟨"RankIndex", "costliestKey", "()I"⟩, 5) := ⟨⟨by decide +kernel, by decide +kernel⟩, List.mem_of_getElem? (i := 15) (by decide +kernel), List.mem_of_getElem? (i := 223) (by decide +kernel), List.mem_of_getElem? (i := 224) (by decide +kernel)⟩
theorem lw_p1 : lw_okq (⟨"RankIndex$Nodes", "endOf", "(IZ)I"⟩, 8) := ⟨⟨by decide +kernel, by decide +kernel⟩, List.mem_of_getElem? (i := 29) (by decide +kernel), List.mem_of_getElem? (i := 231) (by decide +kernel), List.mem_of_getElem? (i := 232) (by decide +kernel)⟩
theorem lw_p2 : lw_okq (⟨"RankIndex$Tree", "demote", "(I)V"⟩, 3) := ⟨⟨by decide +kernel, by decide +kernel⟩, List.mem_of_getElem? (i := 23) (by decide +kernel), List.mem_of_getElem? (i := 291) (by decide +kernel), List.mem_of_getElem? (i := 292) (by decide +kernel)⟩
theorem lw_p3 : lw_okq (⟨"RankIndex$Tree", "mendGap", "(II)V"⟩, 3) := ⟨⟨by decide +kernel, by decide +kernel⟩, List.mem_of_getElem? (i := 23) (by decide +kernel), List.mem_of_getElem? (i := 299) (by decide +kernel), List.mem_of_getElem? (i := 300) (by decide +kernel)⟩
theorem lw_p4 : lw_okq (⟨"RankIndex$Tree", "hasOnlyLongSteps", "(I)Z"⟩, 3) := ⟨⟨by decide +kernel, by decide +kernel⟩, List.mem_of_getElem? (i := 23) (by decide +kernel), List.mem_of_getElem? (i := 305) (by decide +kernel), List.mem_of_getElem? (i := 306) (by decide +kernel)⟩
theorem lw_p5 : lw_okq (⟨"RankIndex$Tree", "turnAfterRemoving", "(IIZ)V"⟩, 3) := ⟨⟨by decide +kernel, by decide +kernel⟩, List.mem_of_getElem? (i := 23) (by decide +kernel), List.mem_of_getElem? (i := 309) (by decide +kernel), List.mem_of_getElem? (i := 310) (by decide +kernel)⟩
theorem lw_p6 : lw_okq (⟨"RankIndex", "isThere", "(I)Z"⟩, 5) := ⟨⟨by decide +kernel, by decide +kernel⟩, List.mem_of_getElem? (i := 15) (by decide +kernel), List.mem_of_getElem? (i := 403) (by decide +kernel), List.mem_of_getElem? (i := 404) (by decide +kernel)⟩
theorem lw_p7 : lw_okq (⟨"RankIndex", "hasRoom", "()Z"⟩, 5) := ⟨⟨by decide +kernel, by decide +kernel⟩, List.mem_of_getElem? (i := 15) (by decide +kernel), List.mem_of_getElem? (i := 408) (by decide +kernel), List.mem_of_getElem? (i := 409) (by decide +kernel)⟩
theorem lw_p8 : lw_okq (⟨"RankIndex$Nodes", "freeSlot", "()I"⟩, 8) := ⟨⟨by decide +kernel, by decide +kernel⟩, List.mem_of_getElem? (i := 29) (by decide +kernel), List.mem_of_getElem? (i := 429) (by decide +kernel), List.mem_of_getElem? (i := 430) (by decide +kernel)⟩
theorem lw_p9 : lw_okq (⟨"RankIndex$Nodes", "fill", "(III)V"⟩, 8) := ⟨⟨by decide +kernel, by decide +kernel⟩, List.mem_of_getElem? (i := 29) (by decide +kernel), List.mem_of_getElem? (i := 433) (by decide +kernel), List.mem_of_getElem? (i := 434) (by decide +kernel)⟩
theorem lw_p10 : lw_okq (⟨"RankIndex$Tree", "mendUpwards", "(I)V"⟩, 3) := ⟨⟨by decide +kernel, by decide +kernel⟩, List.mem_of_getElem? (i := 23) (by decide +kernel), List.mem_of_getElem? (i := 437) (by decide +kernel), List.mem_of_getElem? (i := 438) (by decide +kernel)⟩
theorem lw_p11 : lw_okq (⟨"RankIndex$Tree", "turnAfterAdding", "(IIZ)V"⟩, 3) := ⟨⟨by decide +kernel, by decide +kernel⟩, List.mem_of_getElem? (i := 23) (by decide +kernel), List.mem_of_getElem? (i := 441) (by decide +kernel), List.mem_of_getElem? (i := 442) (by decide +kernel)⟩
theorem lw_p12 : lw_okq (⟨"RankIndex$Tree", "promote", "(I)V"⟩, 3) := ⟨⟨by decide +kernel, by decide +kernel⟩, List.mem_of_getElem? (i := 23) (by decide +kernel), List.mem_of_getElem? (i := 445) (by decide +kernel), List.mem_of_getElem? (i := 446) (by decide +kernel)⟩
theorem lw_p13 : lw_okq (⟨"RankIndex", "addIfItCan", "(II)V"⟩, 5) := ⟨⟨by decide +kernel, by decide +kernel⟩, List.mem_of_getElem? (i := 15) (by decide +kernel), List.mem_of_getElem? (i := 470) (by decide +kernel), List.mem_of_getElem? (i := 471) (by decide +kernel)⟩
theorem lw_p14 : lw_okq (⟨"RankIndex", "addRising", "(LRankIndex$Nodes;I)V"⟩, 5) := ⟨⟨by decide +kernel, by decide +kernel⟩, List.mem_of_getElem? (i := 15) (by decide +kernel), List.mem_of_getElem? (i := 482) (by decide +kernel), List.mem_of_getElem? (i := 483) (by decide +kernel)⟩
theorem lw_p15 : lw_okq (⟨"RankIndex", "driftOnce", "()V"⟩, 5) := ⟨⟨by decide +kernel, by decide +kernel⟩, List.mem_of_getElem? (i := 15) (by decide +kernel), List.mem_of_getElem? (i := 498) (by decide +kernel), List.mem_of_getElem? (i := 499) (by decide +kernel)⟩
def lw_privs_1 : List (MethodName × Nat) := [(⟨"RankIndex", "costliestKey", "()I"⟩, 5), (⟨"RankIndex$Nodes", "endOf", "(IZ)I"⟩, 8), (⟨"RankIndex$Tree", "demote", "(I)V"⟩, 3), (⟨"RankIndex$Tree", "mendGap", "(II)V"⟩, 3), (⟨"RankIndex$Tree", "hasOnlyLongSteps", "(I)Z"⟩, 3), (⟨"RankIndex$Tree", "turnAfterRemoving", "(IIZ)V"⟩, 3), (⟨"RankIndex", "isThere", "(I)Z"⟩, 5), (⟨"RankIndex", "hasRoom", "()Z"⟩, 5), (⟨"RankIndex$Nodes", "freeSlot", "()I"⟩, 8), (⟨"RankIndex$Nodes", "fill", "(III)V"⟩, 8), (⟨"RankIndex$Tree", "mendUpwards", "(I)V"⟩, 3), (⟨"RankIndex$Tree", "turnAfterAdding", "(IIZ)V"⟩, 3), (⟨"RankIndex$Tree", "promote", "(I)V"⟩, 3), (⟨"RankIndex", "addIfItCan", "(II)V"⟩, 5), (⟨"RankIndex", "addRising", "(LRankIndex$Nodes;I)V"⟩, 5), (⟨"RankIndex", "driftOnce", "()V"⟩, 5)]
theorem lw_r1 : ∀ q ∈ lw_privs_1, lw_okq q := List.forall_mem_cons.mpr ⟨lw_p0, List.forall_mem_cons.mpr ⟨lw_p1, List.forall_mem_cons.mpr ⟨lw_p2, List.forall_mem_cons.mpr ⟨lw_p3, List.forall_mem_cons.mpr ⟨lw_p4, List.forall_mem_cons.mpr ⟨lw_p5, List.forall_mem_cons.mpr ⟨lw_p6, List.forall_mem_cons.mpr ⟨lw_p7, List.forall_mem_cons.mpr ⟨lw_p8, List.forall_mem_cons.mpr ⟨lw_p9, List.forall_mem_cons.mpr ⟨lw_p10, List.forall_mem_cons.mpr ⟨lw_p11, List.forall_mem_cons.mpr ⟨lw_p12, List.forall_mem_cons.mpr ⟨lw_p13, List.forall_mem_cons.mpr ⟨lw_p14, List.forall_mem_cons.mpr ⟨lw_p15, fun _ h => absurd h List.not_mem_nil⟩⟩⟩⟩⟩⟩⟩⟩⟩⟩⟩⟩⟩⟩⟩⟩
theorem lw_p16 : lw_okq (⟨"RankIndexModel", "empties", "()V"⟩, 16) := ⟨⟨by decide +kernel, by decide +kernel⟩, List.mem_of_getElem? (i := 583) (by decide +kernel), List.mem_of_getElem? (i := 589) (by decide +kernel), List.mem_of_getElem? (i := 590) (by decide +kernel)⟩
theorem lw_p17 : lw_okq (⟨"RankIndexModel", "goesEmpty", "()V"⟩, 16) := ⟨⟨by decide +kernel, by decide +kernel⟩, List.mem_of_getElem? (i := 583) (by decide +kernel), List.mem_of_getElem? (i := 593) (by decide +kernel), List.mem_of_getElem? (i := 594) (by decide +kernel)⟩
theorem lw_p18 : lw_okq (⟨"RankIndexModel", "lays", "(III)V"⟩, 16) := ⟨⟨by decide +kernel, by decide +kernel⟩, List.mem_of_getElem? (i := 583) (by decide +kernel), List.mem_of_getElem? (i := 597) (by decide +kernel), List.mem_of_getElem? (i := 598) (by decide +kernel)⟩
theorem lw_p19 : lw_okq (⟨"RankIndexModel", "many", "()I"⟩, 16) := ⟨⟨by decide +kernel, by decide +kernel⟩, List.mem_of_getElem? (i := 583) (by decide +kernel), List.mem_of_getElem? (i := 655) (by decide +kernel), List.mem_of_getElem? (i := 656) (by decide +kernel)⟩
theorem lw_p20 : lw_okq (⟨"RankIndexModel", "top", "()I"⟩, 16) := ⟨⟨by decide +kernel, by decide +kernel⟩, List.mem_of_getElem? (i := 583) (by decide +kernel), List.mem_of_getElem? (i := 659) (by decide +kernel), List.mem_of_getElem? (i := 660) (by decide +kernel)⟩
theorem lw_p21 : lw_okq (⟨"RankIndexModel", "of", "(II)I"⟩, 16) := ⟨⟨by decide +kernel, by decide +kernel⟩, List.mem_of_getElem? (i := 583) (by decide +kernel), List.mem_of_getElem? (i := 663) (by decide +kernel), List.mem_of_getElem? (i := 664) (by decide +kernel)⟩
theorem lw_p22 : lw_okq (⟨"RankIndexModel", "rankOf", "(I)I"⟩, 16) := ⟨⟨by decide +kernel, by decide +kernel⟩, List.mem_of_getElem? (i := 583) (by decide +kernel), List.mem_of_getElem? (i := 667) (by decide +kernel), List.mem_of_getElem? (i := 668) (by decide +kernel)⟩
theorem lw_p23 : lw_okq (⟨"RankIndexModel", "depth", "()I"⟩, 16) := ⟨⟨by decide +kernel, by decide +kernel⟩, List.mem_of_getElem? (i := 583) (by decide +kernel), List.mem_of_getElem? (i := 671) (by decide +kernel), List.mem_of_getElem? (i := 672) (by decide +kernel)⟩
theorem lw_p24 : lw_okq (⟨"RankIndexModel", "numbers", "()V"⟩, 16) := ⟨⟨by decide +kernel, by decide +kernel⟩, List.mem_of_getElem? (i := 583) (by decide +kernel), List.mem_of_getElem? (i := 675) (by decide +kernel), List.mem_of_getElem? (i := 676) (by decide +kernel)⟩
theorem lw_p25 : lw_okq (⟨"RankIndexModel", "child", "(IZ)I"⟩, 16) := ⟨⟨by decide +kernel, by decide +kernel⟩, List.mem_of_getElem? (i := 583) (by decide +kernel), List.mem_of_getElem? (i := 679) (by decide +kernel), List.mem_of_getElem? (i := 680) (by decide +kernel)⟩
theorem lw_p26 : lw_okq (⟨"RankIndexModel", "sumOf", "(I)I"⟩, 16) := ⟨⟨by decide +kernel, by decide +kernel⟩, List.mem_of_getElem? (i := 583) (by decide +kernel), List.mem_of_getElem? (i := 683) (by decide +kernel), List.mem_of_getElem? (i := 684) (by decide +kernel)⟩
theorem lw_p27 : lw_okq (⟨"RankIndexModel", "twos", "()I"⟩, 16) := ⟨⟨by decide +kernel, by decide +kernel⟩, List.mem_of_getElem? (i := 583) (by decide +kernel), List.mem_of_getElem? (i := 687) (by decide +kernel), List.mem_of_getElem? (i := 688) (by decide +kernel)⟩
theorem lw_p28 : lw_okq (⟨"RankIndexModel", "step", "(II)I"⟩, 16) := ⟨⟨by decide +kernel, by decide +kernel⟩, List.mem_of_getElem? (i := 583) (by decide +kernel), List.mem_of_getElem? (i := 691) (by decide +kernel), List.mem_of_getElem? (i := 692) (by decide +kernel)⟩
theorem lw_p29 : lw_okq (⟨"RankIndexModel", "costly", "()I"⟩, 16) := ⟨⟨by decide +kernel, by decide +kernel⟩, List.mem_of_getElem? (i := 583) (by decide +kernel), List.mem_of_getElem? (i := 695) (by decide +kernel), List.mem_of_getElem? (i := 696) (by decide +kernel)⟩
theorem lw_p30 : lw_okq (⟨"RankIndexModel", "besideOf", "(IZ)I"⟩, 16) := ⟨⟨by decide +kernel, by decide +kernel⟩, List.mem_of_getElem? (i := 583) (by decide +kernel), List.mem_of_getElem? (i := 699) (by decide +kernel), List.mem_of_getElem? (i := 700) (by decide +kernel)⟩
theorem lw_p31 : lw_okq (⟨"RankIndexModel", "costs", "(I)I"⟩, 16) := ⟨⟨by decide +kernel, by decide +kernel⟩, List.mem_of_getElem? (i := 583) (by decide +kernel), List.mem_of_getElem? (i := 703) (by decide +kernel), List.mem_of_getElem? (i := 704) (by decide +kernel)⟩
def lw_privs_2 : List (MethodName × Nat) := [(⟨"RankIndexModel", "empties", "()V"⟩, 16), (⟨"RankIndexModel", "goesEmpty", "()V"⟩, 16), (⟨"RankIndexModel", "lays", "(III)V"⟩, 16), (⟨"RankIndexModel", "many", "()I"⟩, 16), (⟨"RankIndexModel", "top", "()I"⟩, 16), (⟨"RankIndexModel", "of", "(II)I"⟩, 16), (⟨"RankIndexModel", "rankOf", "(I)I"⟩, 16), (⟨"RankIndexModel", "depth", "()I"⟩, 16), (⟨"RankIndexModel", "numbers", "()V"⟩, 16), (⟨"RankIndexModel", "child", "(IZ)I"⟩, 16), (⟨"RankIndexModel", "sumOf", "(I)I"⟩, 16), (⟨"RankIndexModel", "twos", "()I"⟩, 16), (⟨"RankIndexModel", "step", "(II)I"⟩, 16), (⟨"RankIndexModel", "costly", "()I"⟩, 16), (⟨"RankIndexModel", "besideOf", "(IZ)I"⟩, 16), (⟨"RankIndexModel", "costs", "(I)I"⟩, 16)]
theorem lw_r2 : ∀ q ∈ lw_privs_2, lw_okq q := List.forall_mem_cons.mpr ⟨lw_p16, List.forall_mem_cons.mpr ⟨lw_p17, List.forall_mem_cons.mpr ⟨lw_p18, List.forall_mem_cons.mpr ⟨lw_p19, List.forall_mem_cons.mpr ⟨lw_p20, List.forall_mem_cons.mpr ⟨lw_p21, List.forall_mem_cons.mpr ⟨lw_p22, List.forall_mem_cons.mpr ⟨lw_p23, List.forall_mem_cons.mpr ⟨lw_p24, List.forall_mem_cons.mpr ⟨lw_p25, List.forall_mem_cons.mpr ⟨lw_p26, List.forall_mem_cons.mpr ⟨lw_p27, List.forall_mem_cons.mpr ⟨lw_p28, List.forall_mem_cons.mpr ⟨lw_p29, List.forall_mem_cons.mpr ⟨lw_p30, List.forall_mem_cons.mpr ⟨lw_p31, fun _ h => absurd h List.not_mem_nil⟩⟩⟩⟩⟩⟩⟩⟩⟩⟩⟩⟩⟩⟩⟩⟩
theorem lw_p32 : lw_okq (⟨"RankIndexModel", "find", "(I)I"⟩, 16) := ⟨⟨by decide +kernel, by decide +kernel⟩, List.mem_of_getElem? (i := 583) (by decide +kernel), List.mem_of_getElem? (i := 707) (by decide +kernel), List.mem_of_getElem? (i := 708) (by decide +kernel)⟩
theorem lw_p33 : lw_okq (⟨"RankIndexModel", "takes", "(I)V"⟩, 16) := ⟨⟨by decide +kernel, by decide +kernel⟩, List.mem_of_getElem? (i := 583) (by decide +kernel), List.mem_of_getElem? (i := 711) (by decide +kernel), List.mem_of_getElem? (i := 712) (by decide +kernel)⟩
theorem lw_p34 : lw_okq (⟨"RankIndexModel", "begins", "()V"⟩, 16) := ⟨⟨by decide +kernel, by decide +kernel⟩, List.mem_of_getElem? (i := 583) (by decide +kernel), List.mem_of_getElem? (i := 715) (by decide +kernel), List.mem_of_getElem? (i := 716) (by decide +kernel)⟩
theorem lw_p35 : lw_okq (⟨"RankIndexModel", "leastBelow", "(I)I"⟩, 16) := ⟨⟨by decide +kernel, by decide +kernel⟩, List.mem_of_getElem? (i := 583) (by decide +kernel), List.mem_of_getElem? (i := 719) (by decide +kernel), List.mem_of_getElem? (i := 720) (by decide +kernel)⟩
theorem lw_p36 : lw_okq (⟨"RankIndexModel", "isLeftOf", "(II)Z"⟩, 16) := ⟨⟨by decide +kernel, by decide +kernel⟩, List.mem_of_getElem? (i := 583) (by decide +kernel), List.mem_of_getElem? (i := 723) (by decide +kernel), List.mem_of_getElem? (i := 724) (by decide +kernel)⟩
theorem lw_p37 : lw_okq (⟨"RankIndexModel", "hangs", "(IZI)V"⟩, 16) := ⟨⟨by decide +kernel, by decide +kernel⟩, List.mem_of_getElem? (i := 583) (by decide +kernel), List.mem_of_getElem? (i := 727) (by decide +kernel), List.mem_of_getElem? (i := 728) (by decide +kernel)⟩
theorem lw_p38 : lw_okq (⟨"RankIndexModel", "hasNoChildren", "(I)Z"⟩, 16) := ⟨⟨by decide +kernel, by decide +kernel⟩, List.mem_of_getElem? (i := 583) (by decide +kernel), List.mem_of_getElem? (i := 731) (by decide +kernel), List.mem_of_getElem? (i := 732) (by decide +kernel)⟩
theorem lw_p39 : lw_okq (⟨"RankIndexModel", "ranks", "(II)V"⟩, 16) := ⟨⟨by decide +kernel, by decide +kernel⟩, List.mem_of_getElem? (i := 583) (by decide +kernel), List.mem_of_getElem? (i := 735) (by decide +kernel), List.mem_of_getElem? (i := 736) (by decide +kernel)⟩
theorem lw_p40 : lw_okq (⟨"RankIndexModel", "counts", "(I)V"⟩, 16) := ⟨⟨by decide +kernel, by decide +kernel⟩, List.mem_of_getElem? (i := 583) (by decide +kernel), List.mem_of_getElem? (i := 739) (by decide +kernel), List.mem_of_getElem? (i := 740) (by decide +kernel)⟩
theorem lw_p41 : lw_okq (⟨"RankIndexModel", "falls", "(IZ)V"⟩, 16) := ⟨⟨by decide +kernel, by decide +kernel⟩, List.mem_of_getElem? (i := 583) (by decide +kernel), List.mem_of_getElem? (i := 743) (by decide +kernel), List.mem_of_getElem? (i := 744) (by decide +kernel)⟩
theorem lw_p42 : lw_okq (⟨"RankIndexModel", "turnsDown", "(IIZ)V"⟩, 16) := ⟨⟨by decide +kernel, by decide +kernel⟩, List.mem_of_getElem? (i := 583) (by decide +kernel), List.mem_of_getElem? (i := 747) (by decide +kernel), List.mem_of_getElem? (i := 748) (by decide +kernel)⟩
theorem lw_p43 : lw_okq (⟨"RankIndexModel", "turns", "(I)V"⟩, 16) := ⟨⟨by decide +kernel, by decide +kernel⟩, List.mem_of_getElem? (i := 583) (by decide +kernel), List.mem_of_getElem? (i := 751) (by decide +kernel), List.mem_of_getElem? (i := 752) (by decide +kernel)⟩
theorem lw_p44 : lw_okq (⟨"RankIndexModel", "flat", "()I"⟩, 16) := ⟨⟨by decide +kernel, by decide +kernel⟩, List.mem_of_getElem? (i := 583) (by decide +kernel), List.mem_of_getElem? (i := 755) (by decide +kernel), List.mem_of_getElem? (i := 756) (by decide +kernel)⟩
theorem lw_p45 : lw_okq (⟨"RankIndexModel", "tall", "()I"⟩, 16) := ⟨⟨by decide +kernel, by decide +kernel⟩, List.mem_of_getElem? (i := 583) (by decide +kernel), List.mem_of_getElem? (i := 759) (by decide +kernel), List.mem_of_getElem? (i := 760) (by decide +kernel)⟩
theorem lw_p46 : lw_okq (⟨"RankIndexModel", "isNode", "(I)Z"⟩, 16) := ⟨⟨by decide +kernel, by decide +kernel⟩, List.mem_of_getElem? (i := 583) (by decide +kernel), List.mem_of_getElem? (i := 771) (by decide +kernel), List.mem_of_getElem? (i := 772) (by decide +kernel)⟩
theorem lw_p47 : lw_okq (⟨"RankIndexModel", "numberAt", "(I)I"⟩, 16) := ⟨⟨by decide +kernel, by decide +kernel⟩, List.mem_of_getElem? (i := 583) (by decide +kernel), List.mem_of_getElem? (i := 779) (by decide +kernel), List.mem_of_getElem? (i := 780) (by decide +kernel)⟩
def lw_privs_3 : List (MethodName × Nat) := [(⟨"RankIndexModel", "find", "(I)I"⟩, 16), (⟨"RankIndexModel", "takes", "(I)V"⟩, 16), (⟨"RankIndexModel", "begins", "()V"⟩, 16), (⟨"RankIndexModel", "leastBelow", "(I)I"⟩, 16), (⟨"RankIndexModel", "isLeftOf", "(II)Z"⟩, 16), (⟨"RankIndexModel", "hangs", "(IZI)V"⟩, 16), (⟨"RankIndexModel", "hasNoChildren", "(I)Z"⟩, 16), (⟨"RankIndexModel", "ranks", "(II)V"⟩, 16), (⟨"RankIndexModel", "counts", "(I)V"⟩, 16), (⟨"RankIndexModel", "falls", "(IZ)V"⟩, 16), (⟨"RankIndexModel", "turnsDown", "(IIZ)V"⟩, 16), (⟨"RankIndexModel", "turns", "(I)V"⟩, 16), (⟨"RankIndexModel", "flat", "()I"⟩, 16), (⟨"RankIndexModel", "tall", "()I"⟩, 16), (⟨"RankIndexModel", "isNode", "(I)Z"⟩, 16), (⟨"RankIndexModel", "numberAt", "(I)I"⟩, 16)]
theorem lw_r3 : ∀ q ∈ lw_privs_3, lw_okq q := List.forall_mem_cons.mpr ⟨lw_p32, List.forall_mem_cons.mpr ⟨lw_p33, List.forall_mem_cons.mpr ⟨lw_p34, List.forall_mem_cons.mpr ⟨lw_p35, List.forall_mem_cons.mpr ⟨lw_p36, List.forall_mem_cons.mpr ⟨lw_p37, List.forall_mem_cons.mpr ⟨lw_p38, List.forall_mem_cons.mpr ⟨lw_p39, List.forall_mem_cons.mpr ⟨lw_p40, List.forall_mem_cons.mpr ⟨lw_p41, List.forall_mem_cons.mpr ⟨lw_p42, List.forall_mem_cons.mpr ⟨lw_p43, List.forall_mem_cons.mpr ⟨lw_p44, List.forall_mem_cons.mpr ⟨lw_p45, List.forall_mem_cons.mpr ⟨lw_p46, List.forall_mem_cons.mpr ⟨lw_p47, fun _ h => absurd h List.not_mem_nil⟩⟩⟩⟩⟩⟩⟩⟩⟩⟩⟩⟩⟩⟩⟩⟩
theorem lw_p48 : lw_okq (⟨"RankIndexModel", "sizeOf", "(I)I"⟩, 16) := ⟨⟨by decide +kernel, by decide +kernel⟩, List.mem_of_getElem? (i := 583) (by decide +kernel), List.mem_of_getElem? (i := 783) (by decide +kernel), List.mem_of_getElem? (i := 784) (by decide +kernel)⟩
theorem lw_p49 : lw_okq (⟨"RankIndexModel", "lessThan", "(I)I"⟩, 16) := ⟨⟨by decide +kernel, by decide +kernel⟩, List.mem_of_getElem? (i := 583) (by decide +kernel), List.mem_of_getElem? (i := 791) (by decide +kernel), List.mem_of_getElem? (i := 792) (by decide +kernel)⟩
theorem lw_p50 : lw_okq (⟨"RankIndexModel", "isThere", "(I)Z"⟩, 16) := ⟨⟨by decide +kernel, by decide +kernel⟩, List.mem_of_getElem? (i := 583) (by decide +kernel), List.mem_of_getElem? (i := 808) (by decide +kernel), List.mem_of_getElem? (i := 809) (by decide +kernel)⟩
theorem lw_p51 : lw_okq (⟨"RankIndexModel", "save", "()V"⟩, 16) := ⟨⟨by decide +kernel, by decide +kernel⟩, List.mem_of_getElem? (i := 583) (by decide +kernel), List.mem_of_getElem? (i := 814) (by decide +kernel), List.mem_of_getElem? (i := 815) (by decide +kernel)⟩
theorem lw_p52 : lw_okq (⟨"RankIndexModel", "puts", "(II)V"⟩, 16) := ⟨⟨by decide +kernel, by decide +kernel⟩, List.mem_of_getElem? (i := 583) (by decide +kernel), List.mem_of_getElem? (i := 818) (by decide +kernel), List.mem_of_getElem? (i := 819) (by decide +kernel)⟩
theorem lw_p53 : lw_okq (⟨"RankIndexModel", "freeOne", "()I"⟩, 16) := ⟨⟨by decide +kernel, by decide +kernel⟩, List.mem_of_getElem? (i := 583) (by decide +kernel), List.mem_of_getElem? (i := 822) (by decide +kernel), List.mem_of_getElem? (i := 823) (by decide +kernel)⟩
theorem lw_p54 : lw_okq (⟨"RankIndexModel", "rises", "(I)V"⟩, 16) := ⟨⟨by decide +kernel, by decide +kernel⟩, List.mem_of_getElem? (i := 583) (by decide +kernel), List.mem_of_getElem? (i := 826) (by decide +kernel), List.mem_of_getElem? (i := 827) (by decide +kernel)⟩
theorem lw_p55 : lw_okq (⟨"RankIndexModel", "turnsUp", "(III)V"⟩, 16) := ⟨⟨by decide +kernel, by decide +kernel⟩, List.mem_of_getElem? (i := 583) (by decide +kernel), List.mem_of_getElem? (i := 830) (by decide +kernel), List.mem_of_getElem? (i := 831) (by decide +kernel)⟩
theorem lw_p56 : lw_okq (⟨"RankIndexModel", "comes", "(II)Z"⟩, 16) := ⟨⟨by decide +kernel, by decide +kernel⟩, List.mem_of_getElem? (i := 583) (by decide +kernel), List.mem_of_getElem? (i := 852) (by decide +kernel), List.mem_of_getElem? (i := 853) (by decide +kernel)⟩
theorem lw_p57 : lw_okq (⟨"RankIndexModel", "nextInImage", "(II)I"⟩, 16) := ⟨⟨by decide +kernel, by decide +kernel⟩, List.mem_of_getElem? (i := 583) (by decide +kernel), List.mem_of_getElem? (i := 865) (by decide +kernel), List.mem_of_getElem? (i := 866) (by decide +kernel)⟩
theorem lw_p58 : lw_okq (⟨"RankIndexModel", "draw", "(I)I"⟩, 16) := ⟨⟨by decide +kernel, by decide +kernel⟩, List.mem_of_getElem? (i := 583) (by decide +kernel), List.mem_of_getElem? (i := 874) (by decide +kernel), List.mem_of_getElem? (i := 875) (by decide +kernel)⟩
theorem lw_p59 : lw_okq (⟨"RankIndexModel", "sumBetween", "(IIZ)I"⟩, 16) := ⟨⟨by decide +kernel, by decide +kernel⟩, List.mem_of_getElem? (i := 583) (by decide +kernel), List.mem_of_getElem? (i := 899) (by decide +kernel), List.mem_of_getElem? (i := 900) (by decide +kernel)⟩
theorem lw_p60 : lw_okq (⟨"RankIndexModel", "most", "(II)I"⟩, 16) := ⟨⟨by decide +kernel, by decide +kernel⟩, List.mem_of_getElem? (i := 583) (by decide +kernel), List.mem_of_getElem? (i := 903) (by decide +kernel), List.mem_of_getElem? (i := 904) (by decide +kernel)⟩
theorem lw_p61 : lw_okq (⟨"RankIndexModel", "rankWith", "(III)I"⟩, 16) := ⟨⟨by decide +kernel, by decide +kernel⟩, List.mem_of_getElem? (i := 583) (by decide +kernel), List.mem_of_getElem? (i := 916) (by decide +kernel), List.mem_of_getElem? (i := 917) (by decide +kernel)⟩
def lw_privs_4 : List (MethodName × Nat) := [(⟨"RankIndexModel", "sizeOf", "(I)I"⟩, 16), (⟨"RankIndexModel", "lessThan", "(I)I"⟩, 16), (⟨"RankIndexModel", "isThere", "(I)Z"⟩, 16), (⟨"RankIndexModel", "save", "()V"⟩, 16), (⟨"RankIndexModel", "puts", "(II)V"⟩, 16), (⟨"RankIndexModel", "freeOne", "()I"⟩, 16), (⟨"RankIndexModel", "rises", "(I)V"⟩, 16), (⟨"RankIndexModel", "turnsUp", "(III)V"⟩, 16), (⟨"RankIndexModel", "comes", "(II)Z"⟩, 16), (⟨"RankIndexModel", "nextInImage", "(II)I"⟩, 16), (⟨"RankIndexModel", "draw", "(I)I"⟩, 16), (⟨"RankIndexModel", "sumBetween", "(IIZ)I"⟩, 16), (⟨"RankIndexModel", "most", "(II)I"⟩, 16), (⟨"RankIndexModel", "rankWith", "(III)I"⟩, 16)]
theorem lw_r4 : ∀ q ∈ lw_privs_4, lw_okq q := List.forall_mem_cons.mpr ⟨lw_p48, List.forall_mem_cons.mpr ⟨lw_p49, List.forall_mem_cons.mpr ⟨lw_p50, List.forall_mem_cons.mpr ⟨lw_p51, List.forall_mem_cons.mpr ⟨lw_p52, List.forall_mem_cons.mpr ⟨lw_p53, List.forall_mem_cons.mpr ⟨lw_p54, List.forall_mem_cons.mpr ⟨lw_p55, List.forall_mem_cons.mpr ⟨lw_p56, List.forall_mem_cons.mpr ⟨lw_p57, List.forall_mem_cons.mpr ⟨lw_p58, List.forall_mem_cons.mpr ⟨lw_p59, List.forall_mem_cons.mpr ⟨lw_p60, List.forall_mem_cons.mpr ⟨lw_p61, fun _ h => absurd h List.not_mem_nil⟩⟩⟩⟩⟩⟩⟩⟩⟩⟩⟩⟩⟩⟩
def lw_privs : List (MethodName × Nat) := lw_privs_1 ++ (lw_privs_2 ++ (lw_privs_3 ++ (lw_privs_4)))
def lw_tbl : List Cond := k2_sels lw_privs ++ tables_1
theorem lw_privs_ok : ∀ q ∈ lw_privs, lw_okq q := by
  show ∀ q ∈ lw_privs_1 ++ (lw_privs_2 ++ (lw_privs_3 ++ (lw_privs_4))), lw_okq q
  exact List.forall_mem_append.mpr ⟨lw_r1, List.forall_mem_append.mpr ⟨lw_r2, List.forall_mem_append.mpr ⟨lw_r3, lw_r4⟩⟩⟩

def kt : List Cond := lw_tbl.filter goodWord
theorem kt_good : GoodIn kt kt := fun w h => ⟨h, good_of_word (List.mem_filter.mp h).2⟩
theorem kT {w : Cond} (i : Nat) (h : tables_1[i]? = some w) (g : goodWord w = true) : w ∈ kt := List.mem_filter.mpr ⟨List.mem_append_right _ (List.mem_of_getElem? h), g⟩
theorem kS {w : Cond} (i : Nat) (h : (k2_sels lw_privs)[i]? = some w) (g : goodWord w = true) : w ∈ kt := List.mem_filter.mpr ⟨List.mem_append_left _ (List.mem_of_getElem? h), g⟩
end
section
def RX0 : String := "RankIndex$Bounds"
def TX0 : u_T := fun k => match k with
  | _ => ("", "", "", false)
def tyX0 : Nat → FieldType := fun k => match k with
  | _ => .int
abbrev wsX00 : List Cond := u_ws RX0 TX0 0
theorem nmX0 : ∀ a, a < 0 → ∀ b, b < 0 → a ≠ b → (TX0 a).2.1 ≠ (TX0 b).2.1 := by decide +kernel
theorem tyX0_ok : ∀ k, k < 0 → parseFieldDescriptor (TX0 k).2.2.1 = some (tyX0 k) := by decide +kernel
abbrev cX0_flat : ByteArray := prog_2_method_2_code
def yX0_flat : MethodName := ⟨RX0, "flat", "(I)I"⟩
abbrev cX0_tall : ByteArray := prog_2_method_3_code
def yX0_tall : MethodName := ⟨RX0, "tall", "(I)I"⟩
abbrev cX0_fewestOfRank : ByteArray := prog_2_method_4_code
def yX0_fewestOfRank : MethodName := ⟨RX0, "fewestOfRank", "(I)I"⟩
def RX1 : String := "RankIndex$Counts"
def TX1 : u_T := fun k => match k with
  | 0 => ("RankIndex$Counts", "promoted", "I", false)
  | 1 => ("RankIndex$Counts", "demoted", "I", false)
  | _ => ("RankIndex$Counts", "turns", "I", false)
def tyX1 : Nat → FieldType := fun k => match k with
  | 0 => .int
  | 1 => .int
  | _ => .int
abbrev wsX10 : List Cond := u_ws RX1 TX1 3
theorem nmX1 : ∀ a, a < 3 → ∀ b, b < 3 → a ≠ b → (TX1 a).2.1 ≠ (TX1 b).2.1 := by decide +kernel
theorem tyX1_ok : ∀ k, k < 3 → parseFieldDescriptor (TX1 k).2.2.1 = some (tyX1 k) := by decide +kernel
abbrev cX1_init : ByteArray := prog_3_method_1_code
def yX1_init : MethodName := ⟨RX1, "<init>", "()V"⟩
abbrev cX1_clear : ByteArray := prog_3_method_2_code
def yX1_clear : MethodName := ⟨RX1, "clear", "()V"⟩
abbrev cX1_copyFrom : ByteArray := prog_3_method_3_code
def yX1_copyFrom : MethodName := ⟨RX1, "copyFrom", "(LRankIndex$Counts;)V"⟩
abbrev cX1_add : ByteArray := prog_3_method_4_code
def yX1_add : MethodName := ⟨RX1, "add", "(LRankIndex$Counts;)V"⟩
abbrev cX1_together : ByteArray := prog_3_method_5_code
def yX1_together : MethodName := ⟨RX1, "together", "()I"⟩
def RX2 : String := "RankIndex$Draws"
def TX2 : u_T := fun k => match k with
  | _ => ("RankIndex$Draws", "value", "I", false)
def tyX2 : Nat → FieldType := fun k => match k with
  | _ => .int
abbrev wsX20 : List Cond := u_ws RX2 TX2 1
theorem nmX2 : ∀ a, a < 1 → ∀ b, b < 1 → a ≠ b → (TX2 a).2.1 ≠ (TX2 b).2.1 := by decide +kernel
theorem tyX2_ok : ∀ k, k < 1 → parseFieldDescriptor (TX2 k).2.2.1 = some (tyX2 k) := by decide +kernel
abbrev cX2_init : ByteArray := prog_4_method_1_code
def yX2_init : MethodName := ⟨RX2, "<init>", "()V"⟩
abbrev cX2_next : ByteArray := prog_4_method_2_code
def yX2_next : MethodName := ⟨RX2, "next", "(I)I"⟩
def RX3 : String := "RankIndex$Image"
def TX3 : u_T := fun k => match k with
  | 0 => ("RankIndex$Image", "tree", "LRankIndex$Tree;", true)
  | 1 => ("RankIndex$Image", "seedValue", "I", false)
  | _ => ("RankIndex$Image", "kept", "Z", false)
def tyX3 : Nat → FieldType := fun k => match k with
  | 0 => .object "RankIndex$Tree"
  | 1 => .int
  | _ => .boolean
abbrev wsX30 : List Cond := u_ws RX3 TX3 3
theorem nmX3 : ∀ a, a < 3 → ∀ b, b < 3 → a ≠ b → (TX3 a).2.1 ≠ (TX3 b).2.1 := by decide +kernel
theorem tyX3_ok : ∀ k, k < 3 → parseFieldDescriptor (TX3 k).2.2.1 = some (tyX3 k) := by decide +kernel
abbrev cX3_init : ByteArray := prog_5_method_1_code
def yX3_init : MethodName := ⟨RX3, "<init>", "()V"⟩
def RX4 : String := "RankIndex$Nodes"
def TX4 : u_T := fun k => match k with
  | 0 => ("RankIndex$Nodes", "keys", "[I", true)
  | 1 => ("RankIndex$Nodes", "worths", "[I", true)
  | 2 => ("RankIndex$Nodes", "ranks", "[I", true)
  | 3 => ("RankIndex$Nodes", "lefts", "[I", true)
  | 4 => ("RankIndex$Nodes", "rights", "[I", true)
  | 5 => ("RankIndex$Nodes", "parents", "[I", true)
  | 6 => ("RankIndex$Nodes", "top", "I", false)
  | _ => ("RankIndex$Nodes", "count", "I", false)
def tyX4 : Nat → FieldType := fun k => match k with
  | 0 => .array .int
  | 1 => .array .int
  | 2 => .array .int
  | 3 => .array .int
  | 4 => .array .int
  | 5 => .array .int
  | 6 => .int
  | _ => .int
abbrev wsX40 : List Cond := u_ws RX4 TX4 8
theorem nmX4 : ∀ a, a < 8 → ∀ b, b < 8 → a ≠ b → (TX4 a).2.1 ≠ (TX4 b).2.1 := by decide +kernel
theorem tyX4_ok : ∀ k, k < 8 → parseFieldDescriptor (TX4 k).2.2.1 = some (tyX4 k) := by decide +kernel
abbrev cX4_init : ByteArray := prog_6_method_1_code
def yX4_init : MethodName := ⟨RX4, "<init>", "()V"⟩
abbrev cX4_clear : ByteArray := prog_6_method_2_code
def yX4_clear : MethodName := ⟨RX4, "clear", "()V"⟩
abbrev cX4_copyFrom : ByteArray := prog_6_method_3_code
def yX4_copyFrom : MethodName := ⟨RX4, "copyFrom", "(LRankIndex$Nodes;)V"⟩
abbrev cX4_keyOf : ByteArray := prog_6_method_4_code
def yX4_keyOf : MethodName := ⟨RX4, "keyOf", "(I)I"⟩
abbrev cX4_worthOf : ByteArray := prog_6_method_5_code
def yX4_worthOf : MethodName := ⟨RX4, "worthOf", "(I)I"⟩
abbrev cX4_rankOf : ByteArray := prog_6_method_6_code
def yX4_rankOf : MethodName := ⟨RX4, "rankOf", "(I)I"⟩
abbrev cX4_leftOf : ByteArray := prog_6_method_7_code
def yX4_leftOf : MethodName := ⟨RX4, "leftOf", "(I)I"⟩
abbrev cX4_rightOf : ByteArray := prog_6_method_8_code
def yX4_rightOf : MethodName := ⟨RX4, "rightOf", "(I)I"⟩
abbrev cX4_childOf : ByteArray := prog_6_method_9_code
def yX4_childOf : MethodName := ⟨RX4, "childOf", "(IZ)I"⟩
abbrev cX4_parentOf : ByteArray := prog_6_method_10_code
def yX4_parentOf : MethodName := ⟨RX4, "parentOf", "(I)I"⟩
abbrev cX4_step : ByteArray := prog_6_method_11_code
def yX4_step : MethodName := ⟨RX4, "step", "(II)I"⟩
abbrev cX4_isLeaf : ByteArray := prog_6_method_12_code
def yX4_isLeaf : MethodName := ⟨RX4, "isLeaf", "(I)Z"⟩
abbrev cX4_setWorth : ByteArray := prog_6_method_13_code
def yX4_setWorth : MethodName := ⟨RX4, "setWorth", "(II)V"⟩
abbrev cX4_setRank : ByteArray := prog_6_method_14_code
def yX4_setRank : MethodName := ⟨RX4, "setRank", "(II)V"⟩
abbrev cX4_addRank : ByteArray := prog_6_method_15_code
def yX4_addRank : MethodName := ⟨RX4, "addRank", "(II)V"⟩
abbrev cX4_hang : ByteArray := prog_6_method_16_code
def yX4_hang : MethodName := ⟨RX4, "hang", "(IZI)V"⟩
abbrev cX4_hangNew : ByteArray := prog_6_method_17_code
def yX4_hangNew : MethodName := ⟨RX4, "hangNew", "(II)I"⟩
abbrev cX4_freeSlot : ByteArray := prog_6_method_18_code
def yX4_freeSlot : MethodName := ⟨RX4, "freeSlot", "()I"⟩
abbrev cX4_fill : ByteArray := prog_6_method_19_code
def yX4_fill : MethodName := ⟨RX4, "fill", "(III)V"⟩
abbrev cX4_takeOff : ByteArray := prog_6_method_20_code
def yX4_takeOff : MethodName := ⟨RX4, "takeOff", "(I)I"⟩
abbrev cX4_copyKeyAndWorth : ByteArray := prog_6_method_21_code
def yX4_copyKeyAndWorth : MethodName := ⟨RX4, "copyKeyAndWorth", "(II)V"⟩
abbrev cX4_turnOverParent : ByteArray := prog_6_method_22_code
def yX4_turnOverParent : MethodName := ⟨RX4, "turnOverParent", "(I)V"⟩
abbrev cX4_slotOfKey : ByteArray := prog_6_method_23_code
def yX4_slotOfKey : MethodName := ⟨RX4, "slotOfKey", "(I)I"⟩
abbrev cX4_leastBelow : ByteArray := prog_6_method_24_code
def yX4_leastBelow : MethodName := ⟨RX4, "leastBelow", "(I)I"⟩
abbrev cX4_greatestBelow : ByteArray := prog_6_method_25_code
def yX4_greatestBelow : MethodName := ⟨RX4, "greatestBelow", "(I)I"⟩
abbrev cX4_endOf : ByteArray := prog_6_method_26_code
def yX4_endOf : MethodName := ⟨RX4, "endOf", "(IZ)I"⟩
abbrev cX4_nextRising : ByteArray := prog_6_method_27_code
def yX4_nextRising : MethodName := ⟨RX4, "nextRising", "(I)I"⟩
abbrev cX4_nextByNumber : ByteArray := prog_6_method_28_code
def yX4_nextByNumber : MethodName := ⟨RX4, "nextByNumber", "(I)I"⟩
abbrev cX4_slotOfNumber : ByteArray := prog_6_method_29_code
def yX4_slotOfNumber : MethodName := ⟨RX4, "slotOfNumber", "(I)I"⟩
abbrev cX4_numberOfSlot : ByteArray := prog_6_method_30_code
def yX4_numberOfSlot : MethodName := ⟨RX4, "numberOfSlot", "(I)I"⟩
abbrev cX4_howManyAbove : ByteArray := prog_6_method_31_code
def yX4_howManyAbove : MethodName := ⟨RX4, "howManyAbove", "(I)I"⟩
def RX5 : String := "RankIndex$Past"
def TX5 : u_T := fun k => match k with
  | 0 => ("RankIndex$Past", "rows", "[LRankIndex$Tree;", true)
  | 1 => ("RankIndex$Past", "next", "I", false)
  | _ => ("RankIndex$Past", "held", "I", false)
def tyX5 : Nat → FieldType := fun k => match k with
  | 0 => .array (.object "RankIndex$Tree")
  | 1 => .int
  | _ => .int
abbrev wsX50 : List Cond := u_ws RX5 TX5 3
theorem nmX5 : ∀ a, a < 3 → ∀ b, b < 3 → a ≠ b → (TX5 a).2.1 ≠ (TX5 b).2.1 := by decide +kernel
theorem tyX5_ok : ∀ k, k < 3 → parseFieldDescriptor (TX5 k).2.2.1 = some (tyX5 k) := by decide +kernel
abbrev cX5_init : ByteArray := prog_7_method_1_code
def yX5_init : MethodName := ⟨RX5, "<init>", "()V"⟩
abbrev cX5_remember : ByteArray := prog_7_method_2_code
def yX5_remember : MethodName := ⟨RX5, "remember", "(LRankIndex$Tree;)V"⟩
abbrev cX5_restore : ByteArray := prog_7_method_3_code
def yX5_restore : MethodName := ⟨RX5, "restore", "(LRankIndex$Tree;I)V"⟩
abbrev cX5_forget : ByteArray := prog_7_method_4_code
def yX5_forget : MethodName := ⟨RX5, "forget", "()V"⟩
def RX6 : String := "RankIndex$Survey"
def TX6 : u_T := fun k => match k with
  | _ => ("", "", "", false)
def tyX6 : Nat → FieldType := fun k => match k with
  | _ => .int
abbrev wsX60 : List Cond := u_ws RX6 TX6 0
theorem nmX6 : ∀ a, a < 0 → ∀ b, b < 0 → a ≠ b → (TX6 a).2.1 ≠ (TX6 b).2.1 := by decide +kernel
theorem tyX6_ok : ∀ k, k < 0 → parseFieldDescriptor (TX6 k).2.2.1 = some (tyX6 k) := by decide +kernel
abbrev cX6_isFrom : ByteArray := prog_8_method_2_code
def yX6_isFrom : MethodName := ⟨RX6, "isFrom", "(LRankIndex$Nodes;III)Z"⟩
abbrev cX6_howManyFrom : ByteArray := prog_8_method_3_code
def yX6_howManyFrom : MethodName := ⟨RX6, "howManyFrom", "(LRankIndex$Nodes;II)I"⟩
abbrev cX6_worthFrom : ByteArray := prog_8_method_4_code
def yX6_worthFrom : MethodName := ⟨RX6, "worthFrom", "(LRankIndex$Nodes;II)I"⟩
abbrev cX6_mostWorthFrom : ByteArray := prog_8_method_5_code
def yX6_mostWorthFrom : MethodName := ⟨RX6, "mostWorthFrom", "(LRankIndex$Nodes;II)I"⟩
abbrev cX6_isWorthier : ByteArray := prog_8_method_6_code
def yX6_isWorthier : MethodName := ⟨RX6, "isWorthier", "(LRankIndex$Nodes;II)Z"⟩
abbrev cX6_howManyLess : ByteArray := prog_8_method_7_code
def yX6_howManyLess : MethodName := ⟨RX6, "howManyLess", "(LRankIndex$Nodes;I)I"⟩
abbrev cX6_greatestLess : ByteArray := prog_8_method_8_code
def yX6_greatestLess : MethodName := ⟨RX6, "greatestLess", "(LRankIndex$Nodes;I)I"⟩
abbrev cX6_leastGreater : ByteArray := prog_8_method_9_code
def yX6_leastGreater : MethodName := ⟨RX6, "leastGreater", "(LRankIndex$Nodes;I)I"⟩
abbrev cX6_howManyBelow : ByteArray := prog_8_method_10_code
def yX6_howManyBelow : MethodName := ⟨RX6, "howManyBelow", "(LRankIndex$Nodes;I)I"⟩
abbrev cX6_depth : ByteArray := prog_8_method_11_code
def yX6_depth : MethodName := ⟨RX6, "depth", "(LRankIndex$Nodes;)I"⟩
abbrev cX6_ranksTogether : ByteArray := prog_8_method_12_code
def yX6_ranksTogether : MethodName := ⟨RX6, "ranksTogether", "(LRankIndex$Nodes;)I"⟩
abbrev cX6_longSteps : ByteArray := prog_8_method_13_code
def yX6_longSteps : MethodName := ⟨RX6, "longSteps", "(LRankIndex$Nodes;)I"⟩
abbrev cX6_firstWrong : ByteArray := prog_8_method_14_code
def yX6_firstWrong : MethodName := ⟨RX6, "firstWrong", "(LRankIndex$Nodes;)I"⟩
abbrev cX6_isRight : ByteArray := prog_8_method_15_code
def yX6_isRight : MethodName := ⟨RX6, "isRight", "(LRankIndex$Nodes;I)Z"⟩
def RX7 : String := "RankIndex$Tree"
def TX7 : u_T := fun k => match k with
  | 0 => ("RankIndex$Tree", "nodes", "LRankIndex$Nodes;", true)
  | 1 => ("RankIndex$Tree", "all", "LRankIndex$Counts;", true)
  | _ => ("RankIndex$Tree", "latest", "LRankIndex$Counts;", true)
def tyX7 : Nat → FieldType := fun k => match k with
  | 0 => .object "RankIndex$Nodes"
  | 1 => .object "RankIndex$Counts"
  | _ => .object "RankIndex$Counts"
abbrev wsX70 : List Cond := u_ws RX7 TX7 3
theorem nmX7 : ∀ a, a < 3 → ∀ b, b < 3 → a ≠ b → (TX7 a).2.1 ≠ (TX7 b).2.1 := by decide +kernel
theorem tyX7_ok : ∀ k, k < 3 → parseFieldDescriptor (TX7 k).2.2.1 = some (tyX7 k) := by decide +kernel
abbrev cX7_init : ByteArray := prog_9_method_1_code
def yX7_init : MethodName := ⟨RX7, "<init>", "()V"⟩
abbrev cX7_copyFrom : ByteArray := prog_9_method_2_code
def yX7_copyFrom : MethodName := ⟨RX7, "copyFrom", "(LRankIndex$Tree;)V"⟩
abbrev cX7_add : ByteArray := prog_9_method_3_code
def yX7_add : MethodName := ⟨RX7, "add", "(II)V"⟩
abbrev cX7_remove : ByteArray := prog_9_method_4_code
def yX7_remove : MethodName := ⟨RX7, "remove", "(I)V"⟩
abbrev cX7_mendUpwards : ByteArray := prog_9_method_5_code
def yX7_mendUpwards : MethodName := ⟨RX7, "mendUpwards", "(I)V"⟩
abbrev cX7_turnAfterAdding : ByteArray := prog_9_method_6_code
def yX7_turnAfterAdding : MethodName := ⟨RX7, "turnAfterAdding", "(IIZ)V"⟩
abbrev cX7_mendGap : ByteArray := prog_9_method_7_code
def yX7_mendGap : MethodName := ⟨RX7, "mendGap", "(II)V"⟩
abbrev cX7_hasOnlyLongSteps : ByteArray := prog_9_method_8_code
def yX7_hasOnlyLongSteps : MethodName := ⟨RX7, "hasOnlyLongSteps", "(I)Z"⟩
abbrev cX7_turnAfterRemoving : ByteArray := prog_9_method_9_code
def yX7_turnAfterRemoving : MethodName := ⟨RX7, "turnAfterRemoving", "(IIZ)V"⟩
abbrev cX7_promote : ByteArray := prog_9_method_10_code
def yX7_promote : MethodName := ⟨RX7, "promote", "(I)V"⟩
abbrev cX7_demote : ByteArray := prog_9_method_11_code
def yX7_demote : MethodName := ⟨RX7, "demote", "(I)V"⟩
def RX8 : String := "RankIndex"
def TX8 : u_T := fun k => match k with
  | 0 => ("RankIndex", "tree", "LRankIndex$Tree;", true)
  | 1 => ("RankIndex", "trial", "LRankIndex$Tree;", true)
  | 2 => ("RankIndex", "past", "LRankIndex$Past;", true)
  | 3 => ("RankIndex", "images", "[LRankIndex$Image;", true)
  | _ => ("RankIndex", "draws", "LRankIndex$Draws;", true)
def tyX8 : Nat → FieldType := fun k => match k with
  | 0 => .object "RankIndex$Tree"
  | 1 => .object "RankIndex$Tree"
  | 2 => .object "RankIndex$Past"
  | 3 => .array (.object "RankIndex$Image")
  | _ => .object "RankIndex$Draws"
abbrev wsX80 : List Cond := u_ws RX8 TX8 5
theorem nmX8 : ∀ a, a < 5 → ∀ b, b < 5 → a ≠ b → (TX8 a).2.1 ≠ (TX8 b).2.1 := by decide +kernel
theorem tyX8_ok : ∀ k, k < 5 → parseFieldDescriptor (TX8 k).2.2.1 = some (tyX8 k) := by decide +kernel
abbrev cX8_init : ByteArray := prog_1_method_1_code
def yX8_init : MethodName := ⟨RX8, "<init>", "()V"⟩
abbrev cX8_told : ByteArray := prog_1_method_2_code
def yX8_told : MethodName := ⟨RX8, "told", "(I)I"⟩
abbrev cX8_node : ByteArray := prog_1_method_3_code
def yX8_node : MethodName := ⟨RX8, "node", "(II)I"⟩
abbrev cX8_key : ByteArray := prog_1_method_4_code
def yX8_key : MethodName := ⟨RX8, "key", "(II)I"⟩
abbrev cX8_at : ByteArray := prog_1_method_5_code
def yX8_at : MethodName := ⟨RX8, "at", "(I)I"⟩
abbrev cX8_put : ByteArray := prog_1_method_6_code
def yX8_put : MethodName := ⟨RX8, "put", "(II)I"⟩
abbrev cX8_take : ByteArray := prog_1_method_7_code
def yX8_take : MethodName := ⟨RX8, "take", "(I)I"⟩
abbrev cX8_worth : ByteArray := prog_1_method_8_code
def yX8_worth : MethodName := ⟨RX8, "worth", "(II)I"⟩
abbrev cX8_cut : ByteArray := prog_1_method_9_code
def yX8_cut : MethodName := ⟨RX8, "cut", "(I)I"⟩
abbrev cX8_batch : ByteArray := prog_1_method_10_code
def yX8_batch : MethodName := ⟨RX8, "batch", "(III)I"⟩
abbrev cX8_rebuild : ByteArray := prog_1_method_11_code
def yX8_rebuild : MethodName := ⟨RX8, "rebuild", "()I"⟩
abbrev cX8_join : ByteArray := prog_1_method_12_code
def yX8_join : MethodName := ⟨RX8, "join", "(I)I"⟩
abbrev cX8_drift : ByteArray := prog_1_method_13_code
def yX8_drift : MethodName := ⟨RX8, "drift", "(I)I"⟩
abbrev cX8_undo : ByteArray := prog_1_method_14_code
def yX8_undo : MethodName := ⟨RX8, "undo", "(I)I"⟩
abbrev cX8_less : ByteArray := prog_1_method_15_code
def yX8_less : MethodName := ⟨RX8, "less", "(I)I"⟩
abbrev cX8_beside : ByteArray := prog_1_method_16_code
def yX8_beside : MethodName := ⟨RX8, "beside", "(II)I"⟩
abbrev cX8_between : ByteArray := prog_1_method_17_code
def yX8_between : MethodName := ⟨RX8, "between", "(III)I"⟩
abbrev cX8_way : ByteArray := prog_1_method_18_code
def yX8_way : MethodName := ⟨RX8, "way", "(II)I"⟩
abbrev cX8_audit : ByteArray := prog_1_method_19_code
def yX8_audit : MethodName := ⟨RX8, "audit", "(II)I"⟩
abbrev cX8_seed : ByteArray := prog_1_method_20_code
def yX8_seed : MethodName := ⟨RX8, "seed", "(I)I"⟩
abbrev cX8_keep : ByteArray := prog_1_method_21_code
def yX8_keep : MethodName := ⟨RX8, "keep", "(I)I"⟩
abbrev cX8_goBack : ByteArray := prog_1_method_22_code
def yX8_goBack : MethodName := ⟨RX8, "goBack", "(I)I"⟩
abbrev cX8_isWithin : ByteArray := prog_1_method_23_code
def yX8_isWithin : MethodName := ⟨RX8, "isWithin", "(III)Z"⟩
abbrev cX8_isKey : ByteArray := prog_1_method_24_code
def yX8_isKey : MethodName := ⟨RX8, "isKey", "(I)Z"⟩
abbrev cX8_isWorth : ByteArray := prog_1_method_25_code
def yX8_isWorth : MethodName := ⟨RX8, "isWorth", "(I)Z"⟩
abbrev cX8_isImage : ByteArray := prog_1_method_26_code
def yX8_isImage : MethodName := ⟨RX8, "isImage", "(I)Z"⟩
abbrev cX8_isThere : ByteArray := prog_1_method_27_code
def yX8_isThere : MethodName := ⟨RX8, "isThere", "(I)Z"⟩
abbrev cX8_hasRoom : ByteArray := prog_1_method_28_code
def yX8_hasRoom : MethodName := ⟨RX8, "hasRoom", "()Z"⟩
abbrev cX8_addIfItCan : ByteArray := prog_1_method_29_code
def yX8_addIfItCan : MethodName := ⟨RX8, "addIfItCan", "(II)V"⟩
abbrev cX8_addRising : ByteArray := prog_1_method_30_code
def yX8_addRising : MethodName := ⟨RX8, "addRising", "(LRankIndex$Nodes;I)V"⟩
abbrev cX8_driftOnce : ByteArray := prog_1_method_31_code
def yX8_driftOnce : MethodName := ⟨RX8, "driftOnce", "()V"⟩
abbrev cX8_costliestKey : ByteArray := prog_1_method_32_code
def yX8_costliestKey : MethodName := ⟨RX8, "costliestKey", "()I"⟩
def RX9 : String := "RankIndexModel"
def TX9 : u_T := fun k => match k with
  | 0 => ("RankIndexModel", "now", "[I", true)
  | 1 => ("RankIndexModel", "past", "[I", true)
  | 2 => ("RankIndexModel", "undone", "I", false)
  | 3 => ("RankIndexModel", "images", "[I", true)
  | 4 => ("RankIndexModel", "imageSeed", "[I", true)
  | 5 => ("RankIndexModel", "isKept", "[Z", true)
  | 6 => ("RankIndexModel", "seedNow", "I", false)
  | 7 => ("RankIndexModel", "order", "[I", true)
  | 8 => ("RankIndexModel", "numberOf", "[I", true)
  | 9 => ("RankIndexModel", "above", "[I", true)
  | 10 => ("RankIndexModel", "pile", "[I", true)
  | 11 => ("RankIndexModel", "aside", "[I", true)
  | 12 => ("RankIndexModel", "fewest", "[I", true)
  | 13 => ("RankIndexModel", "deep", "[I", true)
  | 14 => ("RankIndexModel", "keys", "[I", true)
  | _ => ("RankIndexModel", "worths", "[I", true)
def tyX9 : Nat → FieldType := fun k => match k with
  | 0 => .array .int
  | 1 => .array .int
  | 2 => .int
  | 3 => .array .int
  | 4 => .array .int
  | 5 => .array .boolean
  | 6 => .int
  | 7 => .array .int
  | 8 => .array .int
  | 9 => .array .int
  | 10 => .array .int
  | 11 => .array .int
  | 12 => .array .int
  | 13 => .array .int
  | 14 => .array .int
  | _ => .array .int
abbrev wsX90 : List Cond := u_ws RX9 TX9 16
theorem nmX9 : ∀ a, a < 16 → ∀ b, b < 16 → a ≠ b → (TX9 a).2.1 ≠ (TX9 b).2.1 := by decide +kernel
theorem tyX9_ok : ∀ k, k < 16 → parseFieldDescriptor (TX9 k).2.2.1 = some (tyX9 k) := by decide +kernel
abbrev cX9_init : ByteArray := prog_11_method_1_code
def yX9_init : MethodName := ⟨RX9, "<init>", "()V"⟩
abbrev cX9_in : ByteArray := prog_11_method_3_code
def yX9_in : MethodName := ⟨RX9, "in", "(JJJ)Z"⟩
abbrev cX9_of : ByteArray := prog_11_method_4_code
def yX9_of : MethodName := ⟨RX9, "of", "(II)I"⟩
abbrev cX9_lays : ByteArray := prog_11_method_5_code
def yX9_lays : MethodName := ⟨RX9, "lays", "(III)V"⟩
abbrev cX9_goesEmpty : ByteArray := prog_11_method_6_code
def yX9_goesEmpty : MethodName := ⟨RX9, "goesEmpty", "()V"⟩
abbrev cX9_empties : ByteArray := prog_11_method_7_code
def yX9_empties : MethodName := ⟨RX9, "empties", "()V"⟩
abbrev cX9_top : ByteArray := prog_11_method_8_code
def yX9_top : MethodName := ⟨RX9, "top", "()I"⟩
abbrev cX9_many : ByteArray := prog_11_method_9_code
def yX9_many : MethodName := ⟨RX9, "many", "()I"⟩
abbrev cX9_rankOf : ByteArray := prog_11_method_10_code
def yX9_rankOf : MethodName := ⟨RX9, "rankOf", "(I)I"⟩
abbrev cX9_child : ByteArray := prog_11_method_11_code
def yX9_child : MethodName := ⟨RX9, "child", "(IZ)I"⟩
abbrev cX9_isLeftOf : ByteArray := prog_11_method_12_code
def yX9_isLeftOf : MethodName := ⟨RX9, "isLeftOf", "(II)Z"⟩
abbrev cX9_hasNoChildren : ByteArray := prog_11_method_13_code
def yX9_hasNoChildren : MethodName := ⟨RX9, "hasNoChildren", "(I)Z"⟩
abbrev cX9_counts : ByteArray := prog_11_method_14_code
def yX9_counts : MethodName := ⟨RX9, "counts", "(I)V"⟩
abbrev cX9_begins : ByteArray := prog_11_method_15_code
def yX9_begins : MethodName := ⟨RX9, "begins", "()V"⟩
abbrev cX9_hangs : ByteArray := prog_11_method_16_code
def yX9_hangs : MethodName := ⟨RX9, "hangs", "(IZI)V"⟩
abbrev cX9_turns : ByteArray := prog_11_method_17_code
def yX9_turns : MethodName := ⟨RX9, "turns", "(I)V"⟩
abbrev cX9_ranks : ByteArray := prog_11_method_18_code
def yX9_ranks : MethodName := ⟨RX9, "ranks", "(II)V"⟩
abbrev cX9_step : ByteArray := prog_11_method_19_code
def yX9_step : MethodName := ⟨RX9, "step", "(II)I"⟩
abbrev cX9_find : ByteArray := prog_11_method_20_code
def yX9_find : MethodName := ⟨RX9, "find", "(I)I"⟩
abbrev cX9_freeOne : ByteArray := prog_11_method_21_code
def yX9_freeOne : MethodName := ⟨RX9, "freeOne", "()I"⟩
abbrev cX9_puts : ByteArray := prog_11_method_22_code
def yX9_puts : MethodName := ⟨RX9, "puts", "(II)V"⟩
abbrev cX9_rises : ByteArray := prog_11_method_23_code
def yX9_rises : MethodName := ⟨RX9, "rises", "(I)V"⟩
abbrev cX9_turnsUp : ByteArray := prog_11_method_24_code
def yX9_turnsUp : MethodName := ⟨RX9, "turnsUp", "(III)V"⟩
abbrev cX9_leastBelow : ByteArray := prog_11_method_25_code
def yX9_leastBelow : MethodName := ⟨RX9, "leastBelow", "(I)I"⟩
abbrev cX9_takes : ByteArray := prog_11_method_26_code
def yX9_takes : MethodName := ⟨RX9, "takes", "(I)V"⟩
abbrev cX9_falls : ByteArray := prog_11_method_27_code
def yX9_falls : MethodName := ⟨RX9, "falls", "(IZ)V"⟩
abbrev cX9_turnsDown : ByteArray := prog_11_method_28_code
def yX9_turnsDown : MethodName := ⟨RX9, "turnsDown", "(IIZ)V"⟩
abbrev cX9_numbers : ByteArray := prog_11_method_29_code
def yX9_numbers : MethodName := ⟨RX9, "numbers", "()V"⟩
abbrev cX9_sizeOf : ByteArray := prog_11_method_30_code
def yX9_sizeOf : MethodName := ⟨RX9, "sizeOf", "(I)I"⟩
abbrev cX9_depth : ByteArray := prog_11_method_31_code
def yX9_depth : MethodName := ⟨RX9, "depth", "()I"⟩
abbrev cX9_lessThan : ByteArray := prog_11_method_32_code
def yX9_lessThan : MethodName := ⟨RX9, "lessThan", "(I)I"⟩
abbrev cX9_besideOf : ByteArray := prog_11_method_33_code
def yX9_besideOf : MethodName := ⟨RX9, "besideOf", "(IZ)I"⟩
abbrev cX9_sumOf : ByteArray := prog_11_method_34_code
def yX9_sumOf : MethodName := ⟨RX9, "sumOf", "(I)I"⟩
abbrev cX9_twos : ByteArray := prog_11_method_35_code
def yX9_twos : MethodName := ⟨RX9, "twos", "()I"⟩
abbrev cX9_costs : ByteArray := prog_11_method_36_code
def yX9_costs : MethodName := ⟨RX9, "costs", "(I)I"⟩
abbrev cX9_costly : ByteArray := prog_11_method_37_code
def yX9_costly : MethodName := ⟨RX9, "costly", "()I"⟩
abbrev cX9_flat : ByteArray := prog_11_method_38_code
def yX9_flat : MethodName := ⟨RX9, "flat", "()I"⟩
abbrev cX9_lesser : ByteArray := prog_11_method_39_code
def yX9_lesser : MethodName := ⟨RX9, "lesser", "(II)I"⟩
abbrev cX9_tall : ByteArray := prog_11_method_40_code
def yX9_tall : MethodName := ⟨RX9, "tall", "()I"⟩
abbrev cX9_told : ByteArray := prog_11_method_41_code
def yX9_told : MethodName := ⟨RX9, "told", "(I)I"⟩
abbrev cX9_isNode : ByteArray := prog_11_method_42_code
def yX9_isNode : MethodName := ⟨RX9, "isNode", "(I)Z"⟩
abbrev cX9_numberAt : ByteArray := prog_11_method_43_code
def yX9_numberAt : MethodName := ⟨RX9, "numberAt", "(I)I"⟩
abbrev cX9_node : ByteArray := prog_11_method_44_code
def yX9_node : MethodName := ⟨RX9, "node", "(II)I"⟩
abbrev cX9_key : ByteArray := prog_11_method_45_code
def yX9_key : MethodName := ⟨RX9, "key", "(II)I"⟩
abbrev cX9_at : ByteArray := prog_11_method_46_code
def yX9_at : MethodName := ⟨RX9, "at", "(I)I"⟩
abbrev cX9_save : ByteArray := prog_11_method_47_code
def yX9_save : MethodName := ⟨RX9, "save", "()V"⟩
abbrev cX9_isKey : ByteArray := prog_11_method_48_code
def yX9_isKey : MethodName := ⟨RX9, "isKey", "(I)Z"⟩
abbrev cX9_isThere : ByteArray := prog_11_method_49_code
def yX9_isThere : MethodName := ⟨RX9, "isThere", "(I)Z"⟩
abbrev cX9_put : ByteArray := prog_11_method_50_code
def yX9_put : MethodName := ⟨RX9, "put", "(II)I"⟩
abbrev cX9_take : ByteArray := prog_11_method_51_code
def yX9_take : MethodName := ⟨RX9, "take", "(I)I"⟩
abbrev cX9_worth : ByteArray := prog_11_method_52_code
def yX9_worth : MethodName := ⟨RX9, "worth", "(II)I"⟩
abbrev cX9_cut : ByteArray := prog_11_method_53_code
def yX9_cut : MethodName := ⟨RX9, "cut", "(I)I"⟩
abbrev cX9_comes : ByteArray := prog_11_method_54_code
def yX9_comes : MethodName := ⟨RX9, "comes", "(II)Z"⟩
abbrev cX9_batch : ByteArray := prog_11_method_55_code
def yX9_batch : MethodName := ⟨RX9, "batch", "(III)I"⟩
abbrev cX9_rebuild : ByteArray := prog_11_method_56_code
def yX9_rebuild : MethodName := ⟨RX9, "rebuild", "()I"⟩
abbrev cX9_nextInImage : ByteArray := prog_11_method_57_code
def yX9_nextInImage : MethodName := ⟨RX9, "nextInImage", "(II)I"⟩
abbrev cX9_join : ByteArray := prog_11_method_58_code
def yX9_join : MethodName := ⟨RX9, "join", "(I)I"⟩
abbrev cX9_draw : ByteArray := prog_11_method_59_code
def yX9_draw : MethodName := ⟨RX9, "draw", "(I)I"⟩
abbrev cX9_drift : ByteArray := prog_11_method_60_code
def yX9_drift : MethodName := ⟨RX9, "drift", "(I)I"⟩
abbrev cX9_undo : ByteArray := prog_11_method_61_code
def yX9_undo : MethodName := ⟨RX9, "undo", "(I)I"⟩
abbrev cX9_less : ByteArray := prog_11_method_62_code
def yX9_less : MethodName := ⟨RX9, "less", "(I)I"⟩
abbrev cX9_beside : ByteArray := prog_11_method_63_code
def yX9_beside : MethodName := ⟨RX9, "beside", "(II)I"⟩
abbrev cX9_most : ByteArray := prog_11_method_64_code
def yX9_most : MethodName := ⟨RX9, "most", "(II)I"⟩
abbrev cX9_sumBetween : ByteArray := prog_11_method_65_code
def yX9_sumBetween : MethodName := ⟨RX9, "sumBetween", "(IIZ)I"⟩
abbrev cX9_between : ByteArray := prog_11_method_66_code
def yX9_between : MethodName := ⟨RX9, "between", "(III)I"⟩
abbrev cX9_way : ByteArray := prog_11_method_67_code
def yX9_way : MethodName := ⟨RX9, "way", "(II)I"⟩
abbrev cX9_rankWith : ByteArray := prog_11_method_68_code
def yX9_rankWith : MethodName := ⟨RX9, "rankWith", "(III)I"⟩
abbrev cX9_audit : ByteArray := prog_11_method_69_code
def yX9_audit : MethodName := ⟨RX9, "audit", "(II)I"⟩
abbrev cX9_seed : ByteArray := prog_11_method_70_code
def yX9_seed : MethodName := ⟨RX9, "seed", "(I)I"⟩
abbrev cX9_keep : ByteArray := prog_11_method_71_code
def yX9_keep : MethodName := ⟨RX9, "keep", "(I)I"⟩
abbrev cX9_goBack : ByteArray := prog_11_method_72_code
def yX9_goBack : MethodName := ⟨RX9, "goBack", "(I)I"⟩
def RJ9 : String := "java/lang/Math"
def TJ9 : u_T := fun k => match k with
  | _ => ("", "", "", false)
def tyJ9 : Nat → FieldType := fun k => match k with
  | _ => .int
abbrev wsJ90 : List Cond := u_ws RJ9 TJ9 0
theorem nmJ9 : ∀ a, a < 0 → ∀ b, b < 0 → a ≠ b → (TJ9 a).2.1 ≠ (TJ9 b).2.1 := by decide +kernel
theorem tyJ9_ok : ∀ k, k < 0 → parseFieldDescriptor (TJ9 k).2.2.1 = some (tyJ9 k) := by decide +kernel
abbrev cJ9_max_7cf53 : ByteArray := prog_12_method_65_code
def yJ9_max_7cf53 : MethodName := ⟨RJ9, "max", "(II)I"⟩
abbrev cJ9_min_7cf53 : ByteArray := prog_12_method_69_code
def yJ9_min_7cf53 : MethodName := ⟨RJ9, "min", "(II)I"⟩
def RJ10 : String := "java/lang/System"
def TJ10 : u_T := fun k => match k with
  | _ => ("", "", "", false)
def tyJ10 : Nat → FieldType := fun k => match k with
  | _ => .int
abbrev wsJ100 : List Cond := u_ws RJ10 TJ10 0
theorem nmJ10 : ∀ a, a < 0 → ∀ b, b < 0 → a ≠ b → (TJ10 a).2.1 ≠ (TJ10 b).2.1 := by decide +kernel
theorem tyJ10_ok : ∀ k, k < 0 → parseFieldDescriptor (TJ10 k).2.2.1 = some (tyJ10 k) := by decide +kernel
def RJ7 : String := "java/util/Arrays"
def TJ7 : u_T := fun k => match k with
  | _ => ("", "", "", false)
def tyJ7 : Nat → FieldType := fun k => match k with
  | _ => .int
abbrev wsJ70 : List Cond := u_ws RJ7 TJ7 0
theorem nmJ7 : ∀ a, a < 0 → ∀ b, b < 0 → a ≠ b → (TJ7 a).2.1 ≠ (TJ7 b).2.1 := by decide +kernel
theorem tyJ7_ok : ∀ k, k < 0 → parseFieldDescriptor (TJ7 k).2.2.1 = some (tyJ7 k) := by decide +kernel
abbrev cJ7_fill_53178 : ByteArray := prog_14_method_103_code
def yJ7_fill_53178 : MethodName := ⟨RJ7, "fill", "([II)V"⟩
def RL : String := "RankIndexLaw"
abbrev cL_law : ByteArray := code
def yL_law : MethodName := ⟨RL, "law", "([I)Z"⟩
abbrev vwCl : List vw_C := [(RX1, TX1, 3), (RX2, TX2, 1), (RX3, TX3, 3), (RX4, TX4, 8), (RX5, TX5, 3), (RX7, TX7, 3), (RX8, TX8, 5), (RX9, TX9, 16)]
theorem kIN_RL : Cond.initialized RL ∈ kt := kT 0 (by decide +kernel) (by decide +kernel)
theorem kIN_RX8 : Cond.initialized RX8 ∈ kt := kT 1 (by decide +kernel) (by decide +kernel)
theorem kIN_RX7 : Cond.initialized RX7 ∈ kt := kT 2 (by decide +kernel) (by decide +kernel)
theorem kIN_RX4 : Cond.initialized RX4 ∈ kt := kT 3 (by decide +kernel) (by decide +kernel)
theorem kIN_RJ7 : Cond.initialized RJ7 ∈ kt := kT 4 (by decide +kernel) (by decide +kernel)
theorem kIN_RX1 : Cond.initialized RX1 ∈ kt := kT 5 (by decide +kernel) (by decide +kernel)
theorem kIN_RX5 : Cond.initialized RX5 ∈ kt := kT 6 (by decide +kernel) (by decide +kernel)
theorem kIN_RX2 : Cond.initialized RX2 ∈ kt := kT 7 (by decide +kernel) (by decide +kernel)
theorem kIN_RX3 : Cond.initialized RX3 ∈ kt := kT 8 (by decide +kernel) (by decide +kernel)
theorem kIN_RX9 : Cond.initialized RX9 ∈ kt := kT 9 (by decide +kernel) (by decide +kernel)
theorem kIN_RX6 : Cond.initialized RX6 ∈ kt := kT 10 (by decide +kernel) (by decide +kernel)
theorem kIN_RJ9 : Cond.initialized RJ9 ∈ kt := kT 11 (by decide +kernel) (by decide +kernel)
theorem kIN_RJ10 : Cond.initialized RJ10 ∈ kt := kT 12 (by decide +kernel) (by decide +kernel)
theorem kIN_RX0 : Cond.initialized RX0 ∈ kt := kT 13 (by decide +kernel) (by decide +kernel)
theorem kCL_RL_7 : Cond.classLink RL 7 RX8 ∈ kt := kT 14 (by decide +kernel) (by decide +kernel)
theorem kIS_RX8 : Cond.instantiable RX8 5 ∈ kt := kT 15 (by decide +kernel) (by decide +kernel)
theorem kML_RL_9 : Cond.methodLink RL 9 yX8_init ∈ kt := kT 16 (by decide +kernel) (by decide +kernel)
theorem kIM_yX8_init : Cond.instanceMethod yX8_init ∈ kt := kT 17 (by decide +kernel) (by decide +kernel)
theorem kCO_yX8_init : Cond.code yX8_init cX8_init 2 none ∈ kt := kT 18 (by decide +kernel) (by decide +kernel)
theorem kML_RX8_1 : Cond.methodLink RX8 1 objectInit ∈ kt := kT 19 (by decide +kernel) (by decide +kernel)
theorem kIM_objectInit : Cond.instanceMethod objectInit ∈ kt := kT 20 (by decide +kernel) (by decide +kernel)
theorem kCO_objectInit : Cond.code objectInit ⟨#[0xb1]⟩ 1 none ∈ kt := kT 21 (by decide +kernel) (by decide +kernel)
theorem kCL_RX8_7 : Cond.classLink RX8 7 RX7 ∈ kt := kT 22 (by decide +kernel) (by decide +kernel)
theorem kIS_RX7 : Cond.instantiable RX7 3 ∈ kt := kT 23 (by decide +kernel) (by decide +kernel)
theorem kIM_yX7_init : Cond.instanceMethod yX7_init ∈ kt := kT 25 (by decide +kernel) (by decide +kernel)
theorem kCO_yX7_init : Cond.code yX7_init cX7_init 1 none ∈ kt := kT 26 (by decide +kernel) (by decide +kernel)
theorem kML_RX7_3 : Cond.methodLink RX7 3 objectInit ∈ kt := kT 27 (by decide +kernel) (by decide +kernel)
theorem kCL_RX7_9 : Cond.classLink RX7 9 RX4 ∈ kt := kT 28 (by decide +kernel) (by decide +kernel)
theorem kIS_RX4 : Cond.instantiable RX4 8 ∈ kt := kT 29 (by decide +kernel) (by decide +kernel)
theorem kML_RX7_11 : Cond.methodLink RX7 11 yX4_init ∈ kt := kT 30 (by decide +kernel) (by decide +kernel)
theorem kIM_yX4_init : Cond.instanceMethod yX4_init ∈ kt := kT 31 (by decide +kernel) (by decide +kernel)
theorem kCO_yX4_init : Cond.code yX4_init cX4_init 1 none ∈ kt := kT 32 (by decide +kernel) (by decide +kernel)
theorem kML_RX4_3 : Cond.methodLink RX4 3 objectInit ∈ kt := kT 33 (by decide +kernel) (by decide +kernel)
theorem kML_RX4_37 : Cond.methodLink RX4 37 yJ7_fill_53178 ∈ kt := kT 34 (by decide +kernel) (by decide +kernel)
theorem kSM_yJ7_fill_53178 : Cond.static yJ7_fill_53178 ∈ kt := kT 35 (by decide +kernel) (by decide +kernel)
theorem kCO_yJ7_fill_53178 : Cond.code yJ7_fill_53178 cJ7_fill_53178 4 none ∈ kt := kT 36 (by decide +kernel) (by decide +kernel)
theorem kFL_RX4_9 : Cond.fieldLink RX4 9 "RankIndex$Nodes" "keys" "[I" ∈ kt := kT 37 (by decide +kernel) (by decide +kernel)
theorem kFL_RX4_15 : Cond.fieldLink RX4 15 "RankIndex$Nodes" "worths" "[I" ∈ kt := kT 38 (by decide +kernel) (by decide +kernel)
theorem kFL_RX4_18 : Cond.fieldLink RX4 18 "RankIndex$Nodes" "ranks" "[I" ∈ kt := kT 39 (by decide +kernel) (by decide +kernel)
theorem kFL_RX4_21 : Cond.fieldLink RX4 21 "RankIndex$Nodes" "lefts" "[I" ∈ kt := kT 40 (by decide +kernel) (by decide +kernel)
theorem kFL_RX4_24 : Cond.fieldLink RX4 24 "RankIndex$Nodes" "rights" "[I" ∈ kt := kT 41 (by decide +kernel) (by decide +kernel)
theorem kFL_RX4_27 : Cond.fieldLink RX4 27 "RankIndex$Nodes" "parents" "[I" ∈ kt := kT 42 (by decide +kernel) (by decide +kernel)
theorem kFL_RX4_30 : Cond.fieldLink RX4 30 "RankIndex$Nodes" "top" "I" ∈ kt := kT 43 (by decide +kernel) (by decide +kernel)
theorem kFL_RX8_50 : Cond.fieldLink RX8 50 "RankIndex$Nodes" "top" "I" ∈ kt := kT 44 (by decide +kernel) (by decide +kernel)
theorem kFL_RX6_28 : Cond.fieldLink RX6 28 "RankIndex$Nodes" "top" "I" ∈ kt := kT 45 (by decide +kernel) (by decide +kernel)
theorem kFL_RX4_34 : Cond.fieldLink RX4 34 "RankIndex$Nodes" "count" "I" ∈ kt := kT 46 (by decide +kernel) (by decide +kernel)
theorem kFL_RX8_44 : Cond.fieldLink RX8 44 "RankIndex$Nodes" "count" "I" ∈ kt := kT 47 (by decide +kernel) (by decide +kernel)
theorem kFL_RX6_64 : Cond.fieldLink RX6 64 "RankIndex$Nodes" "count" "I" ∈ kt := kT 48 (by decide +kernel) (by decide +kernel)
theorem kAC_66 : Cond.arrayClass .int ∈ kt := kT 66 (by decide +kernel) (by decide +kernel)
theorem kCL_RX7_18 : Cond.classLink RX7 18 RX1 ∈ kt := kT 67 (by decide +kernel) (by decide +kernel)
theorem kIS_RX1 : Cond.instantiable RX1 3 ∈ kt := kT 68 (by decide +kernel) (by decide +kernel)
theorem kIM_yX1_init : Cond.instanceMethod yX1_init ∈ kt := kT 70 (by decide +kernel) (by decide +kernel)
theorem kCO_yX1_init : Cond.code yX1_init cX1_init 1 none ∈ kt := kT 71 (by decide +kernel) (by decide +kernel)
theorem kML_RX1_1 : Cond.methodLink RX1 1 objectInit ∈ kt := kT 72 (by decide +kernel) (by decide +kernel)
theorem kFL_RX1_7 : Cond.fieldLink RX1 7 "RankIndex$Counts" "promoted" "I" ∈ kt := kT 73 (by decide +kernel) (by decide +kernel)
theorem kFL_RX8_75 : Cond.fieldLink RX8 75 "RankIndex$Counts" "promoted" "I" ∈ kt := kT 74 (by decide +kernel) (by decide +kernel)
theorem kFL_RX7_112 : Cond.fieldLink RX7 112 "RankIndex$Counts" "promoted" "I" ∈ kt := kT 75 (by decide +kernel) (by decide +kernel)
theorem kFL_RX1_13 : Cond.fieldLink RX1 13 "RankIndex$Counts" "demoted" "I" ∈ kt := kT 76 (by decide +kernel) (by decide +kernel)
theorem kFL_RX8_80 : Cond.fieldLink RX8 80 "RankIndex$Counts" "demoted" "I" ∈ kt := kT 77 (by decide +kernel) (by decide +kernel)
theorem kFL_RX7_115 : Cond.fieldLink RX7 115 "RankIndex$Counts" "demoted" "I" ∈ kt := kT 78 (by decide +kernel) (by decide +kernel)
theorem kFL_RX1_16 : Cond.fieldLink RX1 16 "RankIndex$Counts" "turns" "I" ∈ kt := kT 79 (by decide +kernel) (by decide +kernel)
theorem kFL_RX8_83 : Cond.fieldLink RX8 83 "RankIndex$Counts" "turns" "I" ∈ kt := kT 80 (by decide +kernel) (by decide +kernel)
theorem kFL_RX7_99 : Cond.fieldLink RX7 99 "RankIndex$Counts" "turns" "I" ∈ kt := kT 81 (by decide +kernel) (by decide +kernel)
theorem kFL_RX7_12 : Cond.fieldLink RX7 12 "RankIndex$Tree" "nodes" "LRankIndex$Nodes;" ∈ kt := kT 89 (by decide +kernel) (by decide +kernel)
theorem kFL_RX8_40 : Cond.fieldLink RX8 40 "RankIndex$Tree" "nodes" "LRankIndex$Nodes;" ∈ kt := kT 90 (by decide +kernel) (by decide +kernel)
theorem kFL_RX7_21 : Cond.fieldLink RX7 21 "RankIndex$Tree" "all" "LRankIndex$Counts;" ∈ kt := kT 91 (by decide +kernel) (by decide +kernel)
theorem kFL_RX8_71 : Cond.fieldLink RX8 71 "RankIndex$Tree" "all" "LRankIndex$Counts;" ∈ kt := kT 92 (by decide +kernel) (by decide +kernel)
theorem kFL_RX7_25 : Cond.fieldLink RX7 25 "RankIndex$Tree" "latest" "LRankIndex$Counts;" ∈ kt := kT 93 (by decide +kernel) (by decide +kernel)
theorem kFL_RX8_86 : Cond.fieldLink RX8 86 "RankIndex$Tree" "latest" "LRankIndex$Counts;" ∈ kt := kT 94 (by decide +kernel) (by decide +kernel)
theorem kCL_RX8_19 : Cond.classLink RX8 19 RX5 ∈ kt := kT 102 (by decide +kernel) (by decide +kernel)
theorem kIS_RX5 : Cond.instantiable RX5 3 ∈ kt := kT 103 (by decide +kernel) (by decide +kernel)
theorem kML_RX8_21 : Cond.methodLink RX8 21 yX5_init ∈ kt := kT 104 (by decide +kernel) (by decide +kernel)
theorem kIM_yX5_init : Cond.instanceMethod yX5_init ∈ kt := kT 105 (by decide +kernel) (by decide +kernel)
theorem kCO_yX5_init : Cond.code yX5_init cX5_init 2 none ∈ kt := kT 106 (by decide +kernel) (by decide +kernel)
theorem kML_RX5_3 : Cond.methodLink RX5 3 objectInit ∈ kt := kT 107 (by decide +kernel) (by decide +kernel)
theorem kCL_RX5_9 : Cond.classLink RX5 9 RX7 ∈ kt := kT 108 (by decide +kernel) (by decide +kernel)
theorem kFL_RX5_11 : Cond.fieldLink RX5 11 "RankIndex$Past" "rows" "[LRankIndex$Tree;" ∈ kt := kT 111 (by decide +kernel) (by decide +kernel)
theorem kFL_RX5_17 : Cond.fieldLink RX5 17 "RankIndex$Past" "next" "I" ∈ kt := kT 112 (by decide +kernel) (by decide +kernel)
theorem kFL_RX5_21 : Cond.fieldLink RX5 21 "RankIndex$Past" "held" "I" ∈ kt := kT 113 (by decide +kernel) (by decide +kernel)
theorem kFL_RX8_107 : Cond.fieldLink RX8 107 "RankIndex$Past" "held" "I" ∈ kt := kT 114 (by decide +kernel) (by decide +kernel)
theorem kCL_RX8_26 : Cond.classLink RX8 26 RX2 ∈ kt := kT 122 (by decide +kernel) (by decide +kernel)
theorem kIS_RX2 : Cond.instantiable RX2 1 ∈ kt := kT 123 (by decide +kernel) (by decide +kernel)
theorem kIM_yX2_init : Cond.instanceMethod yX2_init ∈ kt := kT 125 (by decide +kernel) (by decide +kernel)
theorem kCO_yX2_init : Cond.code yX2_init cX2_init 1 none ∈ kt := kT 126 (by decide +kernel) (by decide +kernel)
theorem kML_RX2_1 : Cond.methodLink RX2 1 objectInit ∈ kt := kT 127 (by decide +kernel) (by decide +kernel)
theorem kFL_RX2_7 : Cond.fieldLink RX2 7 "RankIndex$Draws" "value" "I" ∈ kt := kT 128 (by decide +kernel) (by decide +kernel)
theorem kFL_RX8_238 : Cond.fieldLink RX8 238 "RankIndex$Draws" "value" "I" ∈ kt := kT 129 (by decide +kernel) (by decide +kernel)
theorem kCL_RX8_33 : Cond.classLink RX8 33 RX3 ∈ kt := kT 133 (by decide +kernel) (by decide +kernel)
theorem kIS_RX3 : Cond.instantiable RX3 3 ∈ kt := kT 135 (by decide +kernel) (by decide +kernel)
theorem kIM_yX3_init : Cond.instanceMethod yX3_init ∈ kt := kT 137 (by decide +kernel) (by decide +kernel)
theorem kCO_yX3_init : Cond.code yX3_init cX3_init 1 none ∈ kt := kT 138 (by decide +kernel) (by decide +kernel)
theorem kML_RX3_1 : Cond.methodLink RX3 1 objectInit ∈ kt := kT 139 (by decide +kernel) (by decide +kernel)
theorem kCL_RX3_7 : Cond.classLink RX3 7 RX7 ∈ kt := kT 140 (by decide +kernel) (by decide +kernel)
theorem kFL_RX3_10 : Cond.fieldLink RX3 10 "RankIndex$Image" "tree" "LRankIndex$Tree;" ∈ kt := kT 142 (by decide +kernel) (by decide +kernel)
theorem kFL_RX8_212 : Cond.fieldLink RX8 212 "RankIndex$Image" "tree" "LRankIndex$Tree;" ∈ kt := kT 143 (by decide +kernel) (by decide +kernel)
theorem kFL_RX3_16 : Cond.fieldLink RX3 16 "RankIndex$Image" "seedValue" "I" ∈ kt := kT 144 (by decide +kernel) (by decide +kernel)
theorem kFL_RX8_241 : Cond.fieldLink RX8 241 "RankIndex$Image" "seedValue" "I" ∈ kt := kT 145 (by decide +kernel) (by decide +kernel)
theorem kFL_RX3_20 : Cond.fieldLink RX3 20 "RankIndex$Image" "kept" "Z" ∈ kt := kT 146 (by decide +kernel) (by decide +kernel)
theorem kFL_RX8_205 : Cond.fieldLink RX8 205 "RankIndex$Image" "kept" "Z" ∈ kt := kT 147 (by decide +kernel) (by decide +kernel)
theorem kFL_RX8_10 : Cond.fieldLink RX8 10 "RankIndex" "tree" "LRankIndex$Tree;" ∈ kt := kT 155 (by decide +kernel) (by decide +kernel)
theorem kFL_RX8_16 : Cond.fieldLink RX8 16 "RankIndex" "trial" "LRankIndex$Tree;" ∈ kt := kT 156 (by decide +kernel) (by decide +kernel)
theorem kFL_RX8_22 : Cond.fieldLink RX8 22 "RankIndex" "past" "LRankIndex$Past;" ∈ kt := kT 157 (by decide +kernel) (by decide +kernel)
theorem kFL_RX8_35 : Cond.fieldLink RX8 35 "RankIndex" "images" "[LRankIndex$Image;" ∈ kt := kT 158 (by decide +kernel) (by decide +kernel)
theorem kFL_RX8_29 : Cond.fieldLink RX8 29 "RankIndex" "draws" "LRankIndex$Draws;" ∈ kt := kT 159 (by decide +kernel) (by decide +kernel)
theorem kML_RL_13 : Cond.methodLink RL 13 yX8_told ∈ kt := kT 171 (by decide +kernel) (by decide +kernel)
theorem kIM_yX8_told : Cond.instanceMethod yX8_told ∈ kt := kT 172 (by decide +kernel) (by decide +kernel)
theorem kSE_yX8_told : Cond.selects RX8 yX8_told yX8_told ∈ kt := kT 173 (by decide +kernel) (by decide +kernel)
theorem kCO_yX8_told : Cond.code yX8_told cX8_told 3 (some .int) ∈ kt := kT 174 (by decide +kernel) (by decide +kernel)
theorem kML_RX8_53 : Cond.methodLink RX8 53 yX4_keyOf ∈ kt := kT 175 (by decide +kernel) (by decide +kernel)
theorem kIM_yX4_keyOf : Cond.instanceMethod yX4_keyOf ∈ kt := kT 176 (by decide +kernel) (by decide +kernel)
theorem kSE_yX4_keyOf : Cond.selects RX4 yX4_keyOf yX4_keyOf ∈ kt := kT 177 (by decide +kernel) (by decide +kernel)
theorem kCO_yX4_keyOf : Cond.code yX4_keyOf cX4_keyOf 2 (some .int) ∈ kt := kT 178 (by decide +kernel) (by decide +kernel)
theorem kML_RX8_57 : Cond.methodLink RX8 57 yX4_rankOf ∈ kt := kT 179 (by decide +kernel) (by decide +kernel)
theorem kIM_yX4_rankOf : Cond.instanceMethod yX4_rankOf ∈ kt := kT 180 (by decide +kernel) (by decide +kernel)
theorem kSE_yX4_rankOf : Cond.selects RX4 yX4_rankOf yX4_rankOf ∈ kt := kT 181 (by decide +kernel) (by decide +kernel)
theorem kCO_yX4_rankOf : Cond.code yX4_rankOf cX4_rankOf 2 (some .int) ∈ kt := kT 182 (by decide +kernel) (by decide +kernel)
theorem kML_RX8_60 : Cond.methodLink RX8 60 yX6_depth ∈ kt := kT 183 (by decide +kernel) (by decide +kernel)
theorem kSM_yX6_depth : Cond.static yX6_depth ∈ kt := kT 184 (by decide +kernel) (by decide +kernel)
theorem kCO_yX6_depth : Cond.code yX6_depth cX6_depth 3 (some .int) ∈ kt := kT 185 (by decide +kernel) (by decide +kernel)
theorem kML_RX6_9 : Cond.methodLink RX6 9 yX4_keyOf ∈ kt := kT 186 (by decide +kernel) (by decide +kernel)
theorem kML_RX6_46 : Cond.methodLink RX6 46 yX4_howManyAbove ∈ kt := kT 187 (by decide +kernel) (by decide +kernel)
theorem kIM_yX4_howManyAbove : Cond.instanceMethod yX4_howManyAbove ∈ kt := kT 188 (by decide +kernel) (by decide +kernel)
theorem kSE_yX4_howManyAbove : Cond.selects RX4 yX4_howManyAbove yX4_howManyAbove ∈ kt := kT 189 (by decide +kernel) (by decide +kernel)
theorem kCO_yX4_howManyAbove : Cond.code yX4_howManyAbove cX4_howManyAbove 5 (some .int) ∈ kt := kT 190 (by decide +kernel) (by decide +kernel)
theorem kML_RX4_77 : Cond.methodLink RX4 77 yX4_parentOf ∈ kt := kT 191 (by decide +kernel) (by decide +kernel)
theorem kIM_yX4_parentOf : Cond.instanceMethod yX4_parentOf ∈ kt := kT 192 (by decide +kernel) (by decide +kernel)
theorem kSE_yX4_parentOf : Cond.selects RX4 yX4_parentOf yX4_parentOf ∈ kt := kT 193 (by decide +kernel) (by decide +kernel)
theorem kCO_yX4_parentOf : Cond.code yX4_parentOf cX4_parentOf 2 (some .int) ∈ kt := kT 194 (by decide +kernel) (by decide +kernel)
theorem kML_RX6_49 : Cond.methodLink RX6 49 yJ9_max_7cf53 ∈ kt := kT 195 (by decide +kernel) (by decide +kernel)
theorem kSM_yJ9_max_7cf53 : Cond.static yJ9_max_7cf53 ∈ kt := kT 196 (by decide +kernel) (by decide +kernel)
theorem kCO_yJ9_max_7cf53 : Cond.code yJ9_max_7cf53 cJ9_max_7cf53 2 (some .int) ∈ kt := kT 197 (by decide +kernel) (by decide +kernel)
theorem kKI_RX8_66 : Cond.constant RX8 66 (99999) ∈ kt := kT 198 (by decide +kernel) (by decide +kernel)
theorem kML_RX8_67 : Cond.methodLink RX8 67 yX6_worthFrom ∈ kt := kT 199 (by decide +kernel) (by decide +kernel)
theorem kSM_yX6_worthFrom : Cond.static yX6_worthFrom ∈ kt := kT 200 (by decide +kernel) (by decide +kernel)
theorem kCO_yX6_worthFrom : Cond.code yX6_worthFrom cX6_worthFrom 5 (some .int) ∈ kt := kT 201 (by decide +kernel) (by decide +kernel)
theorem kML_RX6_15 : Cond.methodLink RX6 15 yX6_isFrom ∈ kt := kT 202 (by decide +kernel) (by decide +kernel)
theorem kSM_yX6_isFrom : Cond.static yX6_isFrom ∈ kt := kT 203 (by decide +kernel) (by decide +kernel)
theorem kCO_yX6_isFrom : Cond.code yX6_isFrom cX6_isFrom 5 (some .boolean) ∈ kt := kT 204 (by decide +kernel) (by decide +kernel)
theorem kML_RX6_21 : Cond.methodLink RX6 21 yX4_worthOf ∈ kt := kT 205 (by decide +kernel) (by decide +kernel)
theorem kIM_yX4_worthOf : Cond.instanceMethod yX4_worthOf ∈ kt := kT 206 (by decide +kernel) (by decide +kernel)
theorem kSE_yX4_worthOf : Cond.selects RX4 yX4_worthOf yX4_worthOf ∈ kt := kT 207 (by decide +kernel) (by decide +kernel)
theorem kCO_yX4_worthOf : Cond.code yX4_worthOf cX4_worthOf 2 (some .int) ∈ kt := kT 208 (by decide +kernel) (by decide +kernel)
theorem kML_RX8_89 : Cond.methodLink RX8 89 yX6_ranksTogether ∈ kt := kT 209 (by decide +kernel) (by decide +kernel)
theorem kSM_yX6_ranksTogether : Cond.static yX6_ranksTogether ∈ kt := kT 210 (by decide +kernel) (by decide +kernel)
theorem kCO_yX6_ranksTogether : Cond.code yX6_ranksTogether cX6_ranksTogether 3 (some .int) ∈ kt := kT 211 (by decide +kernel) (by decide +kernel)
theorem kML_RX6_55 : Cond.methodLink RX6 55 yX4_rankOf ∈ kt := kT 212 (by decide +kernel) (by decide +kernel)
theorem kML_RX8_92 : Cond.methodLink RX8 92 yX6_longSteps ∈ kt := kT 213 (by decide +kernel) (by decide +kernel)
theorem kSM_yX6_longSteps : Cond.static yX6_longSteps ∈ kt := kT 214 (by decide +kernel) (by decide +kernel)
theorem kCO_yX6_longSteps : Cond.code yX6_longSteps cX6_longSteps 3 (some .int) ∈ kt := kT 215 (by decide +kernel) (by decide +kernel)
theorem kML_RX6_58 : Cond.methodLink RX6 58 yX4_parentOf ∈ kt := kT 216 (by decide +kernel) (by decide +kernel)
theorem kML_RX6_61 : Cond.methodLink RX6 61 yX4_step ∈ kt := kT 217 (by decide +kernel) (by decide +kernel)
theorem kIM_yX4_step : Cond.instanceMethod yX4_step ∈ kt := kT 218 (by decide +kernel) (by decide +kernel)
theorem kSE_yX4_step : Cond.selects RX4 yX4_step yX4_step ∈ kt := kT 219 (by decide +kernel) (by decide +kernel)
theorem kCO_yX4_step : Cond.code yX4_step cX4_step 3 (some .int) ∈ kt := kT 220 (by decide +kernel) (by decide +kernel)
theorem kML_RX4_49 : Cond.methodLink RX4 49 yX4_rankOf ∈ kt := kT 221 (by decide +kernel) (by decide +kernel)
theorem kML_RX8_95 : Cond.methodLink RX8 95 yX8_costliestKey ∈ kt := kT 222 (by decide +kernel) (by decide +kernel)
theorem kIM_yX8_costliestKey : Cond.instanceMethod yX8_costliestKey ∈ kt := kT 224 (by decide +kernel) (by decide +kernel)
theorem kCO_yX8_costliestKey : Cond.code yX8_costliestKey cX8_costliestKey 5 (some .int) ∈ kt := kT 225 (by decide +kernel) (by decide +kernel)
theorem kML_RX8_147 : Cond.methodLink RX8 147 yX4_leastBelow ∈ kt := kT 226 (by decide +kernel) (by decide +kernel)
theorem kIM_yX4_leastBelow : Cond.instanceMethod yX4_leastBelow ∈ kt := kT 227 (by decide +kernel) (by decide +kernel)
theorem kSE_yX4_leastBelow : Cond.selects RX4 yX4_leastBelow yX4_leastBelow ∈ kt := kT 228 (by decide +kernel) (by decide +kernel)
theorem kCO_yX4_leastBelow : Cond.code yX4_leastBelow cX4_leastBelow 2 (some .int) ∈ kt := kT 229 (by decide +kernel) (by decide +kernel)
theorem kML_RX4_80 : Cond.methodLink RX4 80 yX4_endOf ∈ kt := kT 230 (by decide +kernel) (by decide +kernel)
theorem kIM_yX4_endOf : Cond.instanceMethod yX4_endOf ∈ kt := kT 232 (by decide +kernel) (by decide +kernel)
theorem kCO_yX4_endOf : Cond.code yX4_endOf cX4_endOf 5 (some .int) ∈ kt := kT 233 (by decide +kernel) (by decide +kernel)
theorem kML_RX4_62 : Cond.methodLink RX4 62 yX4_childOf ∈ kt := kT 234 (by decide +kernel) (by decide +kernel)
theorem kIM_yX4_childOf : Cond.instanceMethod yX4_childOf ∈ kt := kT 235 (by decide +kernel) (by decide +kernel)
theorem kSE_yX4_childOf : Cond.selects RX4 yX4_childOf yX4_childOf ∈ kt := kT 236 (by decide +kernel) (by decide +kernel)
theorem kCO_yX4_childOf : Cond.code yX4_childOf cX4_childOf 3 (some .int) ∈ kt := kT 237 (by decide +kernel) (by decide +kernel)
theorem kML_RX8_192 : Cond.methodLink RX8 192 yX7_copyFrom ∈ kt := kT 238 (by decide +kernel) (by decide +kernel)
theorem kIM_yX7_copyFrom : Cond.instanceMethod yX7_copyFrom ∈ kt := kT 239 (by decide +kernel) (by decide +kernel)
theorem kSE_yX7_copyFrom : Cond.selects RX7 yX7_copyFrom yX7_copyFrom ∈ kt := kT 240 (by decide +kernel) (by decide +kernel)
theorem kCO_yX7_copyFrom : Cond.code yX7_copyFrom cX7_copyFrom 2 none ∈ kt := kT 241 (by decide +kernel) (by decide +kernel)
theorem kML_RX7_28 : Cond.methodLink RX7 28 yX4_copyFrom ∈ kt := kT 242 (by decide +kernel) (by decide +kernel)
theorem kIM_yX4_copyFrom : Cond.instanceMethod yX4_copyFrom ∈ kt := kT 243 (by decide +kernel) (by decide +kernel)
theorem kSE_yX4_copyFrom : Cond.selects RX4 yX4_copyFrom yX4_copyFrom ∈ kt := kT 244 (by decide +kernel) (by decide +kernel)
theorem kCO_yX4_copyFrom : Cond.code yX4_copyFrom cX4_copyFrom 2 none ∈ kt := kT 245 (by decide +kernel) (by decide +kernel)
theorem kML_RX4_43 : Cond.methodLink RX4 43 arraycopyName ∈ kt := kT 246 (by decide +kernel) (by decide +kernel)
theorem kSM_arraycopyName : Cond.static arraycopyName ∈ kt := kT 247 (by decide +kernel) (by decide +kernel)
theorem kNM_arraycopyName : Cond.native arraycopyName ∈ kt := kT 248 (by decide +kernel) (by decide +kernel)
theorem kML_RX7_32 : Cond.methodLink RX7 32 yX1_copyFrom ∈ kt := kT 249 (by decide +kernel) (by decide +kernel)
theorem kIM_yX1_copyFrom : Cond.instanceMethod yX1_copyFrom ∈ kt := kT 250 (by decide +kernel) (by decide +kernel)
theorem kSE_yX1_copyFrom : Cond.selects RX1 yX1_copyFrom yX1_copyFrom ∈ kt := kT 251 (by decide +kernel) (by decide +kernel)
theorem kCO_yX1_copyFrom : Cond.code yX1_copyFrom cX1_copyFrom 2 none ∈ kt := kT 252 (by decide +kernel) (by decide +kernel)
theorem kML_RX8_177 : Cond.methodLink RX8 177 yX7_remove ∈ kt := kT 253 (by decide +kernel) (by decide +kernel)
theorem kIM_yX7_remove : Cond.instanceMethod yX7_remove ∈ kt := kT 254 (by decide +kernel) (by decide +kernel)
theorem kSE_yX7_remove : Cond.selects RX7 yX7_remove yX7_remove ∈ kt := kT 255 (by decide +kernel) (by decide +kernel)
theorem kCO_yX7_remove : Cond.code yX7_remove cX7_remove 5 none ∈ kt := kT 256 (by decide +kernel) (by decide +kernel)
theorem kML_RX7_35 : Cond.methodLink RX7 35 yX1_clear ∈ kt := kT 257 (by decide +kernel) (by decide +kernel)
theorem kIM_yX1_clear : Cond.instanceMethod yX1_clear ∈ kt := kT 258 (by decide +kernel) (by decide +kernel)
theorem kSE_yX1_clear : Cond.selects RX1 yX1_clear yX1_clear ∈ kt := kT 259 (by decide +kernel) (by decide +kernel)
theorem kCO_yX1_clear : Cond.code yX1_clear cX1_clear 1 none ∈ kt := kT 260 (by decide +kernel) (by decide +kernel)
theorem kML_RX7_49 : Cond.methodLink RX7 49 yX4_leftOf ∈ kt := kT 261 (by decide +kernel) (by decide +kernel)
theorem kIM_yX4_leftOf : Cond.instanceMethod yX4_leftOf ∈ kt := kT 262 (by decide +kernel) (by decide +kernel)
theorem kSE_yX4_leftOf : Cond.selects RX4 yX4_leftOf yX4_leftOf ∈ kt := kT 263 (by decide +kernel) (by decide +kernel)
theorem kCO_yX4_leftOf : Cond.code yX4_leftOf cX4_leftOf 2 (some .int) ∈ kt := kT 264 (by decide +kernel) (by decide +kernel)
theorem kML_RX7_53 : Cond.methodLink RX7 53 yX4_rightOf ∈ kt := kT 265 (by decide +kernel) (by decide +kernel)
theorem kIM_yX4_rightOf : Cond.instanceMethod yX4_rightOf ∈ kt := kT 266 (by decide +kernel) (by decide +kernel)
theorem kSE_yX4_rightOf : Cond.selects RX4 yX4_rightOf yX4_rightOf ∈ kt := kT 267 (by decide +kernel) (by decide +kernel)
theorem kCO_yX4_rightOf : Cond.code yX4_rightOf cX4_rightOf 2 (some .int) ∈ kt := kT 268 (by decide +kernel) (by decide +kernel)
theorem kML_RX7_56 : Cond.methodLink RX7 56 yX4_leastBelow ∈ kt := kT 269 (by decide +kernel) (by decide +kernel)
theorem kML_RX7_59 : Cond.methodLink RX7 59 yX4_copyKeyAndWorth ∈ kt := kT 270 (by decide +kernel) (by decide +kernel)
theorem kIM_yX4_copyKeyAndWorth : Cond.instanceMethod yX4_copyKeyAndWorth ∈ kt := kT 271 (by decide +kernel) (by decide +kernel)
theorem kSE_yX4_copyKeyAndWorth : Cond.selects RX4 yX4_copyKeyAndWorth yX4_copyKeyAndWorth ∈ kt := kT 272 (by decide +kernel) (by decide +kernel)
theorem kCO_yX4_copyKeyAndWorth : Cond.code yX4_copyKeyAndWorth cX4_copyKeyAndWorth 3 none ∈ kt := kT 273 (by decide +kernel) (by decide +kernel)
theorem kML_RX7_63 : Cond.methodLink RX7 63 yX4_parentOf ∈ kt := kT 274 (by decide +kernel) (by decide +kernel)
theorem kML_RX7_66 : Cond.methodLink RX7 66 yX4_takeOff ∈ kt := kT 275 (by decide +kernel) (by decide +kernel)
theorem kIM_yX4_takeOff : Cond.instanceMethod yX4_takeOff ∈ kt := kT 276 (by decide +kernel) (by decide +kernel)
theorem kSE_yX4_takeOff : Cond.selects RX4 yX4_takeOff yX4_takeOff ∈ kt := kT 277 (by decide +kernel) (by decide +kernel)
theorem kCO_yX4_takeOff : Cond.code yX4_takeOff cX4_takeOff 4 (some .int) ∈ kt := kT 278 (by decide +kernel) (by decide +kernel)
theorem kML_RX4_53 : Cond.methodLink RX4 53 yX4_leftOf ∈ kt := kT 279 (by decide +kernel) (by decide +kernel)
theorem kML_RX4_56 : Cond.methodLink RX4 56 yX4_rightOf ∈ kt := kT 280 (by decide +kernel) (by decide +kernel)
theorem kML_RX4_73 : Cond.methodLink RX4 73 yX4_hang ∈ kt := kT 281 (by decide +kernel) (by decide +kernel)
theorem kIM_yX4_hang : Cond.instanceMethod yX4_hang ∈ kt := kT 282 (by decide +kernel) (by decide +kernel)
theorem kSE_yX4_hang : Cond.selects RX4 yX4_hang yX4_hang ∈ kt := kT 283 (by decide +kernel) (by decide +kernel)
theorem kCO_yX4_hang : Cond.code yX4_hang cX4_hang 4 none ∈ kt := kT 284 (by decide +kernel) (by decide +kernel)
theorem kML_RX7_69 : Cond.methodLink RX7 69 yX4_isLeaf ∈ kt := kT 285 (by decide +kernel) (by decide +kernel)
theorem kIM_yX4_isLeaf : Cond.instanceMethod yX4_isLeaf ∈ kt := kT 286 (by decide +kernel) (by decide +kernel)
theorem kSE_yX4_isLeaf : Cond.selects RX4 yX4_isLeaf yX4_isLeaf ∈ kt := kT 287 (by decide +kernel) (by decide +kernel)
theorem kCO_yX4_isLeaf : Cond.code yX4_isLeaf cX4_isLeaf 2 (some .boolean) ∈ kt := kT 288 (by decide +kernel) (by decide +kernel)
theorem kML_RX7_73 : Cond.methodLink RX7 73 yX4_rankOf ∈ kt := kT 289 (by decide +kernel) (by decide +kernel)
theorem kML_RX7_76 : Cond.methodLink RX7 76 yX7_demote ∈ kt := kT 290 (by decide +kernel) (by decide +kernel)
theorem kIM_yX7_demote : Cond.instanceMethod yX7_demote ∈ kt := kT 292 (by decide +kernel) (by decide +kernel)
theorem kCO_yX7_demote : Cond.code yX7_demote cX7_demote 2 none ∈ kt := kT 293 (by decide +kernel) (by decide +kernel)
theorem kML_RX7_103 : Cond.methodLink RX7 103 yX4_addRank ∈ kt := kT 294 (by decide +kernel) (by decide +kernel)
theorem kIM_yX4_addRank : Cond.instanceMethod yX4_addRank ∈ kt := kT 295 (by decide +kernel) (by decide +kernel)
theorem kSE_yX4_addRank : Cond.selects RX4 yX4_addRank yX4_addRank ∈ kt := kT 296 (by decide +kernel) (by decide +kernel)
theorem kCO_yX4_addRank : Cond.code yX4_addRank cX4_addRank 3 none ∈ kt := kT 297 (by decide +kernel) (by decide +kernel)
theorem kML_RX7_79 : Cond.methodLink RX7 79 yX7_mendGap ∈ kt := kT 298 (by decide +kernel) (by decide +kernel)
theorem kIM_yX7_mendGap : Cond.instanceMethod yX7_mendGap ∈ kt := kT 300 (by decide +kernel) (by decide +kernel)
theorem kCO_yX7_mendGap : Cond.code yX7_mendGap cX7_mendGap 8 none ∈ kt := kT 301 (by decide +kernel) (by decide +kernel)
theorem kML_RX7_82 : Cond.methodLink RX7 82 yX4_step ∈ kt := kT 302 (by decide +kernel) (by decide +kernel)
theorem kML_RX7_85 : Cond.methodLink RX7 85 yX4_childOf ∈ kt := kT 303 (by decide +kernel) (by decide +kernel)
theorem kML_RX7_106 : Cond.methodLink RX7 106 yX7_hasOnlyLongSteps ∈ kt := kT 304 (by decide +kernel) (by decide +kernel)
theorem kIM_yX7_hasOnlyLongSteps : Cond.instanceMethod yX7_hasOnlyLongSteps ∈ kt := kT 306 (by decide +kernel) (by decide +kernel)
theorem kCO_yX7_hasOnlyLongSteps : Cond.code yX7_hasOnlyLongSteps cX7_hasOnlyLongSteps 2 (some .boolean) ∈ kt := kT 307 (by decide +kernel) (by decide +kernel)
theorem kML_RX7_109 : Cond.methodLink RX7 109 yX7_turnAfterRemoving ∈ kt := kT 308 (by decide +kernel) (by decide +kernel)
theorem kIM_yX7_turnAfterRemoving : Cond.instanceMethod yX7_turnAfterRemoving ∈ kt := kT 310 (by decide +kernel) (by decide +kernel)
theorem kCO_yX7_turnAfterRemoving : Cond.code yX7_turnAfterRemoving cX7_turnAfterRemoving 5 none ∈ kt := kT 311 (by decide +kernel) (by decide +kernel)
theorem kML_RX7_96 : Cond.methodLink RX7 96 yX4_turnOverParent ∈ kt := kT 312 (by decide +kernel) (by decide +kernel)
theorem kIM_yX4_turnOverParent : Cond.instanceMethod yX4_turnOverParent ∈ kt := kT 313 (by decide +kernel) (by decide +kernel)
theorem kSE_yX4_turnOverParent : Cond.selects RX4 yX4_turnOverParent yX4_turnOverParent ∈ kt := kT 314 (by decide +kernel) (by decide +kernel)
theorem kCO_yX4_turnOverParent : Cond.code yX4_turnOverParent cX4_turnOverParent 6 none ∈ kt := kT 315 (by decide +kernel) (by decide +kernel)
theorem kML_RX7_46 : Cond.methodLink RX7 46 yX1_add ∈ kt := kT 316 (by decide +kernel) (by decide +kernel)
theorem kIM_yX1_add : Cond.instanceMethod yX1_add ∈ kt := kT 317 (by decide +kernel) (by decide +kernel)
theorem kSE_yX1_add : Cond.selects RX1 yX1_add yX1_add ∈ kt := kT 318 (by decide +kernel) (by decide +kernel)
theorem kCO_yX1_add : Cond.code yX1_add cX1_add 2 none ∈ kt := kT 319 (by decide +kernel) (by decide +kernel)
theorem kML_RX8_250 : Cond.methodLink RX8 250 yX1_together ∈ kt := kT 320 (by decide +kernel) (by decide +kernel)
theorem kIM_yX1_together : Cond.instanceMethod yX1_together ∈ kt := kT 321 (by decide +kernel) (by decide +kernel)
theorem kSE_yX1_together : Cond.selects RX1 yX1_together yX1_together ∈ kt := kT 322 (by decide +kernel) (by decide +kernel)
theorem kCO_yX1_together : Cond.code yX1_together cX1_together 1 (some .int) ∈ kt := kT 323 (by decide +kernel) (by decide +kernel)
theorem kML_RX8_150 : Cond.methodLink RX8 150 yX4_nextRising ∈ kt := kT 324 (by decide +kernel) (by decide +kernel)
theorem kIM_yX4_nextRising : Cond.instanceMethod yX4_nextRising ∈ kt := kT 325 (by decide +kernel) (by decide +kernel)
theorem kSE_yX4_nextRising : Cond.selects RX4 yX4_nextRising yX4_nextRising ∈ kt := kT 326 (by decide +kernel) (by decide +kernel)
theorem kCO_yX4_nextRising : Cond.code yX4_nextRising cX4_nextRising 5 (some .int) ∈ kt := kT 327 (by decide +kernel) (by decide +kernel)
theorem kML_RX4_83 : Cond.methodLink RX4 83 yX4_leastBelow ∈ kt := kT 328 (by decide +kernel) (by decide +kernel)
theorem kML_RX8_99 : Cond.methodLink RX8 99 yX0_flat ∈ kt := kT 329 (by decide +kernel) (by decide +kernel)
theorem kSM_yX0_flat : Cond.static yX0_flat ∈ kt := kT 330 (by decide +kernel) (by decide +kernel)
theorem kCO_yX0_flat : Cond.code yX0_flat cX0_flat 3 (some .int) ∈ kt := kT 331 (by decide +kernel) (by decide +kernel)
theorem kML_RX8_104 : Cond.methodLink RX8 104 yX0_tall ∈ kt := kT 332 (by decide +kernel) (by decide +kernel)
theorem kSM_yX0_tall : Cond.static yX0_tall ∈ kt := kT 333 (by decide +kernel) (by decide +kernel)
theorem kCO_yX0_tall : Cond.code yX0_tall cX0_tall 6 (some .int) ∈ kt := kT 334 (by decide +kernel) (by decide +kernel)
theorem kML_RX0_9 : Cond.methodLink RX0 9 yX0_fewestOfRank ∈ kt := kT 335 (by decide +kernel) (by decide +kernel)
theorem kSM_yX0_fewestOfRank : Cond.static yX0_fewestOfRank ∈ kt := kT 336 (by decide +kernel) (by decide +kernel)
theorem kCO_yX0_fewestOfRank : Cond.code yX0_fewestOfRank cX0_fewestOfRank 1 (some .int) ∈ kt := kT 337 (by decide +kernel) (by decide +kernel)
theorem kKI_RX8_110 : Cond.constant RX8 110 (-1000000002) ∈ kt := kT 338 (by decide +kernel) (by decide +kernel)
theorem kML_RL_18 : Cond.methodLink RL 18 yX8_node ∈ kt := kT 339 (by decide +kernel) (by decide +kernel)
theorem kIM_yX8_node : Cond.instanceMethod yX8_node ∈ kt := kT 340 (by decide +kernel) (by decide +kernel)
theorem kSE_yX8_node : Cond.selects RX8 yX8_node yX8_node ∈ kt := kT 341 (by decide +kernel) (by decide +kernel)
theorem kCO_yX8_node : Cond.code yX8_node cX8_node 5 (some .int) ∈ kt := kT 342 (by decide +kernel) (by decide +kernel)
theorem kML_RX8_111 : Cond.methodLink RX8 111 yX4_slotOfNumber ∈ kt := kT 343 (by decide +kernel) (by decide +kernel)
theorem kIM_yX4_slotOfNumber : Cond.instanceMethod yX4_slotOfNumber ∈ kt := kT 344 (by decide +kernel) (by decide +kernel)
theorem kSE_yX4_slotOfNumber : Cond.selects RX4 yX4_slotOfNumber yX4_slotOfNumber ∈ kt := kT 345 (by decide +kernel) (by decide +kernel)
theorem kCO_yX4_slotOfNumber : Cond.code yX4_slotOfNumber cX4_slotOfNumber 4 (some .int) ∈ kt := kT 346 (by decide +kernel) (by decide +kernel)
theorem kML_RX4_86 : Cond.methodLink RX4 86 yX4_nextByNumber ∈ kt := kT 347 (by decide +kernel) (by decide +kernel)
theorem kIM_yX4_nextByNumber : Cond.instanceMethod yX4_nextByNumber ∈ kt := kT 348 (by decide +kernel) (by decide +kernel)
theorem kSE_yX4_nextByNumber : Cond.selects RX4 yX4_nextByNumber yX4_nextByNumber ∈ kt := kT 349 (by decide +kernel) (by decide +kernel)
theorem kCO_yX4_nextByNumber : Cond.code yX4_nextByNumber cX4_nextByNumber 5 (some .int) ∈ kt := kT 350 (by decide +kernel) (by decide +kernel)
theorem kKI_RX8_114 : Cond.constant RX8 114 (-1000000001) ∈ kt := kT 351 (by decide +kernel) (by decide +kernel)
theorem kML_RX8_115 : Cond.methodLink RX8 115 yX4_howManyAbove ∈ kt := kT 352 (by decide +kernel) (by decide +kernel)
theorem kML_RX8_118 : Cond.methodLink RX8 118 yX4_leftOf ∈ kt := kT 353 (by decide +kernel) (by decide +kernel)
theorem kML_RX8_121 : Cond.methodLink RX8 121 yX4_numberOfSlot ∈ kt := kT 354 (by decide +kernel) (by decide +kernel)
theorem kIM_yX4_numberOfSlot : Cond.instanceMethod yX4_numberOfSlot ∈ kt := kT 355 (by decide +kernel) (by decide +kernel)
theorem kSE_yX4_numberOfSlot : Cond.selects RX4 yX4_numberOfSlot yX4_numberOfSlot ∈ kt := kT 356 (by decide +kernel) (by decide +kernel)
theorem kCO_yX4_numberOfSlot : Cond.code yX4_numberOfSlot cX4_numberOfSlot 4 (some .int) ∈ kt := kT 357 (by decide +kernel) (by decide +kernel)
theorem kML_RX8_124 : Cond.methodLink RX8 124 yX4_rightOf ∈ kt := kT 358 (by decide +kernel) (by decide +kernel)
theorem kML_RX8_127 : Cond.methodLink RX8 127 yX6_howManyBelow ∈ kt := kT 359 (by decide +kernel) (by decide +kernel)
theorem kSM_yX6_howManyBelow : Cond.static yX6_howManyBelow ∈ kt := kT 360 (by decide +kernel) (by decide +kernel)
theorem kCO_yX6_howManyBelow : Cond.code yX6_howManyBelow cX6_howManyBelow 4 (some .int) ∈ kt := kT 361 (by decide +kernel) (by decide +kernel)
theorem kML_RX6_36 : Cond.methodLink RX6 36 yX4_leastBelow ∈ kt := kT 362 (by decide +kernel) (by decide +kernel)
theorem kML_RX6_39 : Cond.methodLink RX6 39 yX4_greatestBelow ∈ kt := kT 363 (by decide +kernel) (by decide +kernel)
theorem kIM_yX4_greatestBelow : Cond.instanceMethod yX4_greatestBelow ∈ kt := kT 364 (by decide +kernel) (by decide +kernel)
theorem kSE_yX4_greatestBelow : Cond.selects RX4 yX4_greatestBelow yX4_greatestBelow ∈ kt := kT 365 (by decide +kernel) (by decide +kernel)
theorem kCO_yX4_greatestBelow : Cond.code yX4_greatestBelow cX4_greatestBelow 2 (some .int) ∈ kt := kT 366 (by decide +kernel) (by decide +kernel)
theorem kML_RX6_42 : Cond.methodLink RX6 42 yX6_howManyFrom ∈ kt := kT 367 (by decide +kernel) (by decide +kernel)
theorem kSM_yX6_howManyFrom : Cond.static yX6_howManyFrom ∈ kt := kT 368 (by decide +kernel) (by decide +kernel)
theorem kCO_yX6_howManyFrom : Cond.code yX6_howManyFrom cX6_howManyFrom 5 (some .int) ∈ kt := kT 369 (by decide +kernel) (by decide +kernel)
theorem kML_RX8_131 : Cond.methodLink RX8 131 yX4_parentOf ∈ kt := kT 370 (by decide +kernel) (by decide +kernel)
theorem kML_RX8_134 : Cond.methodLink RX8 134 yX4_step ∈ kt := kT 371 (by decide +kernel) (by decide +kernel)
theorem kML_RL_23 : Cond.methodLink RL 23 yX8_key ∈ kt := kT 372 (by decide +kernel) (by decide +kernel)
theorem kIM_yX8_key : Cond.instanceMethod yX8_key ∈ kt := kT 373 (by decide +kernel) (by decide +kernel)
theorem kSE_yX8_key : Cond.selects RX8 yX8_key yX8_key ∈ kt := kT 374 (by decide +kernel) (by decide +kernel)
theorem kCO_yX8_key : Cond.code yX8_key cX8_key 5 (some .int) ∈ kt := kT 375 (by decide +kernel) (by decide +kernel)
theorem kML_RX8_138 : Cond.methodLink RX8 138 yX4_slotOfKey ∈ kt := kT 376 (by decide +kernel) (by decide +kernel)
theorem kIM_yX4_slotOfKey : Cond.instanceMethod yX4_slotOfKey ∈ kt := kT 377 (by decide +kernel) (by decide +kernel)
theorem kSE_yX4_slotOfKey : Cond.selects RX4 yX4_slotOfKey yX4_slotOfKey ∈ kt := kT 378 (by decide +kernel) (by decide +kernel)
theorem kCO_yX4_slotOfKey : Cond.code yX4_slotOfKey cX4_slotOfKey 4 (some .int) ∈ kt := kT 379 (by decide +kernel) (by decide +kernel)
theorem kML_RX4_59 : Cond.methodLink RX4 59 yX4_keyOf ∈ kt := kT 380 (by decide +kernel) (by decide +kernel)
theorem kML_RX8_141 : Cond.methodLink RX8 141 yX4_worthOf ∈ kt := kT 381 (by decide +kernel) (by decide +kernel)
theorem kML_RX8_144 : Cond.methodLink RX8 144 yX6_howManyLess ∈ kt := kT 382 (by decide +kernel) (by decide +kernel)
theorem kSM_yX6_howManyLess : Cond.static yX6_howManyLess ∈ kt := kT 383 (by decide +kernel) (by decide +kernel)
theorem kCO_yX6_howManyLess : Cond.code yX6_howManyLess cX6_howManyLess 4 (some .int) ∈ kt := kT 384 (by decide +kernel) (by decide +kernel)
theorem kML_RL_27 : Cond.methodLink RL 27 yX8_at ∈ kt := kT 385 (by decide +kernel) (by decide +kernel)
theorem kIM_yX8_at : Cond.instanceMethod yX8_at ∈ kt := kT 386 (by decide +kernel) (by decide +kernel)
theorem kSE_yX8_at : Cond.selects RX8 yX8_at yX8_at ∈ kt := kT 387 (by decide +kernel) (by decide +kernel)
theorem kCO_yX8_at : Cond.code yX8_at cX8_at 5 (some .int) ∈ kt := kT 388 (by decide +kernel) (by decide +kernel)
theorem kML_RL_31 : Cond.methodLink RL 31 yX8_put ∈ kt := kT 389 (by decide +kernel) (by decide +kernel)
theorem kIM_yX8_put : Cond.instanceMethod yX8_put ∈ kt := kT 390 (by decide +kernel) (by decide +kernel)
theorem kSE_yX8_put : Cond.selects RX8 yX8_put yX8_put ∈ kt := kT 391 (by decide +kernel) (by decide +kernel)
theorem kCO_yX8_put : Cond.code yX8_put cX8_put 3 (some .int) ∈ kt := kT 392 (by decide +kernel) (by decide +kernel)
theorem kML_RX8_153 : Cond.methodLink RX8 153 yX8_isKey ∈ kt := kT 393 (by decide +kernel) (by decide +kernel)
theorem kSM_yX8_isKey : Cond.static yX8_isKey ∈ kt := kT 394 (by decide +kernel) (by decide +kernel)
theorem kCO_yX8_isKey : Cond.code yX8_isKey cX8_isKey 1 (some .boolean) ∈ kt := kT 395 (by decide +kernel) (by decide +kernel)
theorem kML_RX8_185 : Cond.methodLink RX8 185 yX8_isWithin ∈ kt := kT 396 (by decide +kernel) (by decide +kernel)
theorem kSM_yX8_isWithin : Cond.static yX8_isWithin ∈ kt := kT 397 (by decide +kernel) (by decide +kernel)
theorem kCO_yX8_isWithin : Cond.code yX8_isWithin cX8_isWithin 3 (some .boolean) ∈ kt := kT 398 (by decide +kernel) (by decide +kernel)
theorem kML_RX8_157 : Cond.methodLink RX8 157 yX8_isWorth ∈ kt := kT 399 (by decide +kernel) (by decide +kernel)
theorem kSM_yX8_isWorth : Cond.static yX8_isWorth ∈ kt := kT 400 (by decide +kernel) (by decide +kernel)
theorem kCO_yX8_isWorth : Cond.code yX8_isWorth cX8_isWorth 1 (some .boolean) ∈ kt := kT 401 (by decide +kernel) (by decide +kernel)
theorem kML_RX8_160 : Cond.methodLink RX8 160 yX8_isThere ∈ kt := kT 402 (by decide +kernel) (by decide +kernel)
theorem kIM_yX8_isThere : Cond.instanceMethod yX8_isThere ∈ kt := kT 404 (by decide +kernel) (by decide +kernel)
theorem kCO_yX8_isThere : Cond.code yX8_isThere cX8_isThere 2 (some .boolean) ∈ kt := kT 405 (by decide +kernel) (by decide +kernel)
theorem kKI_RX8_163 : Cond.constant RX8 163 (-1000000003) ∈ kt := kT 406 (by decide +kernel) (by decide +kernel)
theorem kML_RX8_164 : Cond.methodLink RX8 164 yX8_hasRoom ∈ kt := kT 407 (by decide +kernel) (by decide +kernel)
theorem kIM_yX8_hasRoom : Cond.instanceMethod yX8_hasRoom ∈ kt := kT 409 (by decide +kernel) (by decide +kernel)
theorem kCO_yX8_hasRoom : Cond.code yX8_hasRoom cX8_hasRoom 1 (some .boolean) ∈ kt := kT 410 (by decide +kernel) (by decide +kernel)
theorem kKI_RX8_168 : Cond.constant RX8 168 (-1000000004) ∈ kt := kT 411 (by decide +kernel) (by decide +kernel)
theorem kML_RX8_169 : Cond.methodLink RX8 169 yX5_remember ∈ kt := kT 412 (by decide +kernel) (by decide +kernel)
theorem kIM_yX5_remember : Cond.instanceMethod yX5_remember ∈ kt := kT 413 (by decide +kernel) (by decide +kernel)
theorem kSE_yX5_remember : Cond.selects RX5 yX5_remember yX5_remember ∈ kt := kT 414 (by decide +kernel) (by decide +kernel)
theorem kCO_yX5_remember : Cond.code yX5_remember cX5_remember 2 none ∈ kt := kT 415 (by decide +kernel) (by decide +kernel)
theorem kML_RX5_25 : Cond.methodLink RX5 25 yX7_copyFrom ∈ kt := kT 416 (by decide +kernel) (by decide +kernel)
theorem kML_RX5_29 : Cond.methodLink RX5 29 yJ9_min_7cf53 ∈ kt := kT 417 (by decide +kernel) (by decide +kernel)
theorem kSM_yJ9_min_7cf53 : Cond.static yJ9_min_7cf53 ∈ kt := kT 418 (by decide +kernel) (by decide +kernel)
theorem kCO_yJ9_min_7cf53 : Cond.code yJ9_min_7cf53 cJ9_min_7cf53 2 (some .int) ∈ kt := kT 419 (by decide +kernel) (by decide +kernel)
theorem kML_RX8_173 : Cond.methodLink RX8 173 yX7_add ∈ kt := kT 420 (by decide +kernel) (by decide +kernel)
theorem kIM_yX7_add : Cond.instanceMethod yX7_add ∈ kt := kT 421 (by decide +kernel) (by decide +kernel)
theorem kSE_yX7_add : Cond.selects RX7 yX7_add yX7_add ∈ kt := kT 422 (by decide +kernel) (by decide +kernel)
theorem kCO_yX7_add : Cond.code yX7_add cX7_add 3 none ∈ kt := kT 423 (by decide +kernel) (by decide +kernel)
theorem kML_RX7_38 : Cond.methodLink RX7 38 yX4_hangNew ∈ kt := kT 424 (by decide +kernel) (by decide +kernel)
theorem kIM_yX4_hangNew : Cond.instanceMethod yX4_hangNew ∈ kt := kT 425 (by decide +kernel) (by decide +kernel)
theorem kSE_yX4_hangNew : Cond.selects RX4 yX4_hangNew yX4_hangNew ∈ kt := kT 426 (by decide +kernel) (by decide +kernel)
theorem kCO_yX4_hangNew : Cond.code yX4_hangNew cX4_hangNew 7 (some .int) ∈ kt := kT 427 (by decide +kernel) (by decide +kernel)
theorem kML_RX4_66 : Cond.methodLink RX4 66 yX4_freeSlot ∈ kt := kT 428 (by decide +kernel) (by decide +kernel)
theorem kIM_yX4_freeSlot : Cond.instanceMethod yX4_freeSlot ∈ kt := kT 430 (by decide +kernel) (by decide +kernel)
theorem kCO_yX4_freeSlot : Cond.code yX4_freeSlot cX4_freeSlot 2 (some .int) ∈ kt := kT 431 (by decide +kernel) (by decide +kernel)
theorem kML_RX4_70 : Cond.methodLink RX4 70 yX4_fill ∈ kt := kT 432 (by decide +kernel) (by decide +kernel)
theorem kIM_yX4_fill : Cond.instanceMethod yX4_fill ∈ kt := kT 434 (by decide +kernel) (by decide +kernel)
theorem kCO_yX4_fill : Cond.code yX4_fill cX4_fill 4 none ∈ kt := kT 435 (by decide +kernel) (by decide +kernel)
theorem kML_RX7_42 : Cond.methodLink RX7 42 yX7_mendUpwards ∈ kt := kT 436 (by decide +kernel) (by decide +kernel)
theorem kIM_yX7_mendUpwards : Cond.instanceMethod yX7_mendUpwards ∈ kt := kT 438 (by decide +kernel) (by decide +kernel)
theorem kCO_yX7_mendUpwards : Cond.code yX7_mendUpwards cX7_mendUpwards 6 none ∈ kt := kT 439 (by decide +kernel) (by decide +kernel)
theorem kML_RX7_89 : Cond.methodLink RX7 89 yX7_turnAfterAdding ∈ kt := kT 440 (by decide +kernel) (by decide +kernel)
theorem kIM_yX7_turnAfterAdding : Cond.instanceMethod yX7_turnAfterAdding ∈ kt := kT 442 (by decide +kernel) (by decide +kernel)
theorem kCO_yX7_turnAfterAdding : Cond.code yX7_turnAfterAdding cX7_turnAfterAdding 5 none ∈ kt := kT 443 (by decide +kernel) (by decide +kernel)
theorem kML_RX7_93 : Cond.methodLink RX7 93 yX7_promote ∈ kt := kT 444 (by decide +kernel) (by decide +kernel)
theorem kIM_yX7_promote : Cond.instanceMethod yX7_promote ∈ kt := kT 446 (by decide +kernel) (by decide +kernel)
theorem kCO_yX7_promote : Cond.code yX7_promote cX7_promote 2 none ∈ kt := kT 447 (by decide +kernel) (by decide +kernel)
theorem kML_RL_35 : Cond.methodLink RL 35 yX8_take ∈ kt := kT 448 (by decide +kernel) (by decide +kernel)
theorem kIM_yX8_take : Cond.instanceMethod yX8_take ∈ kt := kT 449 (by decide +kernel) (by decide +kernel)
theorem kSE_yX8_take : Cond.selects RX8 yX8_take yX8_take ∈ kt := kT 450 (by decide +kernel) (by decide +kernel)
theorem kCO_yX8_take : Cond.code yX8_take cX8_take 4 (some .int) ∈ kt := kT 451 (by decide +kernel) (by decide +kernel)
theorem kML_RL_39 : Cond.methodLink RL 39 yX8_worth ∈ kt := kT 452 (by decide +kernel) (by decide +kernel)
theorem kIM_yX8_worth : Cond.instanceMethod yX8_worth ∈ kt := kT 453 (by decide +kernel) (by decide +kernel)
theorem kSE_yX8_worth : Cond.selects RX8 yX8_worth yX8_worth ∈ kt := kT 454 (by decide +kernel) (by decide +kernel)
theorem kCO_yX8_worth : Cond.code yX8_worth cX8_worth 5 (some .int) ∈ kt := kT 455 (by decide +kernel) (by decide +kernel)
theorem kML_RX8_181 : Cond.methodLink RX8 181 yX4_setWorth ∈ kt := kT 456 (by decide +kernel) (by decide +kernel)
theorem kIM_yX4_setWorth : Cond.instanceMethod yX4_setWorth ∈ kt := kT 457 (by decide +kernel) (by decide +kernel)
theorem kSE_yX4_setWorth : Cond.selects RX4 yX4_setWorth yX4_setWorth ∈ kt := kT 458 (by decide +kernel) (by decide +kernel)
theorem kCO_yX4_setWorth : Cond.code yX4_setWorth cX4_setWorth 3 none ∈ kt := kT 459 (by decide +kernel) (by decide +kernel)
theorem kML_RL_43 : Cond.methodLink RL 43 yX8_cut ∈ kt := kT 460 (by decide +kernel) (by decide +kernel)
theorem kIM_yX8_cut : Cond.instanceMethod yX8_cut ∈ kt := kT 461 (by decide +kernel) (by decide +kernel)
theorem kSE_yX8_cut : Cond.selects RX8 yX8_cut yX8_cut ∈ kt := kT 462 (by decide +kernel) (by decide +kernel)
theorem kCO_yX8_cut : Cond.code yX8_cut cX8_cut 4 (some .int) ∈ kt := kT 463 (by decide +kernel) (by decide +kernel)
theorem kKI_RX8_184 : Cond.constant RX8 184 (100000) ∈ kt := kT 464 (by decide +kernel) (by decide +kernel)
theorem kML_RL_47 : Cond.methodLink RL 47 yX8_batch ∈ kt := kT 465 (by decide +kernel) (by decide +kernel)
theorem kIM_yX8_batch : Cond.instanceMethod yX8_batch ∈ kt := kT 466 (by decide +kernel) (by decide +kernel)
theorem kSE_yX8_batch : Cond.selects RX8 yX8_batch yX8_batch ∈ kt := kT 467 (by decide +kernel) (by decide +kernel)
theorem kCO_yX8_batch : Cond.code yX8_batch cX8_batch 6 (some .int) ∈ kt := kT 468 (by decide +kernel) (by decide +kernel)
theorem kML_RX8_189 : Cond.methodLink RX8 189 yX8_addIfItCan ∈ kt := kT 469 (by decide +kernel) (by decide +kernel)
theorem kIM_yX8_addIfItCan : Cond.instanceMethod yX8_addIfItCan ∈ kt := kT 471 (by decide +kernel) (by decide +kernel)
theorem kCO_yX8_addIfItCan : Cond.code yX8_addIfItCan cX8_addIfItCan 3 none ∈ kt := kT 472 (by decide +kernel) (by decide +kernel)
theorem kML_RL_52 : Cond.methodLink RL 52 yX8_rebuild ∈ kt := kT 473 (by decide +kernel) (by decide +kernel)
theorem kIM_yX8_rebuild : Cond.instanceMethod yX8_rebuild ∈ kt := kT 474 (by decide +kernel) (by decide +kernel)
theorem kSE_yX8_rebuild : Cond.selects RX8 yX8_rebuild yX8_rebuild ∈ kt := kT 475 (by decide +kernel) (by decide +kernel)
theorem kCO_yX8_rebuild : Cond.code yX8_rebuild cX8_rebuild 1 (some .int) ∈ kt := kT 476 (by decide +kernel) (by decide +kernel)
theorem kML_RX8_195 : Cond.methodLink RX8 195 yX4_clear ∈ kt := kT 477 (by decide +kernel) (by decide +kernel)
theorem kIM_yX4_clear : Cond.instanceMethod yX4_clear ∈ kt := kT 478 (by decide +kernel) (by decide +kernel)
theorem kSE_yX4_clear : Cond.selects RX4 yX4_clear yX4_clear ∈ kt := kT 479 (by decide +kernel) (by decide +kernel)
theorem kCO_yX4_clear : Cond.code yX4_clear cX4_clear 1 none ∈ kt := kT 480 (by decide +kernel) (by decide +kernel)
theorem kML_RX8_198 : Cond.methodLink RX8 198 yX8_addRising ∈ kt := kT 481 (by decide +kernel) (by decide +kernel)
theorem kIM_yX8_addRising : Cond.instanceMethod yX8_addRising ∈ kt := kT 483 (by decide +kernel) (by decide +kernel)
theorem kCO_yX8_addRising : Cond.code yX8_addRising cX8_addRising 5 none ∈ kt := kT 484 (by decide +kernel) (by decide +kernel)
theorem kML_RL_57 : Cond.methodLink RL 57 yX8_join ∈ kt := kT 485 (by decide +kernel) (by decide +kernel)
theorem kIM_yX8_join : Cond.instanceMethod yX8_join ∈ kt := kT 486 (by decide +kernel) (by decide +kernel)
theorem kSE_yX8_join : Cond.selects RX8 yX8_join yX8_join ∈ kt := kT 487 (by decide +kernel) (by decide +kernel)
theorem kCO_yX8_join : Cond.code yX8_join cX8_join 4 (some .int) ∈ kt := kT 488 (by decide +kernel) (by decide +kernel)
theorem kML_RX8_202 : Cond.methodLink RX8 202 yX8_isImage ∈ kt := kT 489 (by decide +kernel) (by decide +kernel)
theorem kSM_yX8_isImage : Cond.static yX8_isImage ∈ kt := kT 490 (by decide +kernel) (by decide +kernel)
theorem kCO_yX8_isImage : Cond.code yX8_isImage cX8_isImage 1 (some .boolean) ∈ kt := kT 491 (by decide +kernel) (by decide +kernel)
theorem kML_RX8_209 : Cond.methodLink RX8 209 yX4_greatestBelow ∈ kt := kT 492 (by decide +kernel) (by decide +kernel)
theorem kML_RL_61 : Cond.methodLink RL 61 yX8_drift ∈ kt := kT 493 (by decide +kernel) (by decide +kernel)
theorem kIM_yX8_drift : Cond.instanceMethod yX8_drift ∈ kt := kT 494 (by decide +kernel) (by decide +kernel)
theorem kSE_yX8_drift : Cond.selects RX8 yX8_drift yX8_drift ∈ kt := kT 495 (by decide +kernel) (by decide +kernel)
theorem kCO_yX8_drift : Cond.code yX8_drift cX8_drift 3 (some .int) ∈ kt := kT 496 (by decide +kernel) (by decide +kernel)
theorem kML_RX8_213 : Cond.methodLink RX8 213 yX8_driftOnce ∈ kt := kT 497 (by decide +kernel) (by decide +kernel)
theorem kIM_yX8_driftOnce : Cond.instanceMethod yX8_driftOnce ∈ kt := kT 499 (by decide +kernel) (by decide +kernel)
theorem kCO_yX8_driftOnce : Cond.code yX8_driftOnce cX8_driftOnce 4 none ∈ kt := kT 500 (by decide +kernel) (by decide +kernel)
theorem kML_RX8_247 : Cond.methodLink RX8 247 yX2_next ∈ kt := kT 501 (by decide +kernel) (by decide +kernel)
theorem kIM_yX2_next : Cond.instanceMethod yX2_next ∈ kt := kT 502 (by decide +kernel) (by decide +kernel)
theorem kSE_yX2_next : Cond.selects RX2 yX2_next yX2_next ∈ kt := kT 503 (by decide +kernel) (by decide +kernel)
theorem kCO_yX2_next : Cond.code yX2_next cX2_next 2 (some .int) ∈ kt := kT 504 (by decide +kernel) (by decide +kernel)
theorem kKJ_RX2_13 : Cond.constantLong RX2 13 (1103515245) ∈ kt := kT 505 (by decide +kernel) (by decide +kernel)
theorem kKJ_RX2_15 : Cond.constantLong RX2 15 (12345) ∈ kt := kT 506 (by decide +kernel) (by decide +kernel)
theorem kKJ_RX2_17 : Cond.constantLong RX2 17 (2147483647) ∈ kt := kT 507 (by decide +kernel) (by decide +kernel)
theorem kKI_RX2_19 : Cond.constant RX2 19 (65536) ∈ kt := kT 508 (by decide +kernel) (by decide +kernel)
theorem kML_RL_65 : Cond.methodLink RL 65 yX8_undo ∈ kt := kT 509 (by decide +kernel) (by decide +kernel)
theorem kIM_yX8_undo : Cond.instanceMethod yX8_undo ∈ kt := kT 510 (by decide +kernel) (by decide +kernel)
theorem kSE_yX8_undo : Cond.selects RX8 yX8_undo yX8_undo ∈ kt := kT 511 (by decide +kernel) (by decide +kernel)
theorem kCO_yX8_undo : Cond.code yX8_undo cX8_undo 2 (some .int) ∈ kt := kT 512 (by decide +kernel) (by decide +kernel)
theorem kML_RX8_216 : Cond.methodLink RX8 216 yX5_restore ∈ kt := kT 513 (by decide +kernel) (by decide +kernel)
theorem kIM_yX5_restore : Cond.instanceMethod yX5_restore ∈ kt := kT 514 (by decide +kernel) (by decide +kernel)
theorem kSE_yX5_restore : Cond.selects RX5 yX5_restore yX5_restore ∈ kt := kT 515 (by decide +kernel) (by decide +kernel)
theorem kCO_yX5_restore : Cond.code yX5_restore cX5_restore 4 none ∈ kt := kT 516 (by decide +kernel) (by decide +kernel)
theorem kML_RL_69 : Cond.methodLink RL 69 yX8_less ∈ kt := kT 517 (by decide +kernel) (by decide +kernel)
theorem kIM_yX8_less : Cond.instanceMethod yX8_less ∈ kt := kT 518 (by decide +kernel) (by decide +kernel)
theorem kSE_yX8_less : Cond.selects RX8 yX8_less yX8_less ∈ kt := kT 519 (by decide +kernel) (by decide +kernel)
theorem kCO_yX8_less : Cond.code yX8_less cX8_less 2 (some .int) ∈ kt := kT 520 (by decide +kernel) (by decide +kernel)
theorem kML_RL_73 : Cond.methodLink RL 73 yX8_beside ∈ kt := kT 521 (by decide +kernel) (by decide +kernel)
theorem kIM_yX8_beside : Cond.instanceMethod yX8_beside ∈ kt := kT 522 (by decide +kernel) (by decide +kernel)
theorem kSE_yX8_beside : Cond.selects RX8 yX8_beside yX8_beside ∈ kt := kT 523 (by decide +kernel) (by decide +kernel)
theorem kCO_yX8_beside : Cond.code yX8_beside cX8_beside 3 (some .int) ∈ kt := kT 524 (by decide +kernel) (by decide +kernel)
theorem kML_RX8_220 : Cond.methodLink RX8 220 yX6_greatestLess ∈ kt := kT 525 (by decide +kernel) (by decide +kernel)
theorem kSM_yX6_greatestLess : Cond.static yX6_greatestLess ∈ kt := kT 526 (by decide +kernel) (by decide +kernel)
theorem kCO_yX6_greatestLess : Cond.code yX6_greatestLess cX6_greatestLess 6 (some .int) ∈ kt := kT 527 (by decide +kernel) (by decide +kernel)
theorem kML_RX6_32 : Cond.methodLink RX6 32 yX4_childOf ∈ kt := kT 528 (by decide +kernel) (by decide +kernel)
theorem kML_RX8_223 : Cond.methodLink RX8 223 yX6_leastGreater ∈ kt := kT 529 (by decide +kernel) (by decide +kernel)
theorem kSM_yX6_leastGreater : Cond.static yX6_leastGreater ∈ kt := kT 530 (by decide +kernel) (by decide +kernel)
theorem kCO_yX6_leastGreater : Cond.code yX6_leastGreater cX6_leastGreater 6 (some .int) ∈ kt := kT 531 (by decide +kernel) (by decide +kernel)
theorem kML_RL_77 : Cond.methodLink RL 77 yX8_between ∈ kt := kT 532 (by decide +kernel) (by decide +kernel)
theorem kIM_yX8_between : Cond.instanceMethod yX8_between ∈ kt := kT 533 (by decide +kernel) (by decide +kernel)
theorem kSE_yX8_between : Cond.selects RX8 yX8_between yX8_between ∈ kt := kT 534 (by decide +kernel) (by decide +kernel)
theorem kCO_yX8_between : Cond.code yX8_between cX8_between 4 (some .int) ∈ kt := kT 535 (by decide +kernel) (by decide +kernel)
theorem kML_RX8_226 : Cond.methodLink RX8 226 yX6_howManyFrom ∈ kt := kT 536 (by decide +kernel) (by decide +kernel)
theorem kML_RX8_229 : Cond.methodLink RX8 229 yX6_mostWorthFrom ∈ kt := kT 537 (by decide +kernel) (by decide +kernel)
theorem kSM_yX6_mostWorthFrom : Cond.static yX6_mostWorthFrom ∈ kt := kT 538 (by decide +kernel) (by decide +kernel)
theorem kCO_yX6_mostWorthFrom : Cond.code yX6_mostWorthFrom cX6_mostWorthFrom 5 (some .int) ∈ kt := kT 539 (by decide +kernel) (by decide +kernel)
theorem kML_RX6_24 : Cond.methodLink RX6 24 yX6_isWorthier ∈ kt := kT 540 (by decide +kernel) (by decide +kernel)
theorem kSM_yX6_isWorthier : Cond.static yX6_isWorthier ∈ kt := kT 541 (by decide +kernel) (by decide +kernel)
theorem kCO_yX6_isWorthier : Cond.code yX6_isWorthier cX6_isWorthier 3 (some .boolean) ∈ kt := kT 542 (by decide +kernel) (by decide +kernel)
theorem kML_RL_81 : Cond.methodLink RL 81 yX8_way ∈ kt := kT 543 (by decide +kernel) (by decide +kernel)
theorem kIM_yX8_way : Cond.instanceMethod yX8_way ∈ kt := kT 544 (by decide +kernel) (by decide +kernel)
theorem kSE_yX8_way : Cond.selects RX8 yX8_way yX8_way ∈ kt := kT 545 (by decide +kernel) (by decide +kernel)
theorem kCO_yX8_way : Cond.code yX8_way cX8_way 7 (some .int) ∈ kt := kT 546 (by decide +kernel) (by decide +kernel)
theorem kML_RL_85 : Cond.methodLink RL 85 yX8_audit ∈ kt := kT 547 (by decide +kernel) (by decide +kernel)
theorem kIM_yX8_audit : Cond.instanceMethod yX8_audit ∈ kt := kT 548 (by decide +kernel) (by decide +kernel)
theorem kSE_yX8_audit : Cond.selects RX8 yX8_audit yX8_audit ∈ kt := kT 549 (by decide +kernel) (by decide +kernel)
theorem kCO_yX8_audit : Cond.code yX8_audit cX8_audit 4 (some .int) ∈ kt := kT 550 (by decide +kernel) (by decide +kernel)
theorem kML_RX8_232 : Cond.methodLink RX8 232 yX4_setRank ∈ kt := kT 551 (by decide +kernel) (by decide +kernel)
theorem kIM_yX4_setRank : Cond.instanceMethod yX4_setRank ∈ kt := kT 552 (by decide +kernel) (by decide +kernel)
theorem kSE_yX4_setRank : Cond.selects RX4 yX4_setRank yX4_setRank ∈ kt := kT 553 (by decide +kernel) (by decide +kernel)
theorem kCO_yX4_setRank : Cond.code yX4_setRank cX4_setRank 3 none ∈ kt := kT 554 (by decide +kernel) (by decide +kernel)
theorem kML_RX8_235 : Cond.methodLink RX8 235 yX6_firstWrong ∈ kt := kT 555 (by decide +kernel) (by decide +kernel)
theorem kSM_yX6_firstWrong : Cond.static yX6_firstWrong ∈ kt := kT 556 (by decide +kernel) (by decide +kernel)
theorem kCO_yX6_firstWrong : Cond.code yX6_firstWrong cX6_firstWrong 3 (some .int) ∈ kt := kT 557 (by decide +kernel) (by decide +kernel)
theorem kML_RX6_67 : Cond.methodLink RX6 67 yX6_isRight ∈ kt := kT 558 (by decide +kernel) (by decide +kernel)
theorem kSM_yX6_isRight : Cond.static yX6_isRight ∈ kt := kT 559 (by decide +kernel) (by decide +kernel)
theorem kCO_yX6_isRight : Cond.code yX6_isRight cX6_isRight 4 (some .boolean) ∈ kt := kT 560 (by decide +kernel) (by decide +kernel)
theorem kML_RX6_74 : Cond.methodLink RX6 74 yX4_isLeaf ∈ kt := kT 561 (by decide +kernel) (by decide +kernel)
theorem kML_RX6_78 : Cond.methodLink RX6 78 yX4_leftOf ∈ kt := kT 562 (by decide +kernel) (by decide +kernel)
theorem kML_RX6_81 : Cond.methodLink RX6 81 yX4_rightOf ∈ kt := kT 563 (by decide +kernel) (by decide +kernel)
theorem kML_RX6_71 : Cond.methodLink RX6 71 yX4_nextByNumber ∈ kt := kT 565 (by decide +kernel) (by decide +kernel)
theorem kML_RL_89 : Cond.methodLink RL 89 yX8_seed ∈ kt := kT 566 (by decide +kernel) (by decide +kernel)
theorem kIM_yX8_seed : Cond.instanceMethod yX8_seed ∈ kt := kT 567 (by decide +kernel) (by decide +kernel)
theorem kSE_yX8_seed : Cond.selects RX8 yX8_seed yX8_seed ∈ kt := kT 568 (by decide +kernel) (by decide +kernel)
theorem kCO_yX8_seed : Cond.code yX8_seed cX8_seed 3 (some .int) ∈ kt := kT 569 (by decide +kernel) (by decide +kernel)
theorem kML_RL_93 : Cond.methodLink RL 93 yX8_keep ∈ kt := kT 570 (by decide +kernel) (by decide +kernel)
theorem kIM_yX8_keep : Cond.instanceMethod yX8_keep ∈ kt := kT 571 (by decide +kernel) (by decide +kernel)
theorem kSE_yX8_keep : Cond.selects RX8 yX8_keep yX8_keep ∈ kt := kT 572 (by decide +kernel) (by decide +kernel)
theorem kCO_yX8_keep : Cond.code yX8_keep cX8_keep 2 (some .int) ∈ kt := kT 573 (by decide +kernel) (by decide +kernel)
theorem kML_RX8_244 : Cond.methodLink RX8 244 yX5_forget ∈ kt := kT 574 (by decide +kernel) (by decide +kernel)
theorem kIM_yX5_forget : Cond.instanceMethod yX5_forget ∈ kt := kT 575 (by decide +kernel) (by decide +kernel)
theorem kSE_yX5_forget : Cond.selects RX5 yX5_forget yX5_forget ∈ kt := kT 576 (by decide +kernel) (by decide +kernel)
theorem kCO_yX5_forget : Cond.code yX5_forget cX5_forget 1 none ∈ kt := kT 577 (by decide +kernel) (by decide +kernel)
theorem kML_RL_97 : Cond.methodLink RL 97 yX8_goBack ∈ kt := kT 578 (by decide +kernel) (by decide +kernel)
theorem kIM_yX8_goBack : Cond.instanceMethod yX8_goBack ∈ kt := kT 579 (by decide +kernel) (by decide +kernel)
theorem kSE_yX8_goBack : Cond.selects RX8 yX8_goBack yX8_goBack ∈ kt := kT 580 (by decide +kernel) (by decide +kernel)
theorem kCO_yX8_goBack : Cond.code yX8_goBack cX8_goBack 2 (some .int) ∈ kt := kT 581 (by decide +kernel) (by decide +kernel)
theorem kCL_RL_10 : Cond.classLink RL 10 RX9 ∈ kt := kT 582 (by decide +kernel) (by decide +kernel)
theorem kIS_RX9 : Cond.instantiable RX9 16 ∈ kt := kT 583 (by decide +kernel) (by decide +kernel)
theorem kML_RL_12 : Cond.methodLink RL 12 yX9_init ∈ kt := kT 584 (by decide +kernel) (by decide +kernel)
theorem kIM_yX9_init : Cond.instanceMethod yX9_init ∈ kt := kT 585 (by decide +kernel) (by decide +kernel)
theorem kCO_yX9_init : Cond.code yX9_init cX9_init 1 none ∈ kt := kT 586 (by decide +kernel) (by decide +kernel)
theorem kML_RX9_1 : Cond.methodLink RX9 1 objectInit ∈ kt := kT 587 (by decide +kernel) (by decide +kernel)
theorem kML_RX9_53 : Cond.methodLink RX9 53 yX9_empties ∈ kt := kT 588 (by decide +kernel) (by decide +kernel)
theorem kIM_yX9_empties : Cond.instanceMethod yX9_empties ∈ kt := kT 590 (by decide +kernel) (by decide +kernel)
theorem kCO_yX9_empties : Cond.code yX9_empties cX9_empties 2 none ∈ kt := kT 591 (by decide +kernel) (by decide +kernel)
theorem kML_RX9_60 : Cond.methodLink RX9 60 yX9_goesEmpty ∈ kt := kT 592 (by decide +kernel) (by decide +kernel)
theorem kIM_yX9_goesEmpty : Cond.instanceMethod yX9_goesEmpty ∈ kt := kT 594 (by decide +kernel) (by decide +kernel)
theorem kCO_yX9_goesEmpty : Cond.code yX9_goesEmpty cX9_goesEmpty 2 none ∈ kt := kT 595 (by decide +kernel) (by decide +kernel)
theorem kML_RX9_56 : Cond.methodLink RX9 56 yX9_lays ∈ kt := kT 596 (by decide +kernel) (by decide +kernel)
theorem kIM_yX9_lays : Cond.instanceMethod yX9_lays ∈ kt := kT 598 (by decide +kernel) (by decide +kernel)
theorem kCO_yX9_lays : Cond.code yX9_lays cX9_lays 4 none ∈ kt := kT 599 (by decide +kernel) (by decide +kernel)
theorem kFL_RX9_7 : Cond.fieldLink RX9 7 "RankIndexModel" "now" "[I" ∈ kt := kT 600 (by decide +kernel) (by decide +kernel)
theorem kFL_RX9_13 : Cond.fieldLink RX9 13 "RankIndexModel" "past" "[I" ∈ kt := kT 601 (by decide +kernel) (by decide +kernel)
theorem kFL_RX9_167 : Cond.fieldLink RX9 167 "RankIndexModel" "undone" "I" ∈ kt := kT 602 (by decide +kernel) (by decide +kernel)
theorem kFL_RX9_16 : Cond.fieldLink RX9 16 "RankIndexModel" "images" "[I" ∈ kt := kT 603 (by decide +kernel) (by decide +kernel)
theorem kFL_RX9_19 : Cond.fieldLink RX9 19 "RankIndexModel" "imageSeed" "[I" ∈ kt := kT 604 (by decide +kernel) (by decide +kernel)
theorem kFL_RX9_22 : Cond.fieldLink RX9 22 "RankIndexModel" "isKept" "[Z" ∈ kt := kT 605 (by decide +kernel) (by decide +kernel)
theorem kFL_RX9_218 : Cond.fieldLink RX9 218 "RankIndexModel" "seedNow" "I" ∈ kt := kT 606 (by decide +kernel) (by decide +kernel)
theorem kFL_RX9_26 : Cond.fieldLink RX9 26 "RankIndexModel" "order" "[I" ∈ kt := kT 607 (by decide +kernel) (by decide +kernel)
theorem kFL_RX9_29 : Cond.fieldLink RX9 29 "RankIndexModel" "numberOf" "[I" ∈ kt := kT 608 (by decide +kernel) (by decide +kernel)
theorem kFL_RX9_32 : Cond.fieldLink RX9 32 "RankIndexModel" "above" "[I" ∈ kt := kT 609 (by decide +kernel) (by decide +kernel)
theorem kFL_RX9_35 : Cond.fieldLink RX9 35 "RankIndexModel" "pile" "[I" ∈ kt := kT 610 (by decide +kernel) (by decide +kernel)
theorem kFL_RX9_38 : Cond.fieldLink RX9 38 "RankIndexModel" "aside" "[I" ∈ kt := kT 611 (by decide +kernel) (by decide +kernel)
theorem kFL_RX9_41 : Cond.fieldLink RX9 41 "RankIndexModel" "fewest" "[I" ∈ kt := kT 612 (by decide +kernel) (by decide +kernel)
theorem kFL_RX9_44 : Cond.fieldLink RX9 44 "RankIndexModel" "deep" "[I" ∈ kt := kT 613 (by decide +kernel) (by decide +kernel)
theorem kFL_RX9_47 : Cond.fieldLink RX9 47 "RankIndexModel" "keys" "[I" ∈ kt := kT 614 (by decide +kernel) (by decide +kernel)
theorem kFL_RX9_50 : Cond.fieldLink RX9 50 "RankIndexModel" "worths" "[I" ∈ kt := kT 615 (by decide +kernel) (by decide +kernel)
theorem kAC_649 : Cond.arrayClass .boolean ∈ kt := kT 649 (by decide +kernel) (by decide +kernel)
theorem kML_RL_17 : Cond.methodLink RL 17 yX9_told ∈ kt := kT 650 (by decide +kernel) (by decide +kernel)
theorem kIM_yX9_told : Cond.instanceMethod yX9_told ∈ kt := kT 651 (by decide +kernel) (by decide +kernel)
theorem kSE_yX9_told : Cond.selects RX9 yX9_told yX9_told ∈ kt := kT 652 (by decide +kernel) (by decide +kernel)
theorem kCO_yX9_told : Cond.code yX9_told cX9_told 2 (some .int) ∈ kt := kT 653 (by decide +kernel) (by decide +kernel)
theorem kML_RX9_128 : Cond.methodLink RX9 128 yX9_many ∈ kt := kT 654 (by decide +kernel) (by decide +kernel)
theorem kIM_yX9_many : Cond.instanceMethod yX9_many ∈ kt := kT 656 (by decide +kernel) (by decide +kernel)
theorem kCO_yX9_many : Cond.code yX9_many cX9_many 1 (some .int) ∈ kt := kT 657 (by decide +kernel) (by decide +kernel)
theorem kML_RX9_87 : Cond.methodLink RX9 87 yX9_top ∈ kt := kT 658 (by decide +kernel) (by decide +kernel)
theorem kIM_yX9_top : Cond.instanceMethod yX9_top ∈ kt := kT 660 (by decide +kernel) (by decide +kernel)
theorem kCO_yX9_top : Cond.code yX9_top cX9_top 1 (some .int) ∈ kt := kT 661 (by decide +kernel) (by decide +kernel)
theorem kML_RX9_63 : Cond.methodLink RX9 63 yX9_of ∈ kt := kT 662 (by decide +kernel) (by decide +kernel)
theorem kIM_yX9_of : Cond.instanceMethod yX9_of ∈ kt := kT 664 (by decide +kernel) (by decide +kernel)
theorem kCO_yX9_of : Cond.code yX9_of cX9_of 3 (some .int) ∈ kt := kT 665 (by decide +kernel) (by decide +kernel)
theorem kML_RX9_83 : Cond.methodLink RX9 83 yX9_rankOf ∈ kt := kT 666 (by decide +kernel) (by decide +kernel)
theorem kIM_yX9_rankOf : Cond.instanceMethod yX9_rankOf ∈ kt := kT 668 (by decide +kernel) (by decide +kernel)
theorem kCO_yX9_rankOf : Cond.code yX9_rankOf cX9_rankOf 2 (some .int) ∈ kt := kT 669 (by decide +kernel) (by decide +kernel)
theorem kML_RX9_149 : Cond.methodLink RX9 149 yX9_depth ∈ kt := kT 670 (by decide +kernel) (by decide +kernel)
theorem kIM_yX9_depth : Cond.instanceMethod yX9_depth ∈ kt := kT 672 (by decide +kernel) (by decide +kernel)
theorem kCO_yX9_depth : Cond.code yX9_depth cX9_depth 3 (some .int) ∈ kt := kT 673 (by decide +kernel) (by decide +kernel)
theorem kML_RX9_131 : Cond.methodLink RX9 131 yX9_numbers ∈ kt := kT 674 (by decide +kernel) (by decide +kernel)
theorem kIM_yX9_numbers : Cond.instanceMethod yX9_numbers ∈ kt := kT 676 (by decide +kernel) (by decide +kernel)
theorem kCO_yX9_numbers : Cond.code yX9_numbers cX9_numbers 6 none ∈ kt := kT 677 (by decide +kernel) (by decide +kernel)
theorem kML_RX9_71 : Cond.methodLink RX9 71 yX9_child ∈ kt := kT 678 (by decide +kernel) (by decide +kernel)
theorem kIM_yX9_child : Cond.instanceMethod yX9_child ∈ kt := kT 680 (by decide +kernel) (by decide +kernel)
theorem kCO_yX9_child : Cond.code yX9_child cX9_child 3 (some .int) ∈ kt := kT 681 (by decide +kernel) (by decide +kernel)
theorem kML_RX9_152 : Cond.methodLink RX9 152 yX9_sumOf ∈ kt := kT 682 (by decide +kernel) (by decide +kernel)
theorem kIM_yX9_sumOf : Cond.instanceMethod yX9_sumOf ∈ kt := kT 684 (by decide +kernel) (by decide +kernel)
theorem kCO_yX9_sumOf : Cond.code yX9_sumOf cX9_sumOf 4 (some .int) ∈ kt := kT 685 (by decide +kernel) (by decide +kernel)
theorem kML_RX9_155 : Cond.methodLink RX9 155 yX9_twos ∈ kt := kT 686 (by decide +kernel) (by decide +kernel)
theorem kIM_yX9_twos : Cond.instanceMethod yX9_twos ∈ kt := kT 688 (by decide +kernel) (by decide +kernel)
theorem kCO_yX9_twos : Cond.code yX9_twos cX9_twos 4 (some .int) ∈ kt := kT 689 (by decide +kernel) (by decide +kernel)
theorem kML_RX9_100 : Cond.methodLink RX9 100 yX9_step ∈ kt := kT 690 (by decide +kernel) (by decide +kernel)
theorem kIM_yX9_step : Cond.instanceMethod yX9_step ∈ kt := kT 692 (by decide +kernel) (by decide +kernel)
theorem kCO_yX9_step : Cond.code yX9_step cX9_step 3 (some .int) ∈ kt := kT 693 (by decide +kernel) (by decide +kernel)
theorem kML_RX9_158 : Cond.methodLink RX9 158 yX9_costly ∈ kt := kT 694 (by decide +kernel) (by decide +kernel)
theorem kIM_yX9_costly : Cond.instanceMethod yX9_costly ∈ kt := kT 696 (by decide +kernel) (by decide +kernel)
theorem kCO_yX9_costly : Cond.code yX9_costly cX9_costly 5 (some .int) ∈ kt := kT 697 (by decide +kernel) (by decide +kernel)
theorem kML_RX9_140 : Cond.methodLink RX9 140 yX9_besideOf ∈ kt := kT 698 (by decide +kernel) (by decide +kernel)
theorem kIM_yX9_besideOf : Cond.instanceMethod yX9_besideOf ∈ kt := kT 700 (by decide +kernel) (by decide +kernel)
theorem kCO_yX9_besideOf : Cond.code yX9_besideOf cX9_besideOf 8 (some .int) ∈ kt := kT 701 (by decide +kernel) (by decide +kernel)
theorem kML_RX9_143 : Cond.methodLink RX9 143 yX9_costs ∈ kt := kT 702 (by decide +kernel) (by decide +kernel)
theorem kIM_yX9_costs : Cond.instanceMethod yX9_costs ∈ kt := kT 704 (by decide +kernel) (by decide +kernel)
theorem kCO_yX9_costs : Cond.code yX9_costs cX9_costs 4 (some .int) ∈ kt := kT 705 (by decide +kernel) (by decide +kernel)
theorem kML_RX9_134 : Cond.methodLink RX9 134 yX9_find ∈ kt := kT 706 (by decide +kernel) (by decide +kernel)
theorem kIM_yX9_find : Cond.instanceMethod yX9_find ∈ kt := kT 708 (by decide +kernel) (by decide +kernel)
theorem kCO_yX9_find : Cond.code yX9_find cX9_find 3 (some .int) ∈ kt := kT 709 (by decide +kernel) (by decide +kernel)
theorem kML_RX9_137 : Cond.methodLink RX9 137 yX9_takes ∈ kt := kT 710 (by decide +kernel) (by decide +kernel)
theorem kIM_yX9_takes : Cond.instanceMethod yX9_takes ∈ kt := kT 712 (by decide +kernel) (by decide +kernel)
theorem kCO_yX9_takes : Cond.code yX9_takes cX9_takes 6 none ∈ kt := kT 713 (by decide +kernel) (by decide +kernel)
theorem kML_RX9_94 : Cond.methodLink RX9 94 yX9_begins ∈ kt := kT 714 (by decide +kernel) (by decide +kernel)
theorem kIM_yX9_begins : Cond.instanceMethod yX9_begins ∈ kt := kT 716 (by decide +kernel) (by decide +kernel)
theorem kCO_yX9_begins : Cond.code yX9_begins cX9_begins 2 none ∈ kt := kT 717 (by decide +kernel) (by decide +kernel)
theorem kML_RX9_113 : Cond.methodLink RX9 113 yX9_leastBelow ∈ kt := kT 718 (by decide +kernel) (by decide +kernel)
theorem kIM_yX9_leastBelow : Cond.instanceMethod yX9_leastBelow ∈ kt := kT 720 (by decide +kernel) (by decide +kernel)
theorem kCO_yX9_leastBelow : Cond.code yX9_leastBelow cX9_leastBelow 3 (some .int) ∈ kt := kT 721 (by decide +kernel) (by decide +kernel)
theorem kML_RX9_67 : Cond.methodLink RX9 67 yX9_isLeftOf ∈ kt := kT 722 (by decide +kernel) (by decide +kernel)
theorem kIM_yX9_isLeftOf : Cond.instanceMethod yX9_isLeftOf ∈ kt := kT 724 (by decide +kernel) (by decide +kernel)
theorem kCO_yX9_isLeftOf : Cond.code yX9_isLeftOf cX9_isLeftOf 3 (some .boolean) ∈ kt := kT 725 (by decide +kernel) (by decide +kernel)
theorem kML_RX9_75 : Cond.methodLink RX9 75 yX9_hangs ∈ kt := kT 726 (by decide +kernel) (by decide +kernel)
theorem kIM_yX9_hangs : Cond.instanceMethod yX9_hangs ∈ kt := kT 728 (by decide +kernel) (by decide +kernel)
theorem kCO_yX9_hangs : Cond.code yX9_hangs cX9_hangs 4 none ∈ kt := kT 729 (by decide +kernel) (by decide +kernel)
theorem kML_RX9_116 : Cond.methodLink RX9 116 yX9_hasNoChildren ∈ kt := kT 730 (by decide +kernel) (by decide +kernel)
theorem kIM_yX9_hasNoChildren : Cond.instanceMethod yX9_hasNoChildren ∈ kt := kT 732 (by decide +kernel) (by decide +kernel)
theorem kCO_yX9_hasNoChildren : Cond.code yX9_hasNoChildren cX9_hasNoChildren 2 (some .boolean) ∈ kt := kT 733 (by decide +kernel) (by decide +kernel)
theorem kML_RX9_103 : Cond.methodLink RX9 103 yX9_ranks ∈ kt := kT 734 (by decide +kernel) (by decide +kernel)
theorem kIM_yX9_ranks : Cond.instanceMethod yX9_ranks ∈ kt := kT 736 (by decide +kernel) (by decide +kernel)
theorem kCO_yX9_ranks : Cond.code yX9_ranks cX9_ranks 3 none ∈ kt := kT 737 (by decide +kernel) (by decide +kernel)
theorem kML_RX9_79 : Cond.methodLink RX9 79 yX9_counts ∈ kt := kT 738 (by decide +kernel) (by decide +kernel)
theorem kIM_yX9_counts : Cond.instanceMethod yX9_counts ∈ kt := kT 740 (by decide +kernel) (by decide +kernel)
theorem kCO_yX9_counts : Cond.code yX9_counts cX9_counts 2 none ∈ kt := kT 741 (by decide +kernel) (by decide +kernel)
theorem kML_RX9_120 : Cond.methodLink RX9 120 yX9_falls ∈ kt := kT 742 (by decide +kernel) (by decide +kernel)
theorem kIM_yX9_falls : Cond.instanceMethod yX9_falls ∈ kt := kT 744 (by decide +kernel) (by decide +kernel)
theorem kCO_yX9_falls : Cond.code yX9_falls cX9_falls 8 none ∈ kt := kT 745 (by decide +kernel) (by decide +kernel)
theorem kML_RX9_124 : Cond.methodLink RX9 124 yX9_turnsDown ∈ kt := kT 746 (by decide +kernel) (by decide +kernel)
theorem kIM_yX9_turnsDown : Cond.instanceMethod yX9_turnsDown ∈ kt := kT 748 (by decide +kernel) (by decide +kernel)
theorem kCO_yX9_turnsDown : Cond.code yX9_turnsDown cX9_turnsDown 5 none ∈ kt := kT 749 (by decide +kernel) (by decide +kernel)
theorem kML_RX9_110 : Cond.methodLink RX9 110 yX9_turns ∈ kt := kT 750 (by decide +kernel) (by decide +kernel)
theorem kIM_yX9_turns : Cond.instanceMethod yX9_turns ∈ kt := kT 752 (by decide +kernel) (by decide +kernel)
theorem kCO_yX9_turns : Cond.code yX9_turns cX9_turns 7 none ∈ kt := kT 753 (by decide +kernel) (by decide +kernel)
theorem kML_RX9_161 : Cond.methodLink RX9 161 yX9_flat ∈ kt := kT 754 (by decide +kernel) (by decide +kernel)
theorem kIM_yX9_flat : Cond.instanceMethod yX9_flat ∈ kt := kT 756 (by decide +kernel) (by decide +kernel)
theorem kCO_yX9_flat : Cond.code yX9_flat cX9_flat 2 (some .int) ∈ kt := kT 757 (by decide +kernel) (by decide +kernel)
theorem kML_RX9_164 : Cond.methodLink RX9 164 yX9_tall ∈ kt := kT 758 (by decide +kernel) (by decide +kernel)
theorem kIM_yX9_tall : Cond.instanceMethod yX9_tall ∈ kt := kT 760 (by decide +kernel) (by decide +kernel)
theorem kCO_yX9_tall : Cond.code yX9_tall cX9_tall 8 (some .int) ∈ kt := kT 761 (by decide +kernel) (by decide +kernel)
theorem kML_RX9_146 : Cond.methodLink RX9 146 yX9_lesser ∈ kt := kT 762 (by decide +kernel) (by decide +kernel)
theorem kSM_yX9_lesser : Cond.static yX9_lesser ∈ kt := kT 763 (by decide +kernel) (by decide +kernel)
theorem kCO_yX9_lesser : Cond.code yX9_lesser cX9_lesser 2 (some .int) ∈ kt := kT 764 (by decide +kernel) (by decide +kernel)
theorem kKI_RX9_171 : Cond.constant RX9 171 (-1000000002) ∈ kt := kT 765 (by decide +kernel) (by decide +kernel)
theorem kML_RL_22 : Cond.methodLink RL 22 yX9_node ∈ kt := kT 766 (by decide +kernel) (by decide +kernel)
theorem kIM_yX9_node : Cond.instanceMethod yX9_node ∈ kt := kT 767 (by decide +kernel) (by decide +kernel)
theorem kSE_yX9_node : Cond.selects RX9 yX9_node yX9_node ∈ kt := kT 768 (by decide +kernel) (by decide +kernel)
theorem kCO_yX9_node : Cond.code yX9_node cX9_node 4 (some .int) ∈ kt := kT 769 (by decide +kernel) (by decide +kernel)
theorem kML_RX9_176 : Cond.methodLink RX9 176 yX9_isNode ∈ kt := kT 770 (by decide +kernel) (by decide +kernel)
theorem kIM_yX9_isNode : Cond.instanceMethod yX9_isNode ∈ kt := kT 772 (by decide +kernel) (by decide +kernel)
theorem kCO_yX9_isNode : Cond.code yX9_isNode cX9_isNode 2 (some .boolean) ∈ kt := kT 773 (by decide +kernel) (by decide +kernel)
theorem kML_RX9_172 : Cond.methodLink RX9 172 yX9_in ∈ kt := kT 774 (by decide +kernel) (by decide +kernel)
theorem kSM_yX9_in : Cond.static yX9_in ∈ kt := kT 775 (by decide +kernel) (by decide +kernel)
theorem kCO_yX9_in : Cond.code yX9_in cX9_in 6 (some .boolean) ∈ kt := kT 776 (by decide +kernel) (by decide +kernel)
theorem kKI_RX9_179 : Cond.constant RX9 179 (-1000000001) ∈ kt := kT 777 (by decide +kernel) (by decide +kernel)
theorem kML_RX9_180 : Cond.methodLink RX9 180 yX9_numberAt ∈ kt := kT 778 (by decide +kernel) (by decide +kernel)
theorem kIM_yX9_numberAt : Cond.instanceMethod yX9_numberAt ∈ kt := kT 780 (by decide +kernel) (by decide +kernel)
theorem kCO_yX9_numberAt : Cond.code yX9_numberAt cX9_numberAt 2 (some .int) ∈ kt := kT 781 (by decide +kernel) (by decide +kernel)
theorem kML_RX9_183 : Cond.methodLink RX9 183 yX9_sizeOf ∈ kt := kT 782 (by decide +kernel) (by decide +kernel)
theorem kIM_yX9_sizeOf : Cond.instanceMethod yX9_sizeOf ∈ kt := kT 784 (by decide +kernel) (by decide +kernel)
theorem kCO_yX9_sizeOf : Cond.code yX9_sizeOf cX9_sizeOf 4 (some .int) ∈ kt := kT 785 (by decide +kernel) (by decide +kernel)
theorem kML_RL_26 : Cond.methodLink RL 26 yX9_key ∈ kt := kT 786 (by decide +kernel) (by decide +kernel)
theorem kIM_yX9_key : Cond.instanceMethod yX9_key ∈ kt := kT 787 (by decide +kernel) (by decide +kernel)
theorem kSE_yX9_key : Cond.selects RX9 yX9_key yX9_key ∈ kt := kT 788 (by decide +kernel) (by decide +kernel)
theorem kCO_yX9_key : Cond.code yX9_key cX9_key 4 (some .int) ∈ kt := kT 789 (by decide +kernel) (by decide +kernel)
theorem kML_RX9_186 : Cond.methodLink RX9 186 yX9_lessThan ∈ kt := kT 790 (by decide +kernel) (by decide +kernel)
theorem kIM_yX9_lessThan : Cond.instanceMethod yX9_lessThan ∈ kt := kT 792 (by decide +kernel) (by decide +kernel)
theorem kCO_yX9_lessThan : Cond.code yX9_lessThan cX9_lessThan 4 (some .int) ∈ kt := kT 793 (by decide +kernel) (by decide +kernel)
theorem kML_RL_30 : Cond.methodLink RL 30 yX9_at ∈ kt := kT 794 (by decide +kernel) (by decide +kernel)
theorem kIM_yX9_at : Cond.instanceMethod yX9_at ∈ kt := kT 795 (by decide +kernel) (by decide +kernel)
theorem kSE_yX9_at : Cond.selects RX9 yX9_at yX9_at ∈ kt := kT 796 (by decide +kernel) (by decide +kernel)
theorem kCO_yX9_at : Cond.code yX9_at cX9_at 4 (some .int) ∈ kt := kT 797 (by decide +kernel) (by decide +kernel)
theorem kML_RL_34 : Cond.methodLink RL 34 yX9_put ∈ kt := kT 798 (by decide +kernel) (by decide +kernel)
theorem kIM_yX9_put : Cond.instanceMethod yX9_put ∈ kt := kT 799 (by decide +kernel) (by decide +kernel)
theorem kSE_yX9_put : Cond.selects RX9 yX9_put yX9_put ∈ kt := kT 800 (by decide +kernel) (by decide +kernel)
theorem kCO_yX9_put : Cond.code yX9_put cX9_put 3 (some .int) ∈ kt := kT 801 (by decide +kernel) (by decide +kernel)
theorem kML_RX9_191 : Cond.methodLink RX9 191 yX9_isKey ∈ kt := kT 802 (by decide +kernel) (by decide +kernel)
theorem kSM_yX9_isKey : Cond.static yX9_isKey ∈ kt := kT 803 (by decide +kernel) (by decide +kernel)
theorem kCO_yX9_isKey : Cond.code yX9_isKey cX9_isKey 1 (some .boolean) ∈ kt := kT 804 (by decide +kernel) (by decide +kernel)
theorem kKJ_RX9_189 : Cond.constantLong RX9 189 (99999) ∈ kt := kT 805 (by decide +kernel) (by decide +kernel)
theorem kKJ_RX9_194 : Cond.constantLong RX9 194 (9999) ∈ kt := kT 806 (by decide +kernel) (by decide +kernel)
theorem kML_RX9_196 : Cond.methodLink RX9 196 yX9_isThere ∈ kt := kT 807 (by decide +kernel) (by decide +kernel)
theorem kIM_yX9_isThere : Cond.instanceMethod yX9_isThere ∈ kt := kT 809 (by decide +kernel) (by decide +kernel)
theorem kCO_yX9_isThere : Cond.code yX9_isThere cX9_isThere 2 (some .boolean) ∈ kt := kT 810 (by decide +kernel) (by decide +kernel)
theorem kKI_RX9_199 : Cond.constant RX9 199 (-1000000003) ∈ kt := kT 811 (by decide +kernel) (by decide +kernel)
theorem kKI_RX9_200 : Cond.constant RX9 200 (-1000000004) ∈ kt := kT 812 (by decide +kernel) (by decide +kernel)
theorem kML_RX9_201 : Cond.methodLink RX9 201 yX9_save ∈ kt := kT 813 (by decide +kernel) (by decide +kernel)
theorem kIM_yX9_save : Cond.instanceMethod yX9_save ∈ kt := kT 815 (by decide +kernel) (by decide +kernel)
theorem kCO_yX9_save : Cond.code yX9_save cX9_save 2 none ∈ kt := kT 816 (by decide +kernel) (by decide +kernel)
theorem kML_RX9_204 : Cond.methodLink RX9 204 yX9_puts ∈ kt := kT 817 (by decide +kernel) (by decide +kernel)
theorem kIM_yX9_puts : Cond.instanceMethod yX9_puts ∈ kt := kT 819 (by decide +kernel) (by decide +kernel)
theorem kCO_yX9_puts : Cond.code yX9_puts cX9_puts 6 none ∈ kt := kT 820 (by decide +kernel) (by decide +kernel)
theorem kML_RX9_91 : Cond.methodLink RX9 91 yX9_freeOne ∈ kt := kT 821 (by decide +kernel) (by decide +kernel)
theorem kIM_yX9_freeOne : Cond.instanceMethod yX9_freeOne ∈ kt := kT 823 (by decide +kernel) (by decide +kernel)
theorem kCO_yX9_freeOne : Cond.code yX9_freeOne cX9_freeOne 2 (some .int) ∈ kt := kT 824 (by decide +kernel) (by decide +kernel)
theorem kML_RX9_97 : Cond.methodLink RX9 97 yX9_rises ∈ kt := kT 825 (by decide +kernel) (by decide +kernel)
theorem kIM_yX9_rises : Cond.instanceMethod yX9_rises ∈ kt := kT 827 (by decide +kernel) (by decide +kernel)
theorem kCO_yX9_rises : Cond.code yX9_rises cX9_rises 6 none ∈ kt := kT 828 (by decide +kernel) (by decide +kernel)
theorem kML_RX9_107 : Cond.methodLink RX9 107 yX9_turnsUp ∈ kt := kT 829 (by decide +kernel) (by decide +kernel)
theorem kIM_yX9_turnsUp : Cond.instanceMethod yX9_turnsUp ∈ kt := kT 831 (by decide +kernel) (by decide +kernel)
theorem kCO_yX9_turnsUp : Cond.code yX9_turnsUp cX9_turnsUp 4 none ∈ kt := kT 832 (by decide +kernel) (by decide +kernel)
theorem kML_RL_38 : Cond.methodLink RL 38 yX9_take ∈ kt := kT 833 (by decide +kernel) (by decide +kernel)
theorem kIM_yX9_take : Cond.instanceMethod yX9_take ∈ kt := kT 834 (by decide +kernel) (by decide +kernel)
theorem kSE_yX9_take : Cond.selects RX9 yX9_take yX9_take ∈ kt := kT 835 (by decide +kernel) (by decide +kernel)
theorem kCO_yX9_take : Cond.code yX9_take cX9_take 4 (some .int) ∈ kt := kT 836 (by decide +kernel) (by decide +kernel)
theorem kML_RL_42 : Cond.methodLink RL 42 yX9_worth ∈ kt := kT 837 (by decide +kernel) (by decide +kernel)
theorem kIM_yX9_worth : Cond.instanceMethod yX9_worth ∈ kt := kT 838 (by decide +kernel) (by decide +kernel)
theorem kSE_yX9_worth : Cond.selects RX9 yX9_worth yX9_worth ∈ kt := kT 839 (by decide +kernel) (by decide +kernel)
theorem kCO_yX9_worth : Cond.code yX9_worth cX9_worth 5 (some .int) ∈ kt := kT 840 (by decide +kernel) (by decide +kernel)
theorem kML_RL_46 : Cond.methodLink RL 46 yX9_cut ∈ kt := kT 841 (by decide +kernel) (by decide +kernel)
theorem kIM_yX9_cut : Cond.instanceMethod yX9_cut ∈ kt := kT 842 (by decide +kernel) (by decide +kernel)
theorem kSE_yX9_cut : Cond.selects RX9 yX9_cut yX9_cut ∈ kt := kT 843 (by decide +kernel) (by decide +kernel)
theorem kCO_yX9_cut : Cond.code yX9_cut cX9_cut 4 (some .int) ∈ kt := kT 844 (by decide +kernel) (by decide +kernel)
theorem kKJ_RX9_207 : Cond.constantLong RX9 207 (100000) ∈ kt := kT 845 (by decide +kernel) (by decide +kernel)
theorem kML_RL_51 : Cond.methodLink RL 51 yX9_batch ∈ kt := kT 846 (by decide +kernel) (by decide +kernel)
theorem kIM_yX9_batch : Cond.instanceMethod yX9_batch ∈ kt := kT 847 (by decide +kernel) (by decide +kernel)
theorem kSE_yX9_batch : Cond.selects RX9 yX9_batch yX9_batch ∈ kt := kT 848 (by decide +kernel) (by decide +kernel)
theorem kCO_yX9_batch : Cond.code yX9_batch cX9_batch 6 (some .int) ∈ kt := kT 849 (by decide +kernel) (by decide +kernel)
theorem kKJ_RX9_209 : Cond.constantLong RX9 209 (30) ∈ kt := kT 850 (by decide +kernel) (by decide +kernel)
theorem kML_RX9_211 : Cond.methodLink RX9 211 yX9_comes ∈ kt := kT 851 (by decide +kernel) (by decide +kernel)
theorem kIM_yX9_comes : Cond.instanceMethod yX9_comes ∈ kt := kT 853 (by decide +kernel) (by decide +kernel)
theorem kCO_yX9_comes : Cond.code yX9_comes cX9_comes 4 (some .boolean) ∈ kt := kT 854 (by decide +kernel) (by decide +kernel)
theorem kML_RL_56 : Cond.methodLink RL 56 yX9_rebuild ∈ kt := kT 855 (by decide +kernel) (by decide +kernel)
theorem kIM_yX9_rebuild : Cond.instanceMethod yX9_rebuild ∈ kt := kT 856 (by decide +kernel) (by decide +kernel)
theorem kSE_yX9_rebuild : Cond.selects RX9 yX9_rebuild yX9_rebuild ∈ kt := kT 857 (by decide +kernel) (by decide +kernel)
theorem kCO_yX9_rebuild : Cond.code yX9_rebuild cX9_rebuild 4 (some .int) ∈ kt := kT 858 (by decide +kernel) (by decide +kernel)
theorem kML_RL_60 : Cond.methodLink RL 60 yX9_join ∈ kt := kT 859 (by decide +kernel) (by decide +kernel)
theorem kIM_yX9_join : Cond.instanceMethod yX9_join ∈ kt := kT 860 (by decide +kernel) (by decide +kernel)
theorem kSE_yX9_join : Cond.selects RX9 yX9_join yX9_join ∈ kt := kT 861 (by decide +kernel) (by decide +kernel)
theorem kCO_yX9_join : Cond.code yX9_join cX9_join 5 (some .int) ∈ kt := kT 862 (by decide +kernel) (by decide +kernel)
theorem kKI_RX9_214 : Cond.constant RX9 214 (100000) ∈ kt := kT 863 (by decide +kernel) (by decide +kernel)
theorem kML_RX9_215 : Cond.methodLink RX9 215 yX9_nextInImage ∈ kt := kT 864 (by decide +kernel) (by decide +kernel)
theorem kIM_yX9_nextInImage : Cond.instanceMethod yX9_nextInImage ∈ kt := kT 866 (by decide +kernel) (by decide +kernel)
theorem kCO_yX9_nextInImage : Cond.code yX9_nextInImage cX9_nextInImage 7 (some .int) ∈ kt := kT 867 (by decide +kernel) (by decide +kernel)
theorem kML_RL_64 : Cond.methodLink RL 64 yX9_drift ∈ kt := kT 868 (by decide +kernel) (by decide +kernel)
theorem kIM_yX9_drift : Cond.instanceMethod yX9_drift ∈ kt := kT 869 (by decide +kernel) (by decide +kernel)
theorem kSE_yX9_drift : Cond.selects RX9 yX9_drift yX9_drift ∈ kt := kT 870 (by decide +kernel) (by decide +kernel)
theorem kCO_yX9_drift : Cond.code yX9_drift cX9_drift 6 (some .int) ∈ kt := kT 871 (by decide +kernel) (by decide +kernel)
theorem kKJ_RX9_228 : Cond.constantLong RX9 228 (12) ∈ kt := kT 872 (by decide +kernel) (by decide +kernel)
theorem kML_RX9_230 : Cond.methodLink RX9 230 yX9_draw ∈ kt := kT 873 (by decide +kernel) (by decide +kernel)
theorem kIM_yX9_draw : Cond.instanceMethod yX9_draw ∈ kt := kT 875 (by decide +kernel) (by decide +kernel)
theorem kCO_yX9_draw : Cond.code yX9_draw cX9_draw 2 (some .int) ∈ kt := kT 876 (by decide +kernel) (by decide +kernel)
theorem kKJ_RX9_221 : Cond.constantLong RX9 221 (1103515245) ∈ kt := kT 877 (by decide +kernel) (by decide +kernel)
theorem kKJ_RX9_223 : Cond.constantLong RX9 223 (12345) ∈ kt := kT 878 (by decide +kernel) (by decide +kernel)
theorem kKJ_RX9_225 : Cond.constantLong RX9 225 (2147483648) ∈ kt := kT 879 (by decide +kernel) (by decide +kernel)
theorem kKI_RX9_227 : Cond.constant RX9 227 (65536) ∈ kt := kT 880 (by decide +kernel) (by decide +kernel)
theorem kML_RL_68 : Cond.methodLink RL 68 yX9_undo ∈ kt := kT 881 (by decide +kernel) (by decide +kernel)
theorem kIM_yX9_undo : Cond.instanceMethod yX9_undo ∈ kt := kT 882 (by decide +kernel) (by decide +kernel)
theorem kSE_yX9_undo : Cond.selects RX9 yX9_undo yX9_undo ∈ kt := kT 883 (by decide +kernel) (by decide +kernel)
theorem kCO_yX9_undo : Cond.code yX9_undo cX9_undo 3 (some .int) ∈ kt := kT 884 (by decide +kernel) (by decide +kernel)
theorem kML_RL_72 : Cond.methodLink RL 72 yX9_less ∈ kt := kT 885 (by decide +kernel) (by decide +kernel)
theorem kIM_yX9_less : Cond.instanceMethod yX9_less ∈ kt := kT 886 (by decide +kernel) (by decide +kernel)
theorem kSE_yX9_less : Cond.selects RX9 yX9_less yX9_less ∈ kt := kT 887 (by decide +kernel) (by decide +kernel)
theorem kCO_yX9_less : Cond.code yX9_less cX9_less 2 (some .int) ∈ kt := kT 888 (by decide +kernel) (by decide +kernel)
theorem kML_RL_76 : Cond.methodLink RL 76 yX9_beside ∈ kt := kT 889 (by decide +kernel) (by decide +kernel)
theorem kIM_yX9_beside : Cond.instanceMethod yX9_beside ∈ kt := kT 890 (by decide +kernel) (by decide +kernel)
theorem kSE_yX9_beside : Cond.selects RX9 yX9_beside yX9_beside ∈ kt := kT 891 (by decide +kernel) (by decide +kernel)
theorem kCO_yX9_beside : Cond.code yX9_beside cX9_beside 3 (some .int) ∈ kt := kT 892 (by decide +kernel) (by decide +kernel)
theorem kML_RL_80 : Cond.methodLink RL 80 yX9_between ∈ kt := kT 893 (by decide +kernel) (by decide +kernel)
theorem kIM_yX9_between : Cond.instanceMethod yX9_between ∈ kt := kT 894 (by decide +kernel) (by decide +kernel)
theorem kSE_yX9_between : Cond.selects RX9 yX9_between yX9_between ∈ kt := kT 895 (by decide +kernel) (by decide +kernel)
theorem kCO_yX9_between : Cond.code yX9_between cX9_between 4 (some .int) ∈ kt := kT 896 (by decide +kernel) (by decide +kernel)
theorem kKJ_RX9_233 : Cond.constantLong RX9 233 (2) ∈ kt := kT 897 (by decide +kernel) (by decide +kernel)
theorem kML_RX9_235 : Cond.methodLink RX9 235 yX9_sumBetween ∈ kt := kT 898 (by decide +kernel) (by decide +kernel)
theorem kIM_yX9_sumBetween : Cond.instanceMethod yX9_sumBetween ∈ kt := kT 900 (by decide +kernel) (by decide +kernel)
theorem kCO_yX9_sumBetween : Cond.code yX9_sumBetween cX9_sumBetween 7 (some .int) ∈ kt := kT 901 (by decide +kernel) (by decide +kernel)
theorem kML_RX9_239 : Cond.methodLink RX9 239 yX9_most ∈ kt := kT 902 (by decide +kernel) (by decide +kernel)
theorem kIM_yX9_most : Cond.instanceMethod yX9_most ∈ kt := kT 904 (by decide +kernel) (by decide +kernel)
theorem kCO_yX9_most : Cond.code yX9_most cX9_most 7 (some .int) ∈ kt := kT 905 (by decide +kernel) (by decide +kernel)
theorem kML_RL_84 : Cond.methodLink RL 84 yX9_way ∈ kt := kT 906 (by decide +kernel) (by decide +kernel)
theorem kIM_yX9_way : Cond.instanceMethod yX9_way ∈ kt := kT 907 (by decide +kernel) (by decide +kernel)
theorem kSE_yX9_way : Cond.selects RX9 yX9_way yX9_way ∈ kt := kT 908 (by decide +kernel) (by decide +kernel)
theorem kCO_yX9_way : Cond.code yX9_way cX9_way 5 (some .int) ∈ kt := kT 909 (by decide +kernel) (by decide +kernel)
theorem kML_RL_88 : Cond.methodLink RL 88 yX9_audit ∈ kt := kT 910 (by decide +kernel) (by decide +kernel)
theorem kIM_yX9_audit : Cond.instanceMethod yX9_audit ∈ kt := kT 911 (by decide +kernel) (by decide +kernel)
theorem kSE_yX9_audit : Cond.selects RX9 yX9_audit yX9_audit ∈ kt := kT 912 (by decide +kernel) (by decide +kernel)
theorem kCO_yX9_audit : Cond.code yX9_audit cX9_audit 8 (some .int) ∈ kt := kT 913 (by decide +kernel) (by decide +kernel)
theorem kKJ_RX9_242 : Cond.constantLong RX9 242 (-1) ∈ kt := kT 914 (by decide +kernel) (by decide +kernel)
theorem kML_RX9_244 : Cond.methodLink RX9 244 yX9_rankWith ∈ kt := kT 915 (by decide +kernel) (by decide +kernel)
theorem kIM_yX9_rankWith : Cond.instanceMethod yX9_rankWith ∈ kt := kT 917 (by decide +kernel) (by decide +kernel)
theorem kCO_yX9_rankWith : Cond.code yX9_rankWith cX9_rankWith 4 (some .int) ∈ kt := kT 918 (by decide +kernel) (by decide +kernel)
theorem kML_RL_92 : Cond.methodLink RL 92 yX9_seed ∈ kt := kT 919 (by decide +kernel) (by decide +kernel)
theorem kIM_yX9_seed : Cond.instanceMethod yX9_seed ∈ kt := kT 920 (by decide +kernel) (by decide +kernel)
theorem kSE_yX9_seed : Cond.selects RX9 yX9_seed yX9_seed ∈ kt := kT 921 (by decide +kernel) (by decide +kernel)
theorem kCO_yX9_seed : Cond.code yX9_seed cX9_seed 3 (some .int) ∈ kt := kT 922 (by decide +kernel) (by decide +kernel)
theorem kML_RL_96 : Cond.methodLink RL 96 yX9_keep ∈ kt := kT 923 (by decide +kernel) (by decide +kernel)
theorem kIM_yX9_keep : Cond.instanceMethod yX9_keep ∈ kt := kT 924 (by decide +kernel) (by decide +kernel)
theorem kSE_yX9_keep : Cond.selects RX9 yX9_keep yX9_keep ∈ kt := kT 925 (by decide +kernel) (by decide +kernel)
theorem kCO_yX9_keep : Cond.code yX9_keep cX9_keep 3 (some .int) ∈ kt := kT 926 (by decide +kernel) (by decide +kernel)
theorem kML_RL_100 : Cond.methodLink RL 100 yX9_goBack ∈ kt := kT 927 (by decide +kernel) (by decide +kernel)
theorem kIM_yX9_goBack : Cond.instanceMethod yX9_goBack ∈ kt := kT 928 (by decide +kernel) (by decide +kernel)
theorem kSE_yX9_goBack : Cond.selects RX9 yX9_goBack yX9_goBack ∈ kt := kT 929 (by decide +kernel) (by decide +kernel)
theorem kCO_yX9_goBack : Cond.code yX9_goBack cX9_goBack 3 (some .int) ∈ kt := kT 930 (by decide +kernel) (by decide +kernel)
theorem kSE_yX8_costliestKey : Cond.selects RX8 yX8_costliestKey yX8_costliestKey ∈ kt := kS 0 (by decide +kernel) (by decide +kernel)
theorem kSE_yX4_endOf : Cond.selects RX4 yX4_endOf yX4_endOf ∈ kt := kS 1 (by decide +kernel) (by decide +kernel)
theorem kSE_yX7_demote : Cond.selects RX7 yX7_demote yX7_demote ∈ kt := kS 2 (by decide +kernel) (by decide +kernel)
theorem kSE_yX7_mendGap : Cond.selects RX7 yX7_mendGap yX7_mendGap ∈ kt := kS 3 (by decide +kernel) (by decide +kernel)
theorem kSE_yX7_hasOnlyLongSteps : Cond.selects RX7 yX7_hasOnlyLongSteps yX7_hasOnlyLongSteps ∈ kt := kS 4 (by decide +kernel) (by decide +kernel)
theorem kSE_yX7_turnAfterRemoving : Cond.selects RX7 yX7_turnAfterRemoving yX7_turnAfterRemoving ∈ kt := kS 5 (by decide +kernel) (by decide +kernel)
theorem kSE_yX8_isThere : Cond.selects RX8 yX8_isThere yX8_isThere ∈ kt := kS 6 (by decide +kernel) (by decide +kernel)
theorem kSE_yX8_hasRoom : Cond.selects RX8 yX8_hasRoom yX8_hasRoom ∈ kt := kS 7 (by decide +kernel) (by decide +kernel)
theorem kSE_yX4_freeSlot : Cond.selects RX4 yX4_freeSlot yX4_freeSlot ∈ kt := kS 8 (by decide +kernel) (by decide +kernel)
theorem kSE_yX4_fill : Cond.selects RX4 yX4_fill yX4_fill ∈ kt := kS 9 (by decide +kernel) (by decide +kernel)
theorem kSE_yX7_mendUpwards : Cond.selects RX7 yX7_mendUpwards yX7_mendUpwards ∈ kt := kS 10 (by decide +kernel) (by decide +kernel)
theorem kSE_yX7_turnAfterAdding : Cond.selects RX7 yX7_turnAfterAdding yX7_turnAfterAdding ∈ kt := kS 11 (by decide +kernel) (by decide +kernel)
theorem kSE_yX7_promote : Cond.selects RX7 yX7_promote yX7_promote ∈ kt := kS 12 (by decide +kernel) (by decide +kernel)
theorem kSE_yX8_addIfItCan : Cond.selects RX8 yX8_addIfItCan yX8_addIfItCan ∈ kt := kS 13 (by decide +kernel) (by decide +kernel)
theorem kSE_yX8_addRising : Cond.selects RX8 yX8_addRising yX8_addRising ∈ kt := kS 14 (by decide +kernel) (by decide +kernel)
theorem kSE_yX8_driftOnce : Cond.selects RX8 yX8_driftOnce yX8_driftOnce ∈ kt := kS 15 (by decide +kernel) (by decide +kernel)
theorem kSE_yX9_empties : Cond.selects RX9 yX9_empties yX9_empties ∈ kt := kS 16 (by decide +kernel) (by decide +kernel)
theorem kSE_yX9_goesEmpty : Cond.selects RX9 yX9_goesEmpty yX9_goesEmpty ∈ kt := kS 17 (by decide +kernel) (by decide +kernel)
theorem kSE_yX9_lays : Cond.selects RX9 yX9_lays yX9_lays ∈ kt := kS 18 (by decide +kernel) (by decide +kernel)
theorem kSE_yX9_many : Cond.selects RX9 yX9_many yX9_many ∈ kt := kS 19 (by decide +kernel) (by decide +kernel)
theorem kSE_yX9_top : Cond.selects RX9 yX9_top yX9_top ∈ kt := kS 20 (by decide +kernel) (by decide +kernel)
theorem kSE_yX9_of : Cond.selects RX9 yX9_of yX9_of ∈ kt := kS 21 (by decide +kernel) (by decide +kernel)
theorem kSE_yX9_rankOf : Cond.selects RX9 yX9_rankOf yX9_rankOf ∈ kt := kS 22 (by decide +kernel) (by decide +kernel)
theorem kSE_yX9_depth : Cond.selects RX9 yX9_depth yX9_depth ∈ kt := kS 23 (by decide +kernel) (by decide +kernel)
theorem kSE_yX9_numbers : Cond.selects RX9 yX9_numbers yX9_numbers ∈ kt := kS 24 (by decide +kernel) (by decide +kernel)
theorem kSE_yX9_child : Cond.selects RX9 yX9_child yX9_child ∈ kt := kS 25 (by decide +kernel) (by decide +kernel)
theorem kSE_yX9_sumOf : Cond.selects RX9 yX9_sumOf yX9_sumOf ∈ kt := kS 26 (by decide +kernel) (by decide +kernel)
theorem kSE_yX9_twos : Cond.selects RX9 yX9_twos yX9_twos ∈ kt := kS 27 (by decide +kernel) (by decide +kernel)
theorem kSE_yX9_step : Cond.selects RX9 yX9_step yX9_step ∈ kt := kS 28 (by decide +kernel) (by decide +kernel)
theorem kSE_yX9_costly : Cond.selects RX9 yX9_costly yX9_costly ∈ kt := kS 29 (by decide +kernel) (by decide +kernel)
theorem kSE_yX9_besideOf : Cond.selects RX9 yX9_besideOf yX9_besideOf ∈ kt := kS 30 (by decide +kernel) (by decide +kernel)
theorem kSE_yX9_costs : Cond.selects RX9 yX9_costs yX9_costs ∈ kt := kS 31 (by decide +kernel) (by decide +kernel)
theorem kSE_yX9_find : Cond.selects RX9 yX9_find yX9_find ∈ kt := kS 32 (by decide +kernel) (by decide +kernel)
theorem kSE_yX9_takes : Cond.selects RX9 yX9_takes yX9_takes ∈ kt := kS 33 (by decide +kernel) (by decide +kernel)
theorem kSE_yX9_begins : Cond.selects RX9 yX9_begins yX9_begins ∈ kt := kS 34 (by decide +kernel) (by decide +kernel)
theorem kSE_yX9_leastBelow : Cond.selects RX9 yX9_leastBelow yX9_leastBelow ∈ kt := kS 35 (by decide +kernel) (by decide +kernel)
theorem kSE_yX9_isLeftOf : Cond.selects RX9 yX9_isLeftOf yX9_isLeftOf ∈ kt := kS 36 (by decide +kernel) (by decide +kernel)
theorem kSE_yX9_hangs : Cond.selects RX9 yX9_hangs yX9_hangs ∈ kt := kS 37 (by decide +kernel) (by decide +kernel)
theorem kSE_yX9_hasNoChildren : Cond.selects RX9 yX9_hasNoChildren yX9_hasNoChildren ∈ kt := kS 38 (by decide +kernel) (by decide +kernel)
theorem kSE_yX9_ranks : Cond.selects RX9 yX9_ranks yX9_ranks ∈ kt := kS 39 (by decide +kernel) (by decide +kernel)
theorem kSE_yX9_counts : Cond.selects RX9 yX9_counts yX9_counts ∈ kt := kS 40 (by decide +kernel) (by decide +kernel)
theorem kSE_yX9_falls : Cond.selects RX9 yX9_falls yX9_falls ∈ kt := kS 41 (by decide +kernel) (by decide +kernel)
theorem kSE_yX9_turnsDown : Cond.selects RX9 yX9_turnsDown yX9_turnsDown ∈ kt := kS 42 (by decide +kernel) (by decide +kernel)
theorem kSE_yX9_turns : Cond.selects RX9 yX9_turns yX9_turns ∈ kt := kS 43 (by decide +kernel) (by decide +kernel)
theorem kSE_yX9_flat : Cond.selects RX9 yX9_flat yX9_flat ∈ kt := kS 44 (by decide +kernel) (by decide +kernel)
theorem kSE_yX9_tall : Cond.selects RX9 yX9_tall yX9_tall ∈ kt := kS 45 (by decide +kernel) (by decide +kernel)
theorem kSE_yX9_isNode : Cond.selects RX9 yX9_isNode yX9_isNode ∈ kt := kS 46 (by decide +kernel) (by decide +kernel)
theorem kSE_yX9_numberAt : Cond.selects RX9 yX9_numberAt yX9_numberAt ∈ kt := kS 47 (by decide +kernel) (by decide +kernel)
theorem kSE_yX9_sizeOf : Cond.selects RX9 yX9_sizeOf yX9_sizeOf ∈ kt := kS 48 (by decide +kernel) (by decide +kernel)
theorem kSE_yX9_lessThan : Cond.selects RX9 yX9_lessThan yX9_lessThan ∈ kt := kS 49 (by decide +kernel) (by decide +kernel)
theorem kSE_yX9_isThere : Cond.selects RX9 yX9_isThere yX9_isThere ∈ kt := kS 50 (by decide +kernel) (by decide +kernel)
theorem kSE_yX9_save : Cond.selects RX9 yX9_save yX9_save ∈ kt := kS 51 (by decide +kernel) (by decide +kernel)
theorem kSE_yX9_puts : Cond.selects RX9 yX9_puts yX9_puts ∈ kt := kS 52 (by decide +kernel) (by decide +kernel)
theorem kSE_yX9_freeOne : Cond.selects RX9 yX9_freeOne yX9_freeOne ∈ kt := kS 53 (by decide +kernel) (by decide +kernel)
theorem kSE_yX9_rises : Cond.selects RX9 yX9_rises yX9_rises ∈ kt := kS 54 (by decide +kernel) (by decide +kernel)
theorem kSE_yX9_turnsUp : Cond.selects RX9 yX9_turnsUp yX9_turnsUp ∈ kt := kS 55 (by decide +kernel) (by decide +kernel)
theorem kSE_yX9_comes : Cond.selects RX9 yX9_comes yX9_comes ∈ kt := kS 56 (by decide +kernel) (by decide +kernel)
theorem kSE_yX9_nextInImage : Cond.selects RX9 yX9_nextInImage yX9_nextInImage ∈ kt := kS 57 (by decide +kernel) (by decide +kernel)
theorem kSE_yX9_draw : Cond.selects RX9 yX9_draw yX9_draw ∈ kt := kS 58 (by decide +kernel) (by decide +kernel)
theorem kSE_yX9_sumBetween : Cond.selects RX9 yX9_sumBetween yX9_sumBetween ∈ kt := kS 59 (by decide +kernel) (by decide +kernel)
theorem kSE_yX9_most : Cond.selects RX9 yX9_most yX9_most ∈ kt := kS 60 (by decide +kernel) (by decide +kernel)
theorem kSE_yX9_rankWith : Cond.selects RX9 yX9_rankWith yX9_rankWith ∈ kt := kS 61 (by decide +kernel) (by decide +kernel)
end
section
theorem dX0_flat_0 : decode cX0_flat 0 = .ok (.iconst 0, 1) := by decide +kernel
theorem dX0_flat_1 : decode cX0_flat 1 = .ok (.istore_n 1, 1) := by decide +kernel
theorem dX0_flat_2 : decode cX0_flat 2 = .ok (.iconst 0, 1) := by decide +kernel
theorem dX0_flat_3 : decode cX0_flat 3 = .ok (.istore_n 2, 1) := by decide +kernel
theorem dX0_flat_4 : decode cX0_flat 4 = .ok (.iload_n 2, 1) := by decide +kernel
theorem dX0_flat_5 : decode cX0_flat 5 = .ok (.iload_n 0, 1) := by decide +kernel
theorem dX0_flat_6 : decode cX0_flat 6 = .ok (.if_icmp .ge 21, 3) := by decide +kernel
theorem dX0_flat_9 : decode cX0_flat 9 = .ok (.iload_n 1, 1) := by decide +kernel
theorem dX0_flat_10 : decode cX0_flat 10 = .ok (.bipush 60, 2) := by decide +kernel
theorem dX0_flat_12 : decode cX0_flat 12 = .ok (.if_icmp .ge 15, 3) := by decide +kernel
theorem dX0_flat_15 : decode cX0_flat 15 = .ok (.iconst 2, 1) := by decide +kernel
theorem dX0_flat_16 : decode cX0_flat 16 = .ok (.iload_n 2, 1) := by decide +kernel
theorem dX0_flat_17 : decode cX0_flat 17 = .ok (.imul, 1) := by decide +kernel
theorem dX0_flat_18 : decode cX0_flat 18 = .ok (.iconst 1, 1) := by decide +kernel
theorem dX0_flat_19 : decode cX0_flat 19 = .ok (.iadd, 1) := by decide +kernel
theorem dX0_flat_20 : decode cX0_flat 20 = .ok (.istore_n 2, 1) := by decide +kernel
theorem dX0_flat_21 : decode cX0_flat 21 = .ok (.iinc 1 1, 3) := by decide +kernel
theorem dX0_flat_24 : decode cX0_flat 24 = .ok (.goto (-20), 3) := by decide +kernel
theorem dX0_flat_27 : decode cX0_flat 27 = .ok (.iload_n 1, 1) := by decide +kernel
theorem dX0_flat_28 : decode cX0_flat 28 = .ok (.ireturn, 1) := by decide +kernel
theorem dX0_tall_0 : decode cX0_tall 0 = .ok (.iconst 0, 1) := by decide +kernel
theorem dX0_tall_1 : decode cX0_tall 1 = .ok (.istore_n 1, 1) := by decide +kernel
theorem dX0_tall_2 : decode cX0_tall 2 = .ok (.iconst 1, 1) := by decide +kernel
theorem dX0_tall_3 : decode cX0_tall 3 = .ok (.istore_n 2, 1) := by decide +kernel
theorem dX0_tall_4 : decode cX0_tall 4 = .ok (.iconst 0, 1) := by decide +kernel
theorem dX0_tall_5 : decode cX0_tall 5 = .ok (.istore_n 3, 1) := by decide +kernel
theorem dX0_tall_6 : decode cX0_tall 6 = .ok (.iconst 1, 1) := by decide +kernel
theorem dX0_tall_7 : decode cX0_tall 7 = .ok (.istore 4, 2) := by decide +kernel
theorem dX0_tall_9 : decode cX0_tall 9 = .ok (.iload_n 1, 1) := by decide +kernel
theorem dX0_tall_10 : decode cX0_tall 10 = .ok (.bipush 60, 2) := by decide +kernel
theorem dX0_tall_12 : decode cX0_tall 12 = .ok (.if_icmp .ge 33, 3) := by decide +kernel
theorem dX0_tall_15 : decode cX0_tall 15 = .ok (.iload_n 2, 1) := by decide +kernel
theorem dX0_tall_16 : decode cX0_tall 16 = .ok (.iload_n 0, 1) := by decide +kernel
theorem dX0_tall_17 : decode cX0_tall 17 = .ok (.if_icmp .gt 28, 3) := by decide +kernel
theorem dX0_tall_20 : decode cX0_tall 20 = .ok (.iinc 1 1, 3) := by decide +kernel
theorem dX0_tall_23 : decode cX0_tall 23 = .ok (.iload_n 2, 1) := by decide +kernel
theorem dX0_tall_24 : decode cX0_tall 24 = .ok (.iconst 1, 1) := by decide +kernel
theorem dX0_tall_25 : decode cX0_tall 25 = .ok (.iload_n 3, 1) := by decide +kernel
theorem dX0_tall_26 : decode cX0_tall 26 = .ok (.iadd, 1) := by decide +kernel
theorem dX0_tall_27 : decode cX0_tall 27 = .ok (.iadd, 1) := by decide +kernel
theorem dX0_tall_28 : decode cX0_tall 28 = .ok (.istore_n 2, 1) := by decide +kernel
theorem dX0_tall_29 : decode cX0_tall 29 = .ok (.iload_n 3, 1) := by decide +kernel
theorem dX0_tall_30 : decode cX0_tall 30 = .ok (.invokestatic 9, 3) := by decide +kernel
theorem dX0_tall_33 : decode cX0_tall 33 = .ok (.istore 5, 2) := by decide +kernel
theorem dX0_tall_35 : decode cX0_tall 35 = .ok (.iload 4, 2) := by decide +kernel
theorem dX0_tall_37 : decode cX0_tall 37 = .ok (.istore_n 3, 1) := by decide +kernel
theorem dX0_tall_38 : decode cX0_tall 38 = .ok (.iload 5, 2) := by decide +kernel
theorem dX0_tall_40 : decode cX0_tall 40 = .ok (.istore 4, 2) := by decide +kernel
theorem dX0_tall_42 : decode cX0_tall 42 = .ok (.goto (-33), 3) := by decide +kernel
theorem dX0_tall_45 : decode cX0_tall 45 = .ok (.iload_n 1, 1) := by decide +kernel
theorem dX0_tall_46 : decode cX0_tall 46 = .ok (.ireturn, 1) := by decide +kernel
theorem dX0_fewestOfRank_0 : decode cX0_fewestOfRank 0 = .ok (.iload_n 0, 1) := by decide +kernel
theorem dX0_fewestOfRank_1 : decode cX0_fewestOfRank 1 = .ok (.ifCond .ne 7, 3) := by decide +kernel
theorem dX0_fewestOfRank_4 : decode cX0_fewestOfRank 4 = .ok (.iconst 2, 1) := by decide +kernel
theorem dX0_fewestOfRank_5 : decode cX0_fewestOfRank 5 = .ok (.goto 8, 3) := by decide +kernel
theorem dX0_fewestOfRank_8 : decode cX0_fewestOfRank 8 = .ok (.iconst 2, 1) := by decide +kernel
theorem dX0_fewestOfRank_9 : decode cX0_fewestOfRank 9 = .ok (.iload_n 0, 1) := by decide +kernel
theorem dX0_fewestOfRank_10 : decode cX0_fewestOfRank 10 = .ok (.imul, 1) := by decide +kernel
theorem dX0_fewestOfRank_11 : decode cX0_fewestOfRank 11 = .ok (.iconst 1, 1) := by decide +kernel
theorem dX0_fewestOfRank_12 : decode cX0_fewestOfRank 12 = .ok (.iadd, 1) := by decide +kernel
theorem dX0_fewestOfRank_13 : decode cX0_fewestOfRank 13 = .ok (.ireturn, 1) := by decide +kernel
theorem dX1_init_0 : decode cX1_init 0 = .ok (.aload_n 0, 1) := by decide +kernel
theorem dX1_init_1 : decode cX1_init 1 = .ok (.invokespecial 1, 3) := by decide +kernel
theorem dX1_init_4 : decode cX1_init 4 = .ok (.aload_n 0, 1) := by decide +kernel
theorem dX1_init_5 : decode cX1_init 5 = .ok (.iconst 0, 1) := by decide +kernel
theorem dX1_init_6 : decode cX1_init 6 = .ok (.putfield 7, 3) := by decide +kernel
theorem dX1_init_9 : decode cX1_init 9 = .ok (.aload_n 0, 1) := by decide +kernel
theorem dX1_init_10 : decode cX1_init 10 = .ok (.iconst 0, 1) := by decide +kernel
theorem dX1_init_11 : decode cX1_init 11 = .ok (.putfield 13, 3) := by decide +kernel
theorem dX1_init_14 : decode cX1_init 14 = .ok (.aload_n 0, 1) := by decide +kernel
theorem dX1_init_15 : decode cX1_init 15 = .ok (.iconst 0, 1) := by decide +kernel
theorem dX1_init_16 : decode cX1_init 16 = .ok (.putfield 16, 3) := by decide +kernel
theorem dX1_init_19 : decode cX1_init 19 = .ok (.return_, 1) := by decide +kernel
theorem dX1_clear_0 : decode cX1_clear 0 = .ok (.aload_n 0, 1) := by decide +kernel
theorem dX1_clear_1 : decode cX1_clear 1 = .ok (.iconst 0, 1) := by decide +kernel
theorem dX1_clear_2 : decode cX1_clear 2 = .ok (.putfield 7, 3) := by decide +kernel
theorem dX1_clear_5 : decode cX1_clear 5 = .ok (.aload_n 0, 1) := by decide +kernel
theorem dX1_clear_6 : decode cX1_clear 6 = .ok (.iconst 0, 1) := by decide +kernel
theorem dX1_clear_7 : decode cX1_clear 7 = .ok (.putfield 13, 3) := by decide +kernel
theorem dX1_clear_10 : decode cX1_clear 10 = .ok (.aload_n 0, 1) := by decide +kernel
theorem dX1_clear_11 : decode cX1_clear 11 = .ok (.iconst 0, 1) := by decide +kernel
theorem dX1_clear_12 : decode cX1_clear 12 = .ok (.putfield 16, 3) := by decide +kernel
theorem dX1_clear_15 : decode cX1_clear 15 = .ok (.return_, 1) := by decide +kernel
theorem dX1_copyFrom_0 : decode cX1_copyFrom 0 = .ok (.aload_n 0, 1) := by decide +kernel
theorem dX1_copyFrom_1 : decode cX1_copyFrom 1 = .ok (.aload_n 1, 1) := by decide +kernel
theorem dX1_copyFrom_2 : decode cX1_copyFrom 2 = .ok (.getfield 7, 3) := by decide +kernel
theorem dX1_copyFrom_5 : decode cX1_copyFrom 5 = .ok (.putfield 7, 3) := by decide +kernel
theorem dX1_copyFrom_8 : decode cX1_copyFrom 8 = .ok (.aload_n 0, 1) := by decide +kernel
theorem dX1_copyFrom_9 : decode cX1_copyFrom 9 = .ok (.aload_n 1, 1) := by decide +kernel
theorem dX1_copyFrom_10 : decode cX1_copyFrom 10 = .ok (.getfield 13, 3) := by decide +kernel
theorem dX1_copyFrom_13 : decode cX1_copyFrom 13 = .ok (.putfield 13, 3) := by decide +kernel
theorem dX1_copyFrom_16 : decode cX1_copyFrom 16 = .ok (.aload_n 0, 1) := by decide +kernel
theorem dX1_copyFrom_17 : decode cX1_copyFrom 17 = .ok (.aload_n 1, 1) := by decide +kernel
theorem dX1_copyFrom_18 : decode cX1_copyFrom 18 = .ok (.getfield 16, 3) := by decide +kernel
theorem dX1_copyFrom_21 : decode cX1_copyFrom 21 = .ok (.putfield 16, 3) := by decide +kernel
theorem dX1_copyFrom_24 : decode cX1_copyFrom 24 = .ok (.return_, 1) := by decide +kernel
theorem dX1_add_0 : decode cX1_add 0 = .ok (.aload_n 0, 1) := by decide +kernel
theorem dX1_add_1 : decode cX1_add 1 = .ok (.dup, 1) := by decide +kernel
theorem dX1_add_2 : decode cX1_add 2 = .ok (.getfield 7, 3) := by decide +kernel
theorem dX1_add_5 : decode cX1_add 5 = .ok (.aload_n 1, 1) := by decide +kernel
theorem dX1_add_6 : decode cX1_add 6 = .ok (.getfield 7, 3) := by decide +kernel
theorem dX1_add_9 : decode cX1_add 9 = .ok (.iadd, 1) := by decide +kernel
theorem dX1_add_10 : decode cX1_add 10 = .ok (.putfield 7, 3) := by decide +kernel
theorem dX1_add_13 : decode cX1_add 13 = .ok (.aload_n 0, 1) := by decide +kernel
theorem dX1_add_14 : decode cX1_add 14 = .ok (.dup, 1) := by decide +kernel
theorem dX1_add_15 : decode cX1_add 15 = .ok (.getfield 13, 3) := by decide +kernel
theorem dX1_add_18 : decode cX1_add 18 = .ok (.aload_n 1, 1) := by decide +kernel
theorem dX1_add_19 : decode cX1_add 19 = .ok (.getfield 13, 3) := by decide +kernel
theorem dX1_add_22 : decode cX1_add 22 = .ok (.iadd, 1) := by decide +kernel
theorem dX1_add_23 : decode cX1_add 23 = .ok (.putfield 13, 3) := by decide +kernel
theorem dX1_add_26 : decode cX1_add 26 = .ok (.aload_n 0, 1) := by decide +kernel
theorem dX1_add_27 : decode cX1_add 27 = .ok (.dup, 1) := by decide +kernel
theorem dX1_add_28 : decode cX1_add 28 = .ok (.getfield 16, 3) := by decide +kernel
theorem dX1_add_31 : decode cX1_add 31 = .ok (.aload_n 1, 1) := by decide +kernel
theorem dX1_add_32 : decode cX1_add 32 = .ok (.getfield 16, 3) := by decide +kernel
theorem dX1_add_35 : decode cX1_add 35 = .ok (.iadd, 1) := by decide +kernel
theorem dX1_add_36 : decode cX1_add 36 = .ok (.putfield 16, 3) := by decide +kernel
theorem dX1_add_39 : decode cX1_add 39 = .ok (.return_, 1) := by decide +kernel
theorem dX1_together_0 : decode cX1_together 0 = .ok (.aload_n 0, 1) := by decide +kernel
theorem dX1_together_1 : decode cX1_together 1 = .ok (.getfield 7, 3) := by decide +kernel
theorem dX1_together_4 : decode cX1_together 4 = .ok (.aload_n 0, 1) := by decide +kernel
theorem dX1_together_5 : decode cX1_together 5 = .ok (.getfield 13, 3) := by decide +kernel
theorem dX1_together_8 : decode cX1_together 8 = .ok (.iadd, 1) := by decide +kernel
theorem dX1_together_9 : decode cX1_together 9 = .ok (.aload_n 0, 1) := by decide +kernel
theorem dX1_together_10 : decode cX1_together 10 = .ok (.getfield 16, 3) := by decide +kernel
theorem dX1_together_13 : decode cX1_together 13 = .ok (.iadd, 1) := by decide +kernel
theorem dX1_together_14 : decode cX1_together 14 = .ok (.ireturn, 1) := by decide +kernel
theorem dX2_init_0 : decode cX2_init 0 = .ok (.aload_n 0, 1) := by decide +kernel
theorem dX2_init_1 : decode cX2_init 1 = .ok (.invokespecial 1, 3) := by decide +kernel
theorem dX2_init_4 : decode cX2_init 4 = .ok (.aload_n 0, 1) := by decide +kernel
theorem dX2_init_5 : decode cX2_init 5 = .ok (.iconst 0, 1) := by decide +kernel
theorem dX2_init_6 : decode cX2_init 6 = .ok (.putfield 7, 3) := by decide +kernel
theorem dX2_init_9 : decode cX2_init 9 = .ok (.return_, 1) := by decide +kernel
theorem dX2_next_0 : decode cX2_next 0 = .ok (.aload_n 0, 1) := by decide +kernel
theorem dX2_next_1 : decode cX2_next 1 = .ok (.aload_n 0, 1) := by decide +kernel
theorem dX2_next_2 : decode cX2_next 2 = .ok (.getfield 7, 3) := by decide +kernel
theorem dX2_next_5 : decode cX2_next 5 = .ok (.i2l, 1) := by decide +kernel
theorem dX2_next_6 : decode cX2_next 6 = .ok (.ldc2_w 13, 3) := by decide +kernel
theorem dX2_next_9 : decode cX2_next 9 = .ok (.lmul, 1) := by decide +kernel
theorem dX2_next_10 : decode cX2_next 10 = .ok (.ldc2_w 15, 3) := by decide +kernel
theorem dX2_next_13 : decode cX2_next 13 = .ok (.ladd, 1) := by decide +kernel
theorem dX2_next_14 : decode cX2_next 14 = .ok (.ldc2_w 17, 3) := by decide +kernel
theorem dX2_next_17 : decode cX2_next 17 = .ok (.land, 1) := by decide +kernel
theorem dX2_next_18 : decode cX2_next 18 = .ok (.l2i, 1) := by decide +kernel
theorem dX2_next_19 : decode cX2_next 19 = .ok (.putfield 7, 3) := by decide +kernel
theorem dX2_next_22 : decode cX2_next 22 = .ok (.iload_n 1, 1) := by decide +kernel
theorem dX2_next_23 : decode cX2_next 23 = .ok (.iconst 1, 1) := by decide +kernel
theorem dX2_next_24 : decode cX2_next 24 = .ok (.if_icmp .ge 7, 3) := by decide +kernel
theorem dX2_next_27 : decode cX2_next 27 = .ok (.iconst 0, 1) := by decide +kernel
theorem dX2_next_28 : decode cX2_next 28 = .ok (.goto 12, 3) := by decide +kernel
theorem dX2_next_31 : decode cX2_next 31 = .ok (.aload_n 0, 1) := by decide +kernel
theorem dX2_next_32 : decode cX2_next 32 = .ok (.getfield 7, 3) := by decide +kernel
theorem dX2_next_35 : decode cX2_next 35 = .ok (.ldc 19, 2) := by decide +kernel
theorem dX2_next_37 : decode cX2_next 37 = .ok (.idiv, 1) := by decide +kernel
theorem dX2_next_38 : decode cX2_next 38 = .ok (.iload_n 1, 1) := by decide +kernel
theorem dX2_next_39 : decode cX2_next 39 = .ok (.irem, 1) := by decide +kernel
theorem dX2_next_40 : decode cX2_next 40 = .ok (.ireturn, 1) := by decide +kernel
theorem dX3_init_0 : decode cX3_init 0 = .ok (.aload_n 0, 1) := by decide +kernel
theorem dX3_init_1 : decode cX3_init 1 = .ok (.invokespecial 1, 3) := by decide +kernel
theorem dX3_init_4 : decode cX3_init 4 = .ok (.aload_n 0, 1) := by decide +kernel
theorem dX3_init_5 : decode cX3_init 5 = .ok (.new 7, 3) := by decide +kernel
theorem dX3_init_8 : decode cX3_init 8 = .ok (.dup, 1) := by decide +kernel
theorem dX3_init_9 : decode cX3_init 9 = .ok (.invokespecial 9, 3) := by decide +kernel
theorem dX3_init_12 : decode cX3_init 12 = .ok (.putfield 10, 3) := by decide +kernel
theorem dX3_init_15 : decode cX3_init 15 = .ok (.aload_n 0, 1) := by decide +kernel
theorem dX3_init_16 : decode cX3_init 16 = .ok (.iconst 0, 1) := by decide +kernel
theorem dX3_init_17 : decode cX3_init 17 = .ok (.putfield 16, 3) := by decide +kernel
theorem dX3_init_20 : decode cX3_init 20 = .ok (.aload_n 0, 1) := by decide +kernel
theorem dX3_init_21 : decode cX3_init 21 = .ok (.iconst 0, 1) := by decide +kernel
theorem dX3_init_22 : decode cX3_init 22 = .ok (.putfield 20, 3) := by decide +kernel
theorem dX3_init_25 : decode cX3_init 25 = .ok (.return_, 1) := by decide +kernel
theorem dX4_init_0 : decode cX4_init 0 = .ok (.aload_n 0, 1) := by decide +kernel
theorem dX4_init_1 : decode cX4_init 1 = .ok (.invokespecial 3, 3) := by decide +kernel
theorem dX4_init_4 : decode cX4_init 4 = .ok (.aload_n 0, 1) := by decide +kernel
theorem dX4_init_5 : decode cX4_init 5 = .ok (.bipush 60, 2) := by decide +kernel
theorem dX4_init_7 : decode cX4_init 7 = .ok (.newarray .int, 2) := by decide +kernel
theorem dX4_init_9 : decode cX4_init 9 = .ok (.putfield 9, 3) := by decide +kernel
theorem dX4_init_12 : decode cX4_init 12 = .ok (.aload_n 0, 1) := by decide +kernel
theorem dX4_init_13 : decode cX4_init 13 = .ok (.bipush 60, 2) := by decide +kernel
theorem dX4_init_15 : decode cX4_init 15 = .ok (.newarray .int, 2) := by decide +kernel
theorem dX4_init_17 : decode cX4_init 17 = .ok (.putfield 15, 3) := by decide +kernel
theorem dX4_init_20 : decode cX4_init 20 = .ok (.aload_n 0, 1) := by decide +kernel
theorem dX4_init_21 : decode cX4_init 21 = .ok (.bipush 60, 2) := by decide +kernel
theorem dX4_init_23 : decode cX4_init 23 = .ok (.newarray .int, 2) := by decide +kernel
theorem dX4_init_25 : decode cX4_init 25 = .ok (.putfield 18, 3) := by decide +kernel
theorem dX4_init_28 : decode cX4_init 28 = .ok (.aload_n 0, 1) := by decide +kernel
theorem dX4_init_29 : decode cX4_init 29 = .ok (.bipush 60, 2) := by decide +kernel
theorem dX4_init_31 : decode cX4_init 31 = .ok (.newarray .int, 2) := by decide +kernel
theorem dX4_init_33 : decode cX4_init 33 = .ok (.putfield 21, 3) := by decide +kernel
theorem dX4_init_36 : decode cX4_init 36 = .ok (.aload_n 0, 1) := by decide +kernel
theorem dX4_init_37 : decode cX4_init 37 = .ok (.bipush 60, 2) := by decide +kernel
theorem dX4_init_39 : decode cX4_init 39 = .ok (.newarray .int, 2) := by decide +kernel
theorem dX4_init_41 : decode cX4_init 41 = .ok (.putfield 24, 3) := by decide +kernel
theorem dX4_init_44 : decode cX4_init 44 = .ok (.aload_n 0, 1) := by decide +kernel
theorem dX4_init_45 : decode cX4_init 45 = .ok (.bipush 60, 2) := by decide +kernel
theorem dX4_init_47 : decode cX4_init 47 = .ok (.newarray .int, 2) := by decide +kernel
theorem dX4_init_49 : decode cX4_init 49 = .ok (.putfield 27, 3) := by decide +kernel
theorem dX4_init_52 : decode cX4_init 52 = .ok (.aload_n 0, 1) := by decide +kernel
theorem dX4_init_53 : decode cX4_init 53 = .ok (.iconst (-1), 1) := by decide +kernel
theorem dX4_init_54 : decode cX4_init 54 = .ok (.putfield 30, 3) := by decide +kernel
theorem dX4_init_57 : decode cX4_init 57 = .ok (.aload_n 0, 1) := by decide +kernel
theorem dX4_init_58 : decode cX4_init 58 = .ok (.iconst 0, 1) := by decide +kernel
theorem dX4_init_59 : decode cX4_init 59 = .ok (.putfield 34, 3) := by decide +kernel
theorem dX4_init_62 : decode cX4_init 62 = .ok (.aload_n 0, 1) := by decide +kernel
theorem dX4_init_63 : decode cX4_init 63 = .ok (.getfield 9, 3) := by decide +kernel
theorem dX4_init_66 : decode cX4_init 66 = .ok (.iconst (-1), 1) := by decide +kernel
theorem dX4_init_67 : decode cX4_init 67 = .ok (.invokestatic 37, 3) := by decide +kernel
theorem dX4_init_70 : decode cX4_init 70 = .ok (.return_, 1) := by decide +kernel
theorem dX4_clear_0 : decode cX4_clear 0 = .ok (.aload_n 0, 1) := by decide +kernel
theorem dX4_clear_1 : decode cX4_clear 1 = .ok (.getfield 9, 3) := by decide +kernel
theorem dX4_clear_4 : decode cX4_clear 4 = .ok (.iconst (-1), 1) := by decide +kernel
theorem dX4_clear_5 : decode cX4_clear 5 = .ok (.invokestatic 37, 3) := by decide +kernel
theorem dX4_clear_8 : decode cX4_clear 8 = .ok (.aload_n 0, 1) := by decide +kernel
theorem dX4_clear_9 : decode cX4_clear 9 = .ok (.iconst (-1), 1) := by decide +kernel
theorem dX4_clear_10 : decode cX4_clear 10 = .ok (.putfield 30, 3) := by decide +kernel
theorem dX4_clear_13 : decode cX4_clear 13 = .ok (.aload_n 0, 1) := by decide +kernel
theorem dX4_clear_14 : decode cX4_clear 14 = .ok (.iconst 0, 1) := by decide +kernel
theorem dX4_clear_15 : decode cX4_clear 15 = .ok (.putfield 34, 3) := by decide +kernel
theorem dX4_clear_18 : decode cX4_clear 18 = .ok (.return_, 1) := by decide +kernel
theorem dX4_copyFrom_0 : decode cX4_copyFrom 0 = .ok (.aload_n 1, 1) := by decide +kernel
theorem dX4_copyFrom_1 : decode cX4_copyFrom 1 = .ok (.getfield 9, 3) := by decide +kernel
theorem dX4_copyFrom_4 : decode cX4_copyFrom 4 = .ok (.iconst 0, 1) := by decide +kernel
theorem dX4_copyFrom_5 : decode cX4_copyFrom 5 = .ok (.aload_n 0, 1) := by decide +kernel
theorem dX4_copyFrom_6 : decode cX4_copyFrom 6 = .ok (.getfield 9, 3) := by decide +kernel
theorem dX4_copyFrom_9 : decode cX4_copyFrom 9 = .ok (.iconst 0, 1) := by decide +kernel
theorem dX4_copyFrom_10 : decode cX4_copyFrom 10 = .ok (.bipush 60, 2) := by decide +kernel
theorem dX4_copyFrom_12 : decode cX4_copyFrom 12 = .ok (.invokestatic 43, 3) := by decide +kernel
theorem dX4_copyFrom_15 : decode cX4_copyFrom 15 = .ok (.aload_n 1, 1) := by decide +kernel
theorem dX4_copyFrom_16 : decode cX4_copyFrom 16 = .ok (.getfield 15, 3) := by decide +kernel
theorem dX4_copyFrom_19 : decode cX4_copyFrom 19 = .ok (.iconst 0, 1) := by decide +kernel
theorem dX4_copyFrom_20 : decode cX4_copyFrom 20 = .ok (.aload_n 0, 1) := by decide +kernel
theorem dX4_copyFrom_21 : decode cX4_copyFrom 21 = .ok (.getfield 15, 3) := by decide +kernel
theorem dX4_copyFrom_24 : decode cX4_copyFrom 24 = .ok (.iconst 0, 1) := by decide +kernel
theorem dX4_copyFrom_25 : decode cX4_copyFrom 25 = .ok (.bipush 60, 2) := by decide +kernel
theorem dX4_copyFrom_27 : decode cX4_copyFrom 27 = .ok (.invokestatic 43, 3) := by decide +kernel
theorem dX4_copyFrom_30 : decode cX4_copyFrom 30 = .ok (.aload_n 1, 1) := by decide +kernel
theorem dX4_copyFrom_31 : decode cX4_copyFrom 31 = .ok (.getfield 18, 3) := by decide +kernel
theorem dX4_copyFrom_34 : decode cX4_copyFrom 34 = .ok (.iconst 0, 1) := by decide +kernel
theorem dX4_copyFrom_35 : decode cX4_copyFrom 35 = .ok (.aload_n 0, 1) := by decide +kernel
theorem dX4_copyFrom_36 : decode cX4_copyFrom 36 = .ok (.getfield 18, 3) := by decide +kernel
theorem dX4_copyFrom_39 : decode cX4_copyFrom 39 = .ok (.iconst 0, 1) := by decide +kernel
theorem dX4_copyFrom_40 : decode cX4_copyFrom 40 = .ok (.bipush 60, 2) := by decide +kernel
theorem dX4_copyFrom_42 : decode cX4_copyFrom 42 = .ok (.invokestatic 43, 3) := by decide +kernel
theorem dX4_copyFrom_45 : decode cX4_copyFrom 45 = .ok (.aload_n 1, 1) := by decide +kernel
theorem dX4_copyFrom_46 : decode cX4_copyFrom 46 = .ok (.getfield 21, 3) := by decide +kernel
theorem dX4_copyFrom_49 : decode cX4_copyFrom 49 = .ok (.iconst 0, 1) := by decide +kernel
theorem dX4_copyFrom_50 : decode cX4_copyFrom 50 = .ok (.aload_n 0, 1) := by decide +kernel
theorem dX4_copyFrom_51 : decode cX4_copyFrom 51 = .ok (.getfield 21, 3) := by decide +kernel
theorem dX4_copyFrom_54 : decode cX4_copyFrom 54 = .ok (.iconst 0, 1) := by decide +kernel
theorem dX4_copyFrom_55 : decode cX4_copyFrom 55 = .ok (.bipush 60, 2) := by decide +kernel
theorem dX4_copyFrom_57 : decode cX4_copyFrom 57 = .ok (.invokestatic 43, 3) := by decide +kernel
theorem dX4_copyFrom_60 : decode cX4_copyFrom 60 = .ok (.aload_n 1, 1) := by decide +kernel
theorem dX4_copyFrom_61 : decode cX4_copyFrom 61 = .ok (.getfield 24, 3) := by decide +kernel
theorem dX4_copyFrom_64 : decode cX4_copyFrom 64 = .ok (.iconst 0, 1) := by decide +kernel
theorem dX4_copyFrom_65 : decode cX4_copyFrom 65 = .ok (.aload_n 0, 1) := by decide +kernel
theorem dX4_copyFrom_66 : decode cX4_copyFrom 66 = .ok (.getfield 24, 3) := by decide +kernel
theorem dX4_copyFrom_69 : decode cX4_copyFrom 69 = .ok (.iconst 0, 1) := by decide +kernel
theorem dX4_copyFrom_70 : decode cX4_copyFrom 70 = .ok (.bipush 60, 2) := by decide +kernel
theorem dX4_copyFrom_72 : decode cX4_copyFrom 72 = .ok (.invokestatic 43, 3) := by decide +kernel
theorem dX4_copyFrom_75 : decode cX4_copyFrom 75 = .ok (.aload_n 1, 1) := by decide +kernel
theorem dX4_copyFrom_76 : decode cX4_copyFrom 76 = .ok (.getfield 27, 3) := by decide +kernel
theorem dX4_copyFrom_79 : decode cX4_copyFrom 79 = .ok (.iconst 0, 1) := by decide +kernel
theorem dX4_copyFrom_80 : decode cX4_copyFrom 80 = .ok (.aload_n 0, 1) := by decide +kernel
theorem dX4_copyFrom_81 : decode cX4_copyFrom 81 = .ok (.getfield 27, 3) := by decide +kernel
theorem dX4_copyFrom_84 : decode cX4_copyFrom 84 = .ok (.iconst 0, 1) := by decide +kernel
theorem dX4_copyFrom_85 : decode cX4_copyFrom 85 = .ok (.bipush 60, 2) := by decide +kernel
theorem dX4_copyFrom_87 : decode cX4_copyFrom 87 = .ok (.invokestatic 43, 3) := by decide +kernel
theorem dX4_copyFrom_90 : decode cX4_copyFrom 90 = .ok (.aload_n 0, 1) := by decide +kernel
theorem dX4_copyFrom_91 : decode cX4_copyFrom 91 = .ok (.aload_n 1, 1) := by decide +kernel
theorem dX4_copyFrom_92 : decode cX4_copyFrom 92 = .ok (.getfield 30, 3) := by decide +kernel
theorem dX4_copyFrom_95 : decode cX4_copyFrom 95 = .ok (.putfield 30, 3) := by decide +kernel
theorem dX4_copyFrom_98 : decode cX4_copyFrom 98 = .ok (.aload_n 0, 1) := by decide +kernel
theorem dX4_copyFrom_99 : decode cX4_copyFrom 99 = .ok (.aload_n 1, 1) := by decide +kernel
theorem dX4_copyFrom_100 : decode cX4_copyFrom 100 = .ok (.getfield 34, 3) := by decide +kernel
theorem dX4_copyFrom_103 : decode cX4_copyFrom 103 = .ok (.putfield 34, 3) := by decide +kernel
theorem dX4_copyFrom_106 : decode cX4_copyFrom 106 = .ok (.return_, 1) := by decide +kernel
theorem dX4_keyOf_0 : decode cX4_keyOf 0 = .ok (.iload_n 1, 1) := by decide +kernel
theorem dX4_keyOf_1 : decode cX4_keyOf 1 = .ok (.ifCond .lt 9, 3) := by decide +kernel
theorem dX4_keyOf_4 : decode cX4_keyOf 4 = .ok (.iload_n 1, 1) := by decide +kernel
theorem dX4_keyOf_5 : decode cX4_keyOf 5 = .ok (.bipush 60, 2) := by decide +kernel
theorem dX4_keyOf_7 : decode cX4_keyOf 7 = .ok (.if_icmp .lt 7, 3) := by decide +kernel
theorem dX4_keyOf_10 : decode cX4_keyOf 10 = .ok (.iconst (-1), 1) := by decide +kernel
theorem dX4_keyOf_11 : decode cX4_keyOf 11 = .ok (.goto 9, 3) := by decide +kernel
theorem dX4_keyOf_14 : decode cX4_keyOf 14 = .ok (.aload_n 0, 1) := by decide +kernel
theorem dX4_keyOf_15 : decode cX4_keyOf 15 = .ok (.getfield 9, 3) := by decide +kernel
theorem dX4_keyOf_18 : decode cX4_keyOf 18 = .ok (.iload_n 1, 1) := by decide +kernel
theorem dX4_keyOf_19 : decode cX4_keyOf 19 = .ok (.iaload, 1) := by decide +kernel
theorem dX4_keyOf_20 : decode cX4_keyOf 20 = .ok (.ireturn, 1) := by decide +kernel
theorem dX4_worthOf_0 : decode cX4_worthOf 0 = .ok (.iload_n 1, 1) := by decide +kernel
theorem dX4_worthOf_1 : decode cX4_worthOf 1 = .ok (.ifCond .lt 9, 3) := by decide +kernel
theorem dX4_worthOf_4 : decode cX4_worthOf 4 = .ok (.iload_n 1, 1) := by decide +kernel
theorem dX4_worthOf_5 : decode cX4_worthOf 5 = .ok (.bipush 60, 2) := by decide +kernel
theorem dX4_worthOf_7 : decode cX4_worthOf 7 = .ok (.if_icmp .lt 7, 3) := by decide +kernel
theorem dX4_worthOf_10 : decode cX4_worthOf 10 = .ok (.iconst 0, 1) := by decide +kernel
theorem dX4_worthOf_11 : decode cX4_worthOf 11 = .ok (.goto 9, 3) := by decide +kernel
theorem dX4_worthOf_14 : decode cX4_worthOf 14 = .ok (.aload_n 0, 1) := by decide +kernel
theorem dX4_worthOf_15 : decode cX4_worthOf 15 = .ok (.getfield 15, 3) := by decide +kernel
theorem dX4_worthOf_18 : decode cX4_worthOf 18 = .ok (.iload_n 1, 1) := by decide +kernel
theorem dX4_worthOf_19 : decode cX4_worthOf 19 = .ok (.iaload, 1) := by decide +kernel
theorem dX4_worthOf_20 : decode cX4_worthOf 20 = .ok (.ireturn, 1) := by decide +kernel
theorem dX4_rankOf_0 : decode cX4_rankOf 0 = .ok (.iload_n 1, 1) := by decide +kernel
theorem dX4_rankOf_1 : decode cX4_rankOf 1 = .ok (.ifCond .lt 9, 3) := by decide +kernel
theorem dX4_rankOf_4 : decode cX4_rankOf 4 = .ok (.iload_n 1, 1) := by decide +kernel
theorem dX4_rankOf_5 : decode cX4_rankOf 5 = .ok (.bipush 60, 2) := by decide +kernel
theorem dX4_rankOf_7 : decode cX4_rankOf 7 = .ok (.if_icmp .lt 7, 3) := by decide +kernel
theorem dX4_rankOf_10 : decode cX4_rankOf 10 = .ok (.iconst (-1), 1) := by decide +kernel
theorem dX4_rankOf_11 : decode cX4_rankOf 11 = .ok (.goto 9, 3) := by decide +kernel
theorem dX4_rankOf_14 : decode cX4_rankOf 14 = .ok (.aload_n 0, 1) := by decide +kernel
theorem dX4_rankOf_15 : decode cX4_rankOf 15 = .ok (.getfield 18, 3) := by decide +kernel
theorem dX4_rankOf_18 : decode cX4_rankOf 18 = .ok (.iload_n 1, 1) := by decide +kernel
theorem dX4_rankOf_19 : decode cX4_rankOf 19 = .ok (.iaload, 1) := by decide +kernel
theorem dX4_rankOf_20 : decode cX4_rankOf 20 = .ok (.ireturn, 1) := by decide +kernel
theorem dX4_leftOf_0 : decode cX4_leftOf 0 = .ok (.iload_n 1, 1) := by decide +kernel
theorem dX4_leftOf_1 : decode cX4_leftOf 1 = .ok (.ifCond .lt 9, 3) := by decide +kernel
theorem dX4_leftOf_4 : decode cX4_leftOf 4 = .ok (.iload_n 1, 1) := by decide +kernel
theorem dX4_leftOf_5 : decode cX4_leftOf 5 = .ok (.bipush 60, 2) := by decide +kernel
theorem dX4_leftOf_7 : decode cX4_leftOf 7 = .ok (.if_icmp .lt 7, 3) := by decide +kernel
theorem dX4_leftOf_10 : decode cX4_leftOf 10 = .ok (.iconst (-1), 1) := by decide +kernel
theorem dX4_leftOf_11 : decode cX4_leftOf 11 = .ok (.goto 9, 3) := by decide +kernel
theorem dX4_leftOf_14 : decode cX4_leftOf 14 = .ok (.aload_n 0, 1) := by decide +kernel
theorem dX4_leftOf_15 : decode cX4_leftOf 15 = .ok (.getfield 21, 3) := by decide +kernel
theorem dX4_leftOf_18 : decode cX4_leftOf 18 = .ok (.iload_n 1, 1) := by decide +kernel
theorem dX4_leftOf_19 : decode cX4_leftOf 19 = .ok (.iaload, 1) := by decide +kernel
theorem dX4_leftOf_20 : decode cX4_leftOf 20 = .ok (.ireturn, 1) := by decide +kernel
theorem dX4_rightOf_0 : decode cX4_rightOf 0 = .ok (.iload_n 1, 1) := by decide +kernel
theorem dX4_rightOf_1 : decode cX4_rightOf 1 = .ok (.ifCond .lt 9, 3) := by decide +kernel
theorem dX4_rightOf_4 : decode cX4_rightOf 4 = .ok (.iload_n 1, 1) := by decide +kernel
theorem dX4_rightOf_5 : decode cX4_rightOf 5 = .ok (.bipush 60, 2) := by decide +kernel
theorem dX4_rightOf_7 : decode cX4_rightOf 7 = .ok (.if_icmp .lt 7, 3) := by decide +kernel
theorem dX4_rightOf_10 : decode cX4_rightOf 10 = .ok (.iconst (-1), 1) := by decide +kernel
theorem dX4_rightOf_11 : decode cX4_rightOf 11 = .ok (.goto 9, 3) := by decide +kernel
theorem dX4_rightOf_14 : decode cX4_rightOf 14 = .ok (.aload_n 0, 1) := by decide +kernel
theorem dX4_rightOf_15 : decode cX4_rightOf 15 = .ok (.getfield 24, 3) := by decide +kernel
theorem dX4_rightOf_18 : decode cX4_rightOf 18 = .ok (.iload_n 1, 1) := by decide +kernel
theorem dX4_rightOf_19 : decode cX4_rightOf 19 = .ok (.iaload, 1) := by decide +kernel
theorem dX4_rightOf_20 : decode cX4_rightOf 20 = .ok (.ireturn, 1) := by decide +kernel
theorem dX4_childOf_0 : decode cX4_childOf 0 = .ok (.iload_n 1, 1) := by decide +kernel
theorem dX4_childOf_1 : decode cX4_childOf 1 = .ok (.ifCond .lt 9, 3) := by decide +kernel
theorem dX4_childOf_4 : decode cX4_childOf 4 = .ok (.iload_n 1, 1) := by decide +kernel
theorem dX4_childOf_5 : decode cX4_childOf 5 = .ok (.bipush 60, 2) := by decide +kernel
theorem dX4_childOf_7 : decode cX4_childOf 7 = .ok (.if_icmp .lt 5, 3) := by decide +kernel
theorem dX4_childOf_10 : decode cX4_childOf 10 = .ok (.iconst (-1), 1) := by decide +kernel
theorem dX4_childOf_11 : decode cX4_childOf 11 = .ok (.ireturn, 1) := by decide +kernel
theorem dX4_childOf_12 : decode cX4_childOf 12 = .ok (.iload_n 2, 1) := by decide +kernel
theorem dX4_childOf_13 : decode cX4_childOf 13 = .ok (.ifCond .eq 12, 3) := by decide +kernel
theorem dX4_childOf_16 : decode cX4_childOf 16 = .ok (.aload_n 0, 1) := by decide +kernel
theorem dX4_childOf_17 : decode cX4_childOf 17 = .ok (.getfield 21, 3) := by decide +kernel
theorem dX4_childOf_20 : decode cX4_childOf 20 = .ok (.iload_n 1, 1) := by decide +kernel
theorem dX4_childOf_21 : decode cX4_childOf 21 = .ok (.iaload, 1) := by decide +kernel
theorem dX4_childOf_22 : decode cX4_childOf 22 = .ok (.goto 9, 3) := by decide +kernel
theorem dX4_childOf_25 : decode cX4_childOf 25 = .ok (.aload_n 0, 1) := by decide +kernel
theorem dX4_childOf_26 : decode cX4_childOf 26 = .ok (.getfield 24, 3) := by decide +kernel
theorem dX4_childOf_29 : decode cX4_childOf 29 = .ok (.iload_n 1, 1) := by decide +kernel
theorem dX4_childOf_30 : decode cX4_childOf 30 = .ok (.iaload, 1) := by decide +kernel
theorem dX4_childOf_31 : decode cX4_childOf 31 = .ok (.ireturn, 1) := by decide +kernel
theorem dX4_parentOf_0 : decode cX4_parentOf 0 = .ok (.iload_n 1, 1) := by decide +kernel
theorem dX4_parentOf_1 : decode cX4_parentOf 1 = .ok (.ifCond .lt 9, 3) := by decide +kernel
theorem dX4_parentOf_4 : decode cX4_parentOf 4 = .ok (.iload_n 1, 1) := by decide +kernel
theorem dX4_parentOf_5 : decode cX4_parentOf 5 = .ok (.bipush 60, 2) := by decide +kernel
theorem dX4_parentOf_7 : decode cX4_parentOf 7 = .ok (.if_icmp .lt 7, 3) := by decide +kernel
theorem dX4_parentOf_10 : decode cX4_parentOf 10 = .ok (.iconst (-1), 1) := by decide +kernel
theorem dX4_parentOf_11 : decode cX4_parentOf 11 = .ok (.goto 9, 3) := by decide +kernel
theorem dX4_parentOf_14 : decode cX4_parentOf 14 = .ok (.aload_n 0, 1) := by decide +kernel
theorem dX4_parentOf_15 : decode cX4_parentOf 15 = .ok (.getfield 27, 3) := by decide +kernel
theorem dX4_parentOf_18 : decode cX4_parentOf 18 = .ok (.iload_n 1, 1) := by decide +kernel
theorem dX4_parentOf_19 : decode cX4_parentOf 19 = .ok (.iaload, 1) := by decide +kernel
theorem dX4_parentOf_20 : decode cX4_parentOf 20 = .ok (.ireturn, 1) := by decide +kernel
theorem dX4_step_0 : decode cX4_step 0 = .ok (.aload_n 0, 1) := by decide +kernel
theorem dX4_step_1 : decode cX4_step 1 = .ok (.iload_n 1, 1) := by decide +kernel
theorem dX4_step_2 : decode cX4_step 2 = .ok (.invokevirtual 49, 3) := by decide +kernel
theorem dX4_step_5 : decode cX4_step 5 = .ok (.aload_n 0, 1) := by decide +kernel
theorem dX4_step_6 : decode cX4_step 6 = .ok (.iload_n 2, 1) := by decide +kernel
theorem dX4_step_7 : decode cX4_step 7 = .ok (.invokevirtual 49, 3) := by decide +kernel
theorem dX4_step_10 : decode cX4_step 10 = .ok (.isub, 1) := by decide +kernel
theorem dX4_step_11 : decode cX4_step 11 = .ok (.ireturn, 1) := by decide +kernel
theorem dX4_isLeaf_0 : decode cX4_isLeaf 0 = .ok (.aload_n 0, 1) := by decide +kernel
theorem dX4_isLeaf_1 : decode cX4_isLeaf 1 = .ok (.iload_n 1, 1) := by decide +kernel
theorem dX4_isLeaf_2 : decode cX4_isLeaf 2 = .ok (.invokevirtual 53, 3) := by decide +kernel
theorem dX4_isLeaf_5 : decode cX4_isLeaf 5 = .ok (.iconst (-1), 1) := by decide +kernel
theorem dX4_isLeaf_6 : decode cX4_isLeaf 6 = .ok (.if_icmp .ne 16, 3) := by decide +kernel
theorem dX4_isLeaf_9 : decode cX4_isLeaf 9 = .ok (.aload_n 0, 1) := by decide +kernel
theorem dX4_isLeaf_10 : decode cX4_isLeaf 10 = .ok (.iload_n 1, 1) := by decide +kernel
theorem dX4_isLeaf_11 : decode cX4_isLeaf 11 = .ok (.invokevirtual 56, 3) := by decide +kernel
theorem dX4_isLeaf_14 : decode cX4_isLeaf 14 = .ok (.iconst (-1), 1) := by decide +kernel
theorem dX4_isLeaf_15 : decode cX4_isLeaf 15 = .ok (.if_icmp .ne 7, 3) := by decide +kernel
theorem dX4_isLeaf_18 : decode cX4_isLeaf 18 = .ok (.iconst 1, 1) := by decide +kernel
theorem dX4_isLeaf_19 : decode cX4_isLeaf 19 = .ok (.goto 4, 3) := by decide +kernel
theorem dX4_isLeaf_22 : decode cX4_isLeaf 22 = .ok (.iconst 0, 1) := by decide +kernel
theorem dX4_isLeaf_23 : decode cX4_isLeaf 23 = .ok (.ireturn, 1) := by decide +kernel
theorem dX4_setWorth_0 : decode cX4_setWorth 0 = .ok (.iload_n 1, 1) := by decide +kernel
theorem dX4_setWorth_1 : decode cX4_setWorth 1 = .ok (.ifCond .lt 16, 3) := by decide +kernel
theorem dX4_setWorth_4 : decode cX4_setWorth 4 = .ok (.iload_n 1, 1) := by decide +kernel
theorem dX4_setWorth_5 : decode cX4_setWorth 5 = .ok (.bipush 60, 2) := by decide +kernel
theorem dX4_setWorth_7 : decode cX4_setWorth 7 = .ok (.if_icmp .ge 10, 3) := by decide +kernel
theorem dX4_setWorth_10 : decode cX4_setWorth 10 = .ok (.aload_n 0, 1) := by decide +kernel
theorem dX4_setWorth_11 : decode cX4_setWorth 11 = .ok (.getfield 15, 3) := by decide +kernel
theorem dX4_setWorth_14 : decode cX4_setWorth 14 = .ok (.iload_n 1, 1) := by decide +kernel
theorem dX4_setWorth_15 : decode cX4_setWorth 15 = .ok (.iload_n 2, 1) := by decide +kernel
theorem dX4_setWorth_16 : decode cX4_setWorth 16 = .ok (.iastore, 1) := by decide +kernel
theorem dX4_setWorth_17 : decode cX4_setWorth 17 = .ok (.return_, 1) := by decide +kernel
theorem dX4_setRank_0 : decode cX4_setRank 0 = .ok (.iload_n 1, 1) := by decide +kernel
theorem dX4_setRank_1 : decode cX4_setRank 1 = .ok (.ifCond .lt 16, 3) := by decide +kernel
theorem dX4_setRank_4 : decode cX4_setRank 4 = .ok (.iload_n 1, 1) := by decide +kernel
theorem dX4_setRank_5 : decode cX4_setRank 5 = .ok (.bipush 60, 2) := by decide +kernel
theorem dX4_setRank_7 : decode cX4_setRank 7 = .ok (.if_icmp .ge 10, 3) := by decide +kernel
theorem dX4_setRank_10 : decode cX4_setRank 10 = .ok (.aload_n 0, 1) := by decide +kernel
theorem dX4_setRank_11 : decode cX4_setRank 11 = .ok (.getfield 18, 3) := by decide +kernel
theorem dX4_setRank_14 : decode cX4_setRank 14 = .ok (.iload_n 1, 1) := by decide +kernel
theorem dX4_setRank_15 : decode cX4_setRank 15 = .ok (.iload_n 2, 1) := by decide +kernel
theorem dX4_setRank_16 : decode cX4_setRank 16 = .ok (.iastore, 1) := by decide +kernel
theorem dX4_setRank_17 : decode cX4_setRank 17 = .ok (.return_, 1) := by decide +kernel
theorem dX4_addRank_0 : decode cX4_addRank 0 = .ok (.iload_n 1, 1) := by decide +kernel
theorem dX4_addRank_1 : decode cX4_addRank 1 = .ok (.ifCond .lt 19, 3) := by decide +kernel
theorem dX4_addRank_4 : decode cX4_addRank 4 = .ok (.iload_n 1, 1) := by decide +kernel
theorem dX4_addRank_5 : decode cX4_addRank 5 = .ok (.bipush 60, 2) := by decide +kernel
theorem dX4_addRank_7 : decode cX4_addRank 7 = .ok (.if_icmp .ge 13, 3) := by decide +kernel
theorem dX4_addRank_10 : decode cX4_addRank 10 = .ok (.aload_n 0, 1) := by decide +kernel
theorem dX4_addRank_11 : decode cX4_addRank 11 = .ok (.getfield 18, 3) := by decide +kernel
theorem dX4_addRank_14 : decode cX4_addRank 14 = .ok (.iload_n 1, 1) := by decide +kernel
theorem dX4_addRank_15 : decode cX4_addRank 15 = .ok (.dup2, 1) := by decide +kernel
theorem dX4_addRank_16 : decode cX4_addRank 16 = .ok (.iaload, 1) := by decide +kernel
theorem dX4_addRank_17 : decode cX4_addRank 17 = .ok (.iload_n 2, 1) := by decide +kernel
theorem dX4_addRank_18 : decode cX4_addRank 18 = .ok (.iadd, 1) := by decide +kernel
theorem dX4_addRank_19 : decode cX4_addRank 19 = .ok (.iastore, 1) := by decide +kernel
theorem dX4_addRank_20 : decode cX4_addRank 20 = .ok (.return_, 1) := by decide +kernel
theorem dX4_hang_0 : decode cX4_hang 0 = .ok (.iload_n 3, 1) := by decide +kernel
theorem dX4_hang_1 : decode cX4_hang 1 = .ok (.ifCond .lt 16, 3) := by decide +kernel
theorem dX4_hang_4 : decode cX4_hang 4 = .ok (.iload_n 3, 1) := by decide +kernel
theorem dX4_hang_5 : decode cX4_hang 5 = .ok (.bipush 60, 2) := by decide +kernel
theorem dX4_hang_7 : decode cX4_hang 7 = .ok (.if_icmp .ge 10, 3) := by decide +kernel
theorem dX4_hang_10 : decode cX4_hang 10 = .ok (.aload_n 0, 1) := by decide +kernel
theorem dX4_hang_11 : decode cX4_hang 11 = .ok (.getfield 27, 3) := by decide +kernel
theorem dX4_hang_14 : decode cX4_hang 14 = .ok (.iload_n 3, 1) := by decide +kernel
theorem dX4_hang_15 : decode cX4_hang 15 = .ok (.iload_n 1, 1) := by decide +kernel
theorem dX4_hang_16 : decode cX4_hang 16 = .ok (.iastore, 1) := by decide +kernel
theorem dX4_hang_17 : decode cX4_hang 17 = .ok (.iload_n 1, 1) := by decide +kernel
theorem dX4_hang_18 : decode cX4_hang 18 = .ok (.ifCond .lt 9, 3) := by decide +kernel
theorem dX4_hang_21 : decode cX4_hang 21 = .ok (.iload_n 1, 1) := by decide +kernel
theorem dX4_hang_22 : decode cX4_hang 22 = .ok (.bipush 60, 2) := by decide +kernel
theorem dX4_hang_24 : decode cX4_hang 24 = .ok (.if_icmp .lt 11, 3) := by decide +kernel
theorem dX4_hang_27 : decode cX4_hang 27 = .ok (.aload_n 0, 1) := by decide +kernel
theorem dX4_hang_28 : decode cX4_hang 28 = .ok (.iload_n 3, 1) := by decide +kernel
theorem dX4_hang_29 : decode cX4_hang 29 = .ok (.putfield 30, 3) := by decide +kernel
theorem dX4_hang_32 : decode cX4_hang 32 = .ok (.goto 24, 3) := by decide +kernel
theorem dX4_hang_35 : decode cX4_hang 35 = .ok (.iload_n 2, 1) := by decide +kernel
theorem dX4_hang_36 : decode cX4_hang 36 = .ok (.ifCond .eq 13, 3) := by decide +kernel
theorem dX4_hang_39 : decode cX4_hang 39 = .ok (.aload_n 0, 1) := by decide +kernel
theorem dX4_hang_40 : decode cX4_hang 40 = .ok (.getfield 21, 3) := by decide +kernel
theorem dX4_hang_43 : decode cX4_hang 43 = .ok (.iload_n 1, 1) := by decide +kernel
theorem dX4_hang_44 : decode cX4_hang 44 = .ok (.iload_n 3, 1) := by decide +kernel
theorem dX4_hang_45 : decode cX4_hang 45 = .ok (.iastore, 1) := by decide +kernel
theorem dX4_hang_46 : decode cX4_hang 46 = .ok (.goto 10, 3) := by decide +kernel
theorem dX4_hang_49 : decode cX4_hang 49 = .ok (.aload_n 0, 1) := by decide +kernel
theorem dX4_hang_50 : decode cX4_hang 50 = .ok (.getfield 24, 3) := by decide +kernel
theorem dX4_hang_53 : decode cX4_hang 53 = .ok (.iload_n 1, 1) := by decide +kernel
theorem dX4_hang_54 : decode cX4_hang 54 = .ok (.iload_n 3, 1) := by decide +kernel
theorem dX4_hang_55 : decode cX4_hang 55 = .ok (.iastore, 1) := by decide +kernel
theorem dX4_hang_56 : decode cX4_hang 56 = .ok (.return_, 1) := by decide +kernel
theorem dX4_hangNew_0 : decode cX4_hangNew 0 = .ok (.iconst (-1), 1) := by decide +kernel
theorem dX4_hangNew_1 : decode cX4_hangNew 1 = .ok (.istore_n 3, 1) := by decide +kernel
theorem dX4_hangNew_2 : decode cX4_hangNew 2 = .ok (.iconst 0, 1) := by decide +kernel
theorem dX4_hangNew_3 : decode cX4_hangNew 3 = .ok (.istore 4, 2) := by decide +kernel
theorem dX4_hangNew_5 : decode cX4_hangNew 5 = .ok (.aload_n 0, 1) := by decide +kernel
theorem dX4_hangNew_6 : decode cX4_hangNew 6 = .ok (.getfield 30, 3) := by decide +kernel
theorem dX4_hangNew_9 : decode cX4_hangNew 9 = .ok (.istore 5, 2) := by decide +kernel
theorem dX4_hangNew_11 : decode cX4_hangNew 11 = .ok (.iconst 0, 1) := by decide +kernel
theorem dX4_hangNew_12 : decode cX4_hangNew 12 = .ok (.istore 6, 2) := by decide +kernel
theorem dX4_hangNew_14 : decode cX4_hangNew 14 = .ok (.iload 6, 2) := by decide +kernel
theorem dX4_hangNew_16 : decode cX4_hangNew 16 = .ok (.bipush 60, 2) := by decide +kernel
theorem dX4_hangNew_18 : decode cX4_hangNew 18 = .ok (.if_icmp .ge 45, 3) := by decide +kernel
theorem dX4_hangNew_21 : decode cX4_hangNew 21 = .ok (.iload 5, 2) := by decide +kernel
theorem dX4_hangNew_23 : decode cX4_hangNew 23 = .ok (.iconst (-1), 1) := by decide +kernel
theorem dX4_hangNew_24 : decode cX4_hangNew 24 = .ok (.if_icmp .eq 39, 3) := by decide +kernel
theorem dX4_hangNew_27 : decode cX4_hangNew 27 = .ok (.iload 5, 2) := by decide +kernel
theorem dX4_hangNew_29 : decode cX4_hangNew 29 = .ok (.istore_n 3, 1) := by decide +kernel
theorem dX4_hangNew_30 : decode cX4_hangNew 30 = .ok (.iload_n 1, 1) := by decide +kernel
theorem dX4_hangNew_31 : decode cX4_hangNew 31 = .ok (.aload_n 0, 1) := by decide +kernel
theorem dX4_hangNew_32 : decode cX4_hangNew 32 = .ok (.iload 5, 2) := by decide +kernel
theorem dX4_hangNew_34 : decode cX4_hangNew 34 = .ok (.invokevirtual 59, 3) := by decide +kernel
theorem dX4_hangNew_37 : decode cX4_hangNew 37 = .ok (.if_icmp .ge 7, 3) := by decide +kernel
theorem dX4_hangNew_40 : decode cX4_hangNew 40 = .ok (.iconst 1, 1) := by decide +kernel
theorem dX4_hangNew_41 : decode cX4_hangNew 41 = .ok (.goto 4, 3) := by decide +kernel
theorem dX4_hangNew_44 : decode cX4_hangNew 44 = .ok (.iconst 0, 1) := by decide +kernel
theorem dX4_hangNew_45 : decode cX4_hangNew 45 = .ok (.istore 4, 2) := by decide +kernel
theorem dX4_hangNew_47 : decode cX4_hangNew 47 = .ok (.aload_n 0, 1) := by decide +kernel
theorem dX4_hangNew_48 : decode cX4_hangNew 48 = .ok (.iload 5, 2) := by decide +kernel
theorem dX4_hangNew_50 : decode cX4_hangNew 50 = .ok (.iload 4, 2) := by decide +kernel
theorem dX4_hangNew_52 : decode cX4_hangNew 52 = .ok (.invokevirtual 62, 3) := by decide +kernel
theorem dX4_hangNew_55 : decode cX4_hangNew 55 = .ok (.istore 5, 2) := by decide +kernel
theorem dX4_hangNew_57 : decode cX4_hangNew 57 = .ok (.iinc 6 1, 3) := by decide +kernel
theorem dX4_hangNew_60 : decode cX4_hangNew 60 = .ok (.goto (-46), 3) := by decide +kernel
theorem dX4_hangNew_63 : decode cX4_hangNew 63 = .ok (.aload_n 0, 1) := by decide +kernel
theorem dX4_hangNew_64 : decode cX4_hangNew 64 = .ok (.invokevirtual 66, 3) := by decide +kernel
theorem dX4_hangNew_67 : decode cX4_hangNew 67 = .ok (.istore 6, 2) := by decide +kernel
theorem dX4_hangNew_69 : decode cX4_hangNew 69 = .ok (.aload_n 0, 1) := by decide +kernel
theorem dX4_hangNew_70 : decode cX4_hangNew 70 = .ok (.iload 6, 2) := by decide +kernel
theorem dX4_hangNew_72 : decode cX4_hangNew 72 = .ok (.iload_n 1, 1) := by decide +kernel
theorem dX4_hangNew_73 : decode cX4_hangNew 73 = .ok (.iload_n 2, 1) := by decide +kernel
theorem dX4_hangNew_74 : decode cX4_hangNew 74 = .ok (.invokevirtual 70, 3) := by decide +kernel
theorem dX4_hangNew_77 : decode cX4_hangNew 77 = .ok (.aload_n 0, 1) := by decide +kernel
theorem dX4_hangNew_78 : decode cX4_hangNew 78 = .ok (.iload_n 3, 1) := by decide +kernel
theorem dX4_hangNew_79 : decode cX4_hangNew 79 = .ok (.iload 4, 2) := by decide +kernel
theorem dX4_hangNew_81 : decode cX4_hangNew 81 = .ok (.iload 6, 2) := by decide +kernel
theorem dX4_hangNew_83 : decode cX4_hangNew 83 = .ok (.invokevirtual 73, 3) := by decide +kernel
theorem dX4_hangNew_86 : decode cX4_hangNew 86 = .ok (.iload 6, 2) := by decide +kernel
theorem dX4_hangNew_88 : decode cX4_hangNew 88 = .ok (.ireturn, 1) := by decide +kernel
theorem dX4_freeSlot_0 : decode cX4_freeSlot 0 = .ok (.iconst 0, 1) := by decide +kernel
theorem dX4_freeSlot_1 : decode cX4_freeSlot 1 = .ok (.istore_n 1, 1) := by decide +kernel
theorem dX4_freeSlot_2 : decode cX4_freeSlot 2 = .ok (.iload_n 1, 1) := by decide +kernel
theorem dX4_freeSlot_3 : decode cX4_freeSlot 3 = .ok (.bipush 60, 2) := by decide +kernel
theorem dX4_freeSlot_5 : decode cX4_freeSlot 5 = .ok (.if_icmp .ge 21, 3) := by decide +kernel
theorem dX4_freeSlot_8 : decode cX4_freeSlot 8 = .ok (.aload_n 0, 1) := by decide +kernel
theorem dX4_freeSlot_9 : decode cX4_freeSlot 9 = .ok (.getfield 9, 3) := by decide +kernel
theorem dX4_freeSlot_12 : decode cX4_freeSlot 12 = .ok (.iload_n 1, 1) := by decide +kernel
theorem dX4_freeSlot_13 : decode cX4_freeSlot 13 = .ok (.iaload, 1) := by decide +kernel
theorem dX4_freeSlot_14 : decode cX4_freeSlot 14 = .ok (.iconst (-1), 1) := by decide +kernel
theorem dX4_freeSlot_15 : decode cX4_freeSlot 15 = .ok (.if_icmp .ne 5, 3) := by decide +kernel
theorem dX4_freeSlot_18 : decode cX4_freeSlot 18 = .ok (.iload_n 1, 1) := by decide +kernel
theorem dX4_freeSlot_19 : decode cX4_freeSlot 19 = .ok (.ireturn, 1) := by decide +kernel
theorem dX4_freeSlot_20 : decode cX4_freeSlot 20 = .ok (.iinc 1 1, 3) := by decide +kernel
theorem dX4_freeSlot_23 : decode cX4_freeSlot 23 = .ok (.goto (-21), 3) := by decide +kernel
theorem dX4_freeSlot_26 : decode cX4_freeSlot 26 = .ok (.iconst (-1), 1) := by decide +kernel
theorem dX4_freeSlot_27 : decode cX4_freeSlot 27 = .ok (.ireturn, 1) := by decide +kernel
theorem dX4_fill_0 : decode cX4_fill 0 = .ok (.iload_n 1, 1) := by decide +kernel
theorem dX4_fill_1 : decode cX4_fill 1 = .ok (.ifCond .lt 54, 3) := by decide +kernel
theorem dX4_fill_4 : decode cX4_fill 4 = .ok (.iload_n 1, 1) := by decide +kernel
theorem dX4_fill_5 : decode cX4_fill 5 = .ok (.bipush 60, 2) := by decide +kernel
theorem dX4_fill_7 : decode cX4_fill 7 = .ok (.if_icmp .ge 48, 3) := by decide +kernel
theorem dX4_fill_10 : decode cX4_fill 10 = .ok (.aload_n 0, 1) := by decide +kernel
theorem dX4_fill_11 : decode cX4_fill 11 = .ok (.getfield 9, 3) := by decide +kernel
theorem dX4_fill_14 : decode cX4_fill 14 = .ok (.iload_n 1, 1) := by decide +kernel
theorem dX4_fill_15 : decode cX4_fill 15 = .ok (.iload_n 2, 1) := by decide +kernel
theorem dX4_fill_16 : decode cX4_fill 16 = .ok (.iastore, 1) := by decide +kernel
theorem dX4_fill_17 : decode cX4_fill 17 = .ok (.aload_n 0, 1) := by decide +kernel
theorem dX4_fill_18 : decode cX4_fill 18 = .ok (.getfield 15, 3) := by decide +kernel
theorem dX4_fill_21 : decode cX4_fill 21 = .ok (.iload_n 1, 1) := by decide +kernel
theorem dX4_fill_22 : decode cX4_fill 22 = .ok (.iload_n 3, 1) := by decide +kernel
theorem dX4_fill_23 : decode cX4_fill 23 = .ok (.iastore, 1) := by decide +kernel
theorem dX4_fill_24 : decode cX4_fill 24 = .ok (.aload_n 0, 1) := by decide +kernel
theorem dX4_fill_25 : decode cX4_fill 25 = .ok (.getfield 18, 3) := by decide +kernel
theorem dX4_fill_28 : decode cX4_fill 28 = .ok (.iload_n 1, 1) := by decide +kernel
theorem dX4_fill_29 : decode cX4_fill 29 = .ok (.iconst 0, 1) := by decide +kernel
theorem dX4_fill_30 : decode cX4_fill 30 = .ok (.iastore, 1) := by decide +kernel
theorem dX4_fill_31 : decode cX4_fill 31 = .ok (.aload_n 0, 1) := by decide +kernel
theorem dX4_fill_32 : decode cX4_fill 32 = .ok (.getfield 21, 3) := by decide +kernel
theorem dX4_fill_35 : decode cX4_fill 35 = .ok (.iload_n 1, 1) := by decide +kernel
theorem dX4_fill_36 : decode cX4_fill 36 = .ok (.iconst (-1), 1) := by decide +kernel
theorem dX4_fill_37 : decode cX4_fill 37 = .ok (.iastore, 1) := by decide +kernel
theorem dX4_fill_38 : decode cX4_fill 38 = .ok (.aload_n 0, 1) := by decide +kernel
theorem dX4_fill_39 : decode cX4_fill 39 = .ok (.getfield 24, 3) := by decide +kernel
theorem dX4_fill_42 : decode cX4_fill 42 = .ok (.iload_n 1, 1) := by decide +kernel
theorem dX4_fill_43 : decode cX4_fill 43 = .ok (.iconst (-1), 1) := by decide +kernel
theorem dX4_fill_44 : decode cX4_fill 44 = .ok (.iastore, 1) := by decide +kernel
theorem dX4_fill_45 : decode cX4_fill 45 = .ok (.aload_n 0, 1) := by decide +kernel
theorem dX4_fill_46 : decode cX4_fill 46 = .ok (.dup, 1) := by decide +kernel
theorem dX4_fill_47 : decode cX4_fill 47 = .ok (.getfield 34, 3) := by decide +kernel
theorem dX4_fill_50 : decode cX4_fill 50 = .ok (.iconst 1, 1) := by decide +kernel
theorem dX4_fill_51 : decode cX4_fill 51 = .ok (.iadd, 1) := by decide +kernel
theorem dX4_fill_52 : decode cX4_fill 52 = .ok (.putfield 34, 3) := by decide +kernel
theorem dX4_fill_55 : decode cX4_fill 55 = .ok (.return_, 1) := by decide +kernel
theorem dX4_takeOff_0 : decode cX4_takeOff 0 = .ok (.aload_n 0, 1) := by decide +kernel
theorem dX4_takeOff_1 : decode cX4_takeOff 1 = .ok (.iload_n 1, 1) := by decide +kernel
theorem dX4_takeOff_2 : decode cX4_takeOff 2 = .ok (.invokevirtual 77, 3) := by decide +kernel
theorem dX4_takeOff_5 : decode cX4_takeOff 5 = .ok (.istore_n 2, 1) := by decide +kernel
theorem dX4_takeOff_6 : decode cX4_takeOff 6 = .ok (.aload_n 0, 1) := by decide +kernel
theorem dX4_takeOff_7 : decode cX4_takeOff 7 = .ok (.iload_n 1, 1) := by decide +kernel
theorem dX4_takeOff_8 : decode cX4_takeOff 8 = .ok (.invokevirtual 53, 3) := by decide +kernel
theorem dX4_takeOff_11 : decode cX4_takeOff 11 = .ok (.iconst (-1), 1) := by decide +kernel
theorem dX4_takeOff_12 : decode cX4_takeOff 12 = .ok (.if_icmp .eq 11, 3) := by decide +kernel
theorem dX4_takeOff_15 : decode cX4_takeOff 15 = .ok (.aload_n 0, 1) := by decide +kernel
theorem dX4_takeOff_16 : decode cX4_takeOff 16 = .ok (.iload_n 1, 1) := by decide +kernel
theorem dX4_takeOff_17 : decode cX4_takeOff 17 = .ok (.invokevirtual 53, 3) := by decide +kernel
theorem dX4_takeOff_20 : decode cX4_takeOff 20 = .ok (.goto 8, 3) := by decide +kernel
theorem dX4_takeOff_23 : decode cX4_takeOff 23 = .ok (.aload_n 0, 1) := by decide +kernel
theorem dX4_takeOff_24 : decode cX4_takeOff 24 = .ok (.iload_n 1, 1) := by decide +kernel
theorem dX4_takeOff_25 : decode cX4_takeOff 25 = .ok (.invokevirtual 56, 3) := by decide +kernel
theorem dX4_takeOff_28 : decode cX4_takeOff 28 = .ok (.istore_n 3, 1) := by decide +kernel
theorem dX4_takeOff_29 : decode cX4_takeOff 29 = .ok (.aload_n 0, 1) := by decide +kernel
theorem dX4_takeOff_30 : decode cX4_takeOff 30 = .ok (.iload_n 2, 1) := by decide +kernel
theorem dX4_takeOff_31 : decode cX4_takeOff 31 = .ok (.aload_n 0, 1) := by decide +kernel
theorem dX4_takeOff_32 : decode cX4_takeOff 32 = .ok (.iload_n 2, 1) := by decide +kernel
theorem dX4_takeOff_33 : decode cX4_takeOff 33 = .ok (.invokevirtual 53, 3) := by decide +kernel
theorem dX4_takeOff_36 : decode cX4_takeOff 36 = .ok (.iload_n 1, 1) := by decide +kernel
theorem dX4_takeOff_37 : decode cX4_takeOff 37 = .ok (.if_icmp .ne 7, 3) := by decide +kernel
theorem dX4_takeOff_40 : decode cX4_takeOff 40 = .ok (.iconst 1, 1) := by decide +kernel
theorem dX4_takeOff_41 : decode cX4_takeOff 41 = .ok (.goto 4, 3) := by decide +kernel
theorem dX4_takeOff_44 : decode cX4_takeOff 44 = .ok (.iconst 0, 1) := by decide +kernel
theorem dX4_takeOff_45 : decode cX4_takeOff 45 = .ok (.iload_n 3, 1) := by decide +kernel
theorem dX4_takeOff_46 : decode cX4_takeOff 46 = .ok (.invokevirtual 73, 3) := by decide +kernel
theorem dX4_takeOff_49 : decode cX4_takeOff 49 = .ok (.iload_n 1, 1) := by decide +kernel
theorem dX4_takeOff_50 : decode cX4_takeOff 50 = .ok (.ifCond .lt 26, 3) := by decide +kernel
theorem dX4_takeOff_53 : decode cX4_takeOff 53 = .ok (.iload_n 1, 1) := by decide +kernel
theorem dX4_takeOff_54 : decode cX4_takeOff 54 = .ok (.bipush 60, 2) := by decide +kernel
theorem dX4_takeOff_56 : decode cX4_takeOff 56 = .ok (.if_icmp .ge 20, 3) := by decide +kernel
theorem dX4_takeOff_59 : decode cX4_takeOff 59 = .ok (.aload_n 0, 1) := by decide +kernel
theorem dX4_takeOff_60 : decode cX4_takeOff 60 = .ok (.getfield 9, 3) := by decide +kernel
theorem dX4_takeOff_63 : decode cX4_takeOff 63 = .ok (.iload_n 1, 1) := by decide +kernel
theorem dX4_takeOff_64 : decode cX4_takeOff 64 = .ok (.iconst (-1), 1) := by decide +kernel
theorem dX4_takeOff_65 : decode cX4_takeOff 65 = .ok (.iastore, 1) := by decide +kernel
theorem dX4_takeOff_66 : decode cX4_takeOff 66 = .ok (.aload_n 0, 1) := by decide +kernel
theorem dX4_takeOff_67 : decode cX4_takeOff 67 = .ok (.dup, 1) := by decide +kernel
theorem dX4_takeOff_68 : decode cX4_takeOff 68 = .ok (.getfield 34, 3) := by decide +kernel
theorem dX4_takeOff_71 : decode cX4_takeOff 71 = .ok (.iconst 1, 1) := by decide +kernel
theorem dX4_takeOff_72 : decode cX4_takeOff 72 = .ok (.isub, 1) := by decide +kernel
theorem dX4_takeOff_73 : decode cX4_takeOff 73 = .ok (.putfield 34, 3) := by decide +kernel
theorem dX4_takeOff_76 : decode cX4_takeOff 76 = .ok (.iload_n 3, 1) := by decide +kernel
theorem dX4_takeOff_77 : decode cX4_takeOff 77 = .ok (.ireturn, 1) := by decide +kernel
theorem dX4_copyKeyAndWorth_0 : decode cX4_copyKeyAndWorth 0 = .ok (.iload_n 1, 1) := by decide +kernel
theorem dX4_copyKeyAndWorth_1 : decode cX4_copyKeyAndWorth 1 = .ok (.ifCond .lt 43, 3) := by decide +kernel
theorem dX4_copyKeyAndWorth_4 : decode cX4_copyKeyAndWorth 4 = .ok (.iload_n 1, 1) := by decide +kernel
theorem dX4_copyKeyAndWorth_5 : decode cX4_copyKeyAndWorth 5 = .ok (.bipush 60, 2) := by decide +kernel
theorem dX4_copyKeyAndWorth_7 : decode cX4_copyKeyAndWorth 7 = .ok (.if_icmp .ge 37, 3) := by decide +kernel
theorem dX4_copyKeyAndWorth_10 : decode cX4_copyKeyAndWorth 10 = .ok (.iload_n 2, 1) := by decide +kernel
theorem dX4_copyKeyAndWorth_11 : decode cX4_copyKeyAndWorth 11 = .ok (.ifCond .lt 33, 3) := by decide +kernel
theorem dX4_copyKeyAndWorth_14 : decode cX4_copyKeyAndWorth 14 = .ok (.iload_n 2, 1) := by decide +kernel
theorem dX4_copyKeyAndWorth_15 : decode cX4_copyKeyAndWorth 15 = .ok (.bipush 60, 2) := by decide +kernel
theorem dX4_copyKeyAndWorth_17 : decode cX4_copyKeyAndWorth 17 = .ok (.if_icmp .ge 27, 3) := by decide +kernel
theorem dX4_copyKeyAndWorth_20 : decode cX4_copyKeyAndWorth 20 = .ok (.aload_n 0, 1) := by decide +kernel
theorem dX4_copyKeyAndWorth_21 : decode cX4_copyKeyAndWorth 21 = .ok (.getfield 9, 3) := by decide +kernel
theorem dX4_copyKeyAndWorth_24 : decode cX4_copyKeyAndWorth 24 = .ok (.iload_n 2, 1) := by decide +kernel
theorem dX4_copyKeyAndWorth_25 : decode cX4_copyKeyAndWorth 25 = .ok (.aload_n 0, 1) := by decide +kernel
theorem dX4_copyKeyAndWorth_26 : decode cX4_copyKeyAndWorth 26 = .ok (.getfield 9, 3) := by decide +kernel
theorem dX4_copyKeyAndWorth_29 : decode cX4_copyKeyAndWorth 29 = .ok (.iload_n 1, 1) := by decide +kernel
theorem dX4_copyKeyAndWorth_30 : decode cX4_copyKeyAndWorth 30 = .ok (.iaload, 1) := by decide +kernel
theorem dX4_copyKeyAndWorth_31 : decode cX4_copyKeyAndWorth 31 = .ok (.iastore, 1) := by decide +kernel
theorem dX4_copyKeyAndWorth_32 : decode cX4_copyKeyAndWorth 32 = .ok (.aload_n 0, 1) := by decide +kernel
theorem dX4_copyKeyAndWorth_33 : decode cX4_copyKeyAndWorth 33 = .ok (.getfield 15, 3) := by decide +kernel
theorem dX4_copyKeyAndWorth_36 : decode cX4_copyKeyAndWorth 36 = .ok (.iload_n 2, 1) := by decide +kernel
theorem dX4_copyKeyAndWorth_37 : decode cX4_copyKeyAndWorth 37 = .ok (.aload_n 0, 1) := by decide +kernel
theorem dX4_copyKeyAndWorth_38 : decode cX4_copyKeyAndWorth 38 = .ok (.getfield 15, 3) := by decide +kernel
theorem dX4_copyKeyAndWorth_41 : decode cX4_copyKeyAndWorth 41 = .ok (.iload_n 1, 1) := by decide +kernel
theorem dX4_copyKeyAndWorth_42 : decode cX4_copyKeyAndWorth 42 = .ok (.iaload, 1) := by decide +kernel
theorem dX4_copyKeyAndWorth_43 : decode cX4_copyKeyAndWorth 43 = .ok (.iastore, 1) := by decide +kernel
theorem dX4_copyKeyAndWorth_44 : decode cX4_copyKeyAndWorth 44 = .ok (.return_, 1) := by decide +kernel
theorem dX4_turnOverParent_0 : decode cX4_turnOverParent 0 = .ok (.aload_n 0, 1) := by decide +kernel
theorem dX4_turnOverParent_1 : decode cX4_turnOverParent 1 = .ok (.iload_n 1, 1) := by decide +kernel
theorem dX4_turnOverParent_2 : decode cX4_turnOverParent 2 = .ok (.invokevirtual 77, 3) := by decide +kernel
theorem dX4_turnOverParent_5 : decode cX4_turnOverParent 5 = .ok (.istore_n 2, 1) := by decide +kernel
theorem dX4_turnOverParent_6 : decode cX4_turnOverParent 6 = .ok (.iload_n 2, 1) := by decide +kernel
theorem dX4_turnOverParent_7 : decode cX4_turnOverParent 7 = .ok (.iconst (-1), 1) := by decide +kernel
theorem dX4_turnOverParent_8 : decode cX4_turnOverParent 8 = .ok (.if_icmp .ne 4, 3) := by decide +kernel
theorem dX4_turnOverParent_11 : decode cX4_turnOverParent 11 = .ok (.return_, 1) := by decide +kernel
theorem dX4_turnOverParent_12 : decode cX4_turnOverParent 12 = .ok (.aload_n 0, 1) := by decide +kernel
theorem dX4_turnOverParent_13 : decode cX4_turnOverParent 13 = .ok (.iload_n 2, 1) := by decide +kernel
theorem dX4_turnOverParent_14 : decode cX4_turnOverParent 14 = .ok (.invokevirtual 77, 3) := by decide +kernel
theorem dX4_turnOverParent_17 : decode cX4_turnOverParent 17 = .ok (.istore_n 3, 1) := by decide +kernel
theorem dX4_turnOverParent_18 : decode cX4_turnOverParent 18 = .ok (.aload_n 0, 1) := by decide +kernel
theorem dX4_turnOverParent_19 : decode cX4_turnOverParent 19 = .ok (.iload_n 3, 1) := by decide +kernel
theorem dX4_turnOverParent_20 : decode cX4_turnOverParent 20 = .ok (.invokevirtual 53, 3) := by decide +kernel
theorem dX4_turnOverParent_23 : decode cX4_turnOverParent 23 = .ok (.iload_n 2, 1) := by decide +kernel
theorem dX4_turnOverParent_24 : decode cX4_turnOverParent 24 = .ok (.if_icmp .ne 7, 3) := by decide +kernel
theorem dX4_turnOverParent_27 : decode cX4_turnOverParent 27 = .ok (.iconst 1, 1) := by decide +kernel
theorem dX4_turnOverParent_28 : decode cX4_turnOverParent 28 = .ok (.goto 4, 3) := by decide +kernel
theorem dX4_turnOverParent_31 : decode cX4_turnOverParent 31 = .ok (.iconst 0, 1) := by decide +kernel
theorem dX4_turnOverParent_32 : decode cX4_turnOverParent 32 = .ok (.istore 4, 2) := by decide +kernel
theorem dX4_turnOverParent_34 : decode cX4_turnOverParent 34 = .ok (.aload_n 0, 1) := by decide +kernel
theorem dX4_turnOverParent_35 : decode cX4_turnOverParent 35 = .ok (.iload_n 2, 1) := by decide +kernel
theorem dX4_turnOverParent_36 : decode cX4_turnOverParent 36 = .ok (.invokevirtual 53, 3) := by decide +kernel
theorem dX4_turnOverParent_39 : decode cX4_turnOverParent 39 = .ok (.iload_n 1, 1) := by decide +kernel
theorem dX4_turnOverParent_40 : decode cX4_turnOverParent 40 = .ok (.if_icmp .ne 7, 3) := by decide +kernel
theorem dX4_turnOverParent_43 : decode cX4_turnOverParent 43 = .ok (.iconst 1, 1) := by decide +kernel
theorem dX4_turnOverParent_44 : decode cX4_turnOverParent 44 = .ok (.goto 4, 3) := by decide +kernel
theorem dX4_turnOverParent_47 : decode cX4_turnOverParent 47 = .ok (.iconst 0, 1) := by decide +kernel
theorem dX4_turnOverParent_48 : decode cX4_turnOverParent 48 = .ok (.istore 5, 2) := by decide +kernel
theorem dX4_turnOverParent_50 : decode cX4_turnOverParent 50 = .ok (.aload_n 0, 1) := by decide +kernel
theorem dX4_turnOverParent_51 : decode cX4_turnOverParent 51 = .ok (.iload_n 2, 1) := by decide +kernel
theorem dX4_turnOverParent_52 : decode cX4_turnOverParent 52 = .ok (.iload 5, 2) := by decide +kernel
theorem dX4_turnOverParent_54 : decode cX4_turnOverParent 54 = .ok (.aload_n 0, 1) := by decide +kernel
theorem dX4_turnOverParent_55 : decode cX4_turnOverParent 55 = .ok (.iload_n 1, 1) := by decide +kernel
theorem dX4_turnOverParent_56 : decode cX4_turnOverParent 56 = .ok (.iload 5, 2) := by decide +kernel
theorem dX4_turnOverParent_58 : decode cX4_turnOverParent 58 = .ok (.ifCond .ne 7, 3) := by decide +kernel
theorem dX4_turnOverParent_61 : decode cX4_turnOverParent 61 = .ok (.iconst 1, 1) := by decide +kernel
theorem dX4_turnOverParent_62 : decode cX4_turnOverParent 62 = .ok (.goto 4, 3) := by decide +kernel
theorem dX4_turnOverParent_65 : decode cX4_turnOverParent 65 = .ok (.iconst 0, 1) := by decide +kernel
theorem dX4_turnOverParent_66 : decode cX4_turnOverParent 66 = .ok (.invokevirtual 62, 3) := by decide +kernel
theorem dX4_turnOverParent_69 : decode cX4_turnOverParent 69 = .ok (.invokevirtual 73, 3) := by decide +kernel
theorem dX4_turnOverParent_72 : decode cX4_turnOverParent 72 = .ok (.aload_n 0, 1) := by decide +kernel
theorem dX4_turnOverParent_73 : decode cX4_turnOverParent 73 = .ok (.iload_n 1, 1) := by decide +kernel
theorem dX4_turnOverParent_74 : decode cX4_turnOverParent 74 = .ok (.iload 5, 2) := by decide +kernel
theorem dX4_turnOverParent_76 : decode cX4_turnOverParent 76 = .ok (.ifCond .ne 7, 3) := by decide +kernel
theorem dX4_turnOverParent_79 : decode cX4_turnOverParent 79 = .ok (.iconst 1, 1) := by decide +kernel
theorem dX4_turnOverParent_80 : decode cX4_turnOverParent 80 = .ok (.goto 4, 3) := by decide +kernel
theorem dX4_turnOverParent_83 : decode cX4_turnOverParent 83 = .ok (.iconst 0, 1) := by decide +kernel
theorem dX4_turnOverParent_84 : decode cX4_turnOverParent 84 = .ok (.iload_n 2, 1) := by decide +kernel
theorem dX4_turnOverParent_85 : decode cX4_turnOverParent 85 = .ok (.invokevirtual 73, 3) := by decide +kernel
theorem dX4_turnOverParent_88 : decode cX4_turnOverParent 88 = .ok (.aload_n 0, 1) := by decide +kernel
theorem dX4_turnOverParent_89 : decode cX4_turnOverParent 89 = .ok (.iload_n 3, 1) := by decide +kernel
theorem dX4_turnOverParent_90 : decode cX4_turnOverParent 90 = .ok (.iload 4, 2) := by decide +kernel
theorem dX4_turnOverParent_92 : decode cX4_turnOverParent 92 = .ok (.iload_n 1, 1) := by decide +kernel
theorem dX4_turnOverParent_93 : decode cX4_turnOverParent 93 = .ok (.invokevirtual 73, 3) := by decide +kernel
theorem dX4_turnOverParent_96 : decode cX4_turnOverParent 96 = .ok (.return_, 1) := by decide +kernel
theorem dX4_slotOfKey_0 : decode cX4_slotOfKey 0 = .ok (.aload_n 0, 1) := by decide +kernel
theorem dX4_slotOfKey_1 : decode cX4_slotOfKey 1 = .ok (.getfield 30, 3) := by decide +kernel
theorem dX4_slotOfKey_4 : decode cX4_slotOfKey 4 = .ok (.istore_n 2, 1) := by decide +kernel
theorem dX4_slotOfKey_5 : decode cX4_slotOfKey 5 = .ok (.iconst 0, 1) := by decide +kernel
theorem dX4_slotOfKey_6 : decode cX4_slotOfKey 6 = .ok (.istore_n 3, 1) := by decide +kernel
theorem dX4_slotOfKey_7 : decode cX4_slotOfKey 7 = .ok (.iload_n 3, 1) := by decide +kernel
theorem dX4_slotOfKey_8 : decode cX4_slotOfKey 8 = .ok (.bipush 60, 2) := by decide +kernel
theorem dX4_slotOfKey_10 : decode cX4_slotOfKey 10 = .ok (.if_icmp .ge 45, 3) := by decide +kernel
theorem dX4_slotOfKey_13 : decode cX4_slotOfKey 13 = .ok (.iload_n 2, 1) := by decide +kernel
end
section
theorem dX4_slotOfKey_14 : decode cX4_slotOfKey 14 = .ok (.iconst (-1), 1) := by decide +kernel
theorem dX4_slotOfKey_15 : decode cX4_slotOfKey 15 = .ok (.if_icmp .eq 40, 3) := by decide +kernel
theorem dX4_slotOfKey_18 : decode cX4_slotOfKey 18 = .ok (.aload_n 0, 1) := by decide +kernel
theorem dX4_slotOfKey_19 : decode cX4_slotOfKey 19 = .ok (.iload_n 2, 1) := by decide +kernel
theorem dX4_slotOfKey_20 : decode cX4_slotOfKey 20 = .ok (.invokevirtual 59, 3) := by decide +kernel
theorem dX4_slotOfKey_23 : decode cX4_slotOfKey 23 = .ok (.iload_n 1, 1) := by decide +kernel
theorem dX4_slotOfKey_24 : decode cX4_slotOfKey 24 = .ok (.if_icmp .ne 5, 3) := by decide +kernel
theorem dX4_slotOfKey_27 : decode cX4_slotOfKey 27 = .ok (.iload_n 2, 1) := by decide +kernel
theorem dX4_slotOfKey_28 : decode cX4_slotOfKey 28 = .ok (.ireturn, 1) := by decide +kernel
theorem dX4_slotOfKey_29 : decode cX4_slotOfKey 29 = .ok (.aload_n 0, 1) := by decide +kernel
theorem dX4_slotOfKey_30 : decode cX4_slotOfKey 30 = .ok (.iload_n 2, 1) := by decide +kernel
theorem dX4_slotOfKey_31 : decode cX4_slotOfKey 31 = .ok (.iload_n 1, 1) := by decide +kernel
theorem dX4_slotOfKey_32 : decode cX4_slotOfKey 32 = .ok (.aload_n 0, 1) := by decide +kernel
theorem dX4_slotOfKey_33 : decode cX4_slotOfKey 33 = .ok (.iload_n 2, 1) := by decide +kernel
theorem dX4_slotOfKey_34 : decode cX4_slotOfKey 34 = .ok (.invokevirtual 59, 3) := by decide +kernel
theorem dX4_slotOfKey_37 : decode cX4_slotOfKey 37 = .ok (.if_icmp .ge 7, 3) := by decide +kernel
theorem dX4_slotOfKey_40 : decode cX4_slotOfKey 40 = .ok (.iconst 1, 1) := by decide +kernel
theorem dX4_slotOfKey_41 : decode cX4_slotOfKey 41 = .ok (.goto 4, 3) := by decide +kernel
theorem dX4_slotOfKey_44 : decode cX4_slotOfKey 44 = .ok (.iconst 0, 1) := by decide +kernel
theorem dX4_slotOfKey_45 : decode cX4_slotOfKey 45 = .ok (.invokevirtual 62, 3) := by decide +kernel
theorem dX4_slotOfKey_48 : decode cX4_slotOfKey 48 = .ok (.istore_n 2, 1) := by decide +kernel
theorem dX4_slotOfKey_49 : decode cX4_slotOfKey 49 = .ok (.iinc 3 1, 3) := by decide +kernel
theorem dX4_slotOfKey_52 : decode cX4_slotOfKey 52 = .ok (.goto (-45), 3) := by decide +kernel
theorem dX4_slotOfKey_55 : decode cX4_slotOfKey 55 = .ok (.iconst (-1), 1) := by decide +kernel
theorem dX4_slotOfKey_56 : decode cX4_slotOfKey 56 = .ok (.ireturn, 1) := by decide +kernel
theorem dX4_leastBelow_0 : decode cX4_leastBelow 0 = .ok (.aload_n 0, 1) := by decide +kernel
theorem dX4_leastBelow_1 : decode cX4_leastBelow 1 = .ok (.iload_n 1, 1) := by decide +kernel
theorem dX4_leastBelow_2 : decode cX4_leastBelow 2 = .ok (.iconst 1, 1) := by decide +kernel
theorem dX4_leastBelow_3 : decode cX4_leastBelow 3 = .ok (.invokevirtual 80, 3) := by decide +kernel
theorem dX4_leastBelow_6 : decode cX4_leastBelow 6 = .ok (.ireturn, 1) := by decide +kernel
theorem dX4_greatestBelow_0 : decode cX4_greatestBelow 0 = .ok (.aload_n 0, 1) := by decide +kernel
theorem dX4_greatestBelow_1 : decode cX4_greatestBelow 1 = .ok (.iload_n 1, 1) := by decide +kernel
theorem dX4_greatestBelow_2 : decode cX4_greatestBelow 2 = .ok (.iconst 0, 1) := by decide +kernel
theorem dX4_greatestBelow_3 : decode cX4_greatestBelow 3 = .ok (.invokevirtual 80, 3) := by decide +kernel
theorem dX4_greatestBelow_6 : decode cX4_greatestBelow 6 = .ok (.ireturn, 1) := by decide +kernel
theorem dX4_endOf_0 : decode cX4_endOf 0 = .ok (.iload_n 1, 1) := by decide +kernel
theorem dX4_endOf_1 : decode cX4_endOf 1 = .ok (.istore_n 3, 1) := by decide +kernel
theorem dX4_endOf_2 : decode cX4_endOf 2 = .ok (.iconst 0, 1) := by decide +kernel
theorem dX4_endOf_3 : decode cX4_endOf 3 = .ok (.istore 4, 2) := by decide +kernel
theorem dX4_endOf_5 : decode cX4_endOf 5 = .ok (.iload 4, 2) := by decide +kernel
theorem dX4_endOf_7 : decode cX4_endOf 7 = .ok (.bipush 60, 2) := by decide +kernel
theorem dX4_endOf_9 : decode cX4_endOf 9 = .ok (.if_icmp .ge 26, 3) := by decide +kernel
theorem dX4_endOf_12 : decode cX4_endOf 12 = .ok (.aload_n 0, 1) := by decide +kernel
theorem dX4_endOf_13 : decode cX4_endOf 13 = .ok (.iload_n 3, 1) := by decide +kernel
theorem dX4_endOf_14 : decode cX4_endOf 14 = .ok (.iload_n 2, 1) := by decide +kernel
theorem dX4_endOf_15 : decode cX4_endOf 15 = .ok (.invokevirtual 62, 3) := by decide +kernel
theorem dX4_endOf_18 : decode cX4_endOf 18 = .ok (.iconst (-1), 1) := by decide +kernel
theorem dX4_endOf_19 : decode cX4_endOf 19 = .ok (.if_icmp .eq 16, 3) := by decide +kernel
theorem dX4_endOf_22 : decode cX4_endOf 22 = .ok (.aload_n 0, 1) := by decide +kernel
theorem dX4_endOf_23 : decode cX4_endOf 23 = .ok (.iload_n 3, 1) := by decide +kernel
theorem dX4_endOf_24 : decode cX4_endOf 24 = .ok (.iload_n 2, 1) := by decide +kernel
theorem dX4_endOf_25 : decode cX4_endOf 25 = .ok (.invokevirtual 62, 3) := by decide +kernel
theorem dX4_endOf_28 : decode cX4_endOf 28 = .ok (.istore_n 3, 1) := by decide +kernel
theorem dX4_endOf_29 : decode cX4_endOf 29 = .ok (.iinc 4 1, 3) := by decide +kernel
theorem dX4_endOf_32 : decode cX4_endOf 32 = .ok (.goto (-27), 3) := by decide +kernel
theorem dX4_endOf_35 : decode cX4_endOf 35 = .ok (.iload_n 3, 1) := by decide +kernel
theorem dX4_endOf_36 : decode cX4_endOf 36 = .ok (.ireturn, 1) := by decide +kernel
theorem dX4_nextRising_0 : decode cX4_nextRising 0 = .ok (.aload_n 0, 1) := by decide +kernel
theorem dX4_nextRising_1 : decode cX4_nextRising 1 = .ok (.iload_n 1, 1) := by decide +kernel
theorem dX4_nextRising_2 : decode cX4_nextRising 2 = .ok (.invokevirtual 56, 3) := by decide +kernel
theorem dX4_nextRising_5 : decode cX4_nextRising 5 = .ok (.iconst (-1), 1) := by decide +kernel
theorem dX4_nextRising_6 : decode cX4_nextRising 6 = .ok (.if_icmp .eq 13, 3) := by decide +kernel
theorem dX4_nextRising_9 : decode cX4_nextRising 9 = .ok (.aload_n 0, 1) := by decide +kernel
theorem dX4_nextRising_10 : decode cX4_nextRising 10 = .ok (.aload_n 0, 1) := by decide +kernel
theorem dX4_nextRising_11 : decode cX4_nextRising 11 = .ok (.iload_n 1, 1) := by decide +kernel
theorem dX4_nextRising_12 : decode cX4_nextRising 12 = .ok (.invokevirtual 56, 3) := by decide +kernel
theorem dX4_nextRising_15 : decode cX4_nextRising 15 = .ok (.invokevirtual 83, 3) := by decide +kernel
theorem dX4_nextRising_18 : decode cX4_nextRising 18 = .ok (.ireturn, 1) := by decide +kernel
theorem dX4_nextRising_19 : decode cX4_nextRising 19 = .ok (.iload_n 1, 1) := by decide +kernel
theorem dX4_nextRising_20 : decode cX4_nextRising 20 = .ok (.istore_n 2, 1) := by decide +kernel
theorem dX4_nextRising_21 : decode cX4_nextRising 21 = .ok (.aload_n 0, 1) := by decide +kernel
theorem dX4_nextRising_22 : decode cX4_nextRising 22 = .ok (.iload_n 1, 1) := by decide +kernel
theorem dX4_nextRising_23 : decode cX4_nextRising 23 = .ok (.invokevirtual 77, 3) := by decide +kernel
theorem dX4_nextRising_26 : decode cX4_nextRising 26 = .ok (.istore_n 3, 1) := by decide +kernel
theorem dX4_nextRising_27 : decode cX4_nextRising 27 = .ok (.iconst 0, 1) := by decide +kernel
theorem dX4_nextRising_28 : decode cX4_nextRising 28 = .ok (.istore 4, 2) := by decide +kernel
theorem dX4_nextRising_30 : decode cX4_nextRising 30 = .ok (.iload 4, 2) := by decide +kernel
theorem dX4_nextRising_32 : decode cX4_nextRising 32 = .ok (.bipush 60, 2) := by decide +kernel
theorem dX4_nextRising_34 : decode cX4_nextRising 34 = .ok (.if_icmp .ge 31, 3) := by decide +kernel
theorem dX4_nextRising_37 : decode cX4_nextRising 37 = .ok (.iload_n 3, 1) := by decide +kernel
theorem dX4_nextRising_38 : decode cX4_nextRising 38 = .ok (.iconst (-1), 1) := by decide +kernel
theorem dX4_nextRising_39 : decode cX4_nextRising 39 = .ok (.if_icmp .eq 26, 3) := by decide +kernel
theorem dX4_nextRising_42 : decode cX4_nextRising 42 = .ok (.aload_n 0, 1) := by decide +kernel
theorem dX4_nextRising_43 : decode cX4_nextRising 43 = .ok (.iload_n 3, 1) := by decide +kernel
theorem dX4_nextRising_44 : decode cX4_nextRising 44 = .ok (.invokevirtual 53, 3) := by decide +kernel
theorem dX4_nextRising_47 : decode cX4_nextRising 47 = .ok (.iload_n 2, 1) := by decide +kernel
theorem dX4_nextRising_48 : decode cX4_nextRising 48 = .ok (.if_icmp .eq 17, 3) := by decide +kernel
theorem dX4_nextRising_51 : decode cX4_nextRising 51 = .ok (.iload_n 3, 1) := by decide +kernel
theorem dX4_nextRising_52 : decode cX4_nextRising 52 = .ok (.istore_n 2, 1) := by decide +kernel
theorem dX4_nextRising_53 : decode cX4_nextRising 53 = .ok (.aload_n 0, 1) := by decide +kernel
theorem dX4_nextRising_54 : decode cX4_nextRising 54 = .ok (.iload_n 2, 1) := by decide +kernel
theorem dX4_nextRising_55 : decode cX4_nextRising 55 = .ok (.invokevirtual 77, 3) := by decide +kernel
theorem dX4_nextRising_58 : decode cX4_nextRising 58 = .ok (.istore_n 3, 1) := by decide +kernel
theorem dX4_nextRising_59 : decode cX4_nextRising 59 = .ok (.iinc 4 1, 3) := by decide +kernel
theorem dX4_nextRising_62 : decode cX4_nextRising 62 = .ok (.goto (-32), 3) := by decide +kernel
theorem dX4_nextRising_65 : decode cX4_nextRising 65 = .ok (.iload_n 3, 1) := by decide +kernel
theorem dX4_nextRising_66 : decode cX4_nextRising 66 = .ok (.ireturn, 1) := by decide +kernel
theorem dX4_nextByNumber_0 : decode cX4_nextByNumber 0 = .ok (.aload_n 0, 1) := by decide +kernel
theorem dX4_nextByNumber_1 : decode cX4_nextByNumber 1 = .ok (.iload_n 1, 1) := by decide +kernel
theorem dX4_nextByNumber_2 : decode cX4_nextByNumber 2 = .ok (.invokevirtual 53, 3) := by decide +kernel
theorem dX4_nextByNumber_5 : decode cX4_nextByNumber 5 = .ok (.iconst (-1), 1) := by decide +kernel
theorem dX4_nextByNumber_6 : decode cX4_nextByNumber 6 = .ok (.if_icmp .eq 9, 3) := by decide +kernel
theorem dX4_nextByNumber_9 : decode cX4_nextByNumber 9 = .ok (.aload_n 0, 1) := by decide +kernel
theorem dX4_nextByNumber_10 : decode cX4_nextByNumber 10 = .ok (.iload_n 1, 1) := by decide +kernel
theorem dX4_nextByNumber_11 : decode cX4_nextByNumber 11 = .ok (.invokevirtual 53, 3) := by decide +kernel
theorem dX4_nextByNumber_14 : decode cX4_nextByNumber 14 = .ok (.ireturn, 1) := by decide +kernel
theorem dX4_nextByNumber_15 : decode cX4_nextByNumber 15 = .ok (.aload_n 0, 1) := by decide +kernel
theorem dX4_nextByNumber_16 : decode cX4_nextByNumber 16 = .ok (.iload_n 1, 1) := by decide +kernel
theorem dX4_nextByNumber_17 : decode cX4_nextByNumber 17 = .ok (.invokevirtual 56, 3) := by decide +kernel
theorem dX4_nextByNumber_20 : decode cX4_nextByNumber 20 = .ok (.iconst (-1), 1) := by decide +kernel
theorem dX4_nextByNumber_21 : decode cX4_nextByNumber 21 = .ok (.if_icmp .eq 9, 3) := by decide +kernel
theorem dX4_nextByNumber_24 : decode cX4_nextByNumber 24 = .ok (.aload_n 0, 1) := by decide +kernel
theorem dX4_nextByNumber_25 : decode cX4_nextByNumber 25 = .ok (.iload_n 1, 1) := by decide +kernel
theorem dX4_nextByNumber_26 : decode cX4_nextByNumber 26 = .ok (.invokevirtual 56, 3) := by decide +kernel
theorem dX4_nextByNumber_29 : decode cX4_nextByNumber 29 = .ok (.ireturn, 1) := by decide +kernel
theorem dX4_nextByNumber_30 : decode cX4_nextByNumber 30 = .ok (.iload_n 1, 1) := by decide +kernel
theorem dX4_nextByNumber_31 : decode cX4_nextByNumber 31 = .ok (.istore_n 2, 1) := by decide +kernel
theorem dX4_nextByNumber_32 : decode cX4_nextByNumber 32 = .ok (.aload_n 0, 1) := by decide +kernel
theorem dX4_nextByNumber_33 : decode cX4_nextByNumber 33 = .ok (.iload_n 1, 1) := by decide +kernel
theorem dX4_nextByNumber_34 : decode cX4_nextByNumber 34 = .ok (.invokevirtual 77, 3) := by decide +kernel
theorem dX4_nextByNumber_37 : decode cX4_nextByNumber 37 = .ok (.istore_n 3, 1) := by decide +kernel
theorem dX4_nextByNumber_38 : decode cX4_nextByNumber 38 = .ok (.iconst 0, 1) := by decide +kernel
theorem dX4_nextByNumber_39 : decode cX4_nextByNumber 39 = .ok (.istore 4, 2) := by decide +kernel
theorem dX4_nextByNumber_41 : decode cX4_nextByNumber 41 = .ok (.iload 4, 2) := by decide +kernel
theorem dX4_nextByNumber_43 : decode cX4_nextByNumber 43 = .ok (.bipush 60, 2) := by decide +kernel
theorem dX4_nextByNumber_45 : decode cX4_nextByNumber 45 = .ok (.if_icmp .ge 46, 3) := by decide +kernel
theorem dX4_nextByNumber_48 : decode cX4_nextByNumber 48 = .ok (.iload_n 3, 1) := by decide +kernel
theorem dX4_nextByNumber_49 : decode cX4_nextByNumber 49 = .ok (.iconst (-1), 1) := by decide +kernel
theorem dX4_nextByNumber_50 : decode cX4_nextByNumber 50 = .ok (.if_icmp .eq 41, 3) := by decide +kernel
theorem dX4_nextByNumber_53 : decode cX4_nextByNumber 53 = .ok (.aload_n 0, 1) := by decide +kernel
theorem dX4_nextByNumber_54 : decode cX4_nextByNumber 54 = .ok (.iload_n 3, 1) := by decide +kernel
theorem dX4_nextByNumber_55 : decode cX4_nextByNumber 55 = .ok (.invokevirtual 53, 3) := by decide +kernel
theorem dX4_nextByNumber_58 : decode cX4_nextByNumber 58 = .ok (.iload_n 2, 1) := by decide +kernel
theorem dX4_nextByNumber_59 : decode cX4_nextByNumber 59 = .ok (.if_icmp .ne 18, 3) := by decide +kernel
theorem dX4_nextByNumber_62 : decode cX4_nextByNumber 62 = .ok (.aload_n 0, 1) := by decide +kernel
theorem dX4_nextByNumber_63 : decode cX4_nextByNumber 63 = .ok (.iload_n 3, 1) := by decide +kernel
theorem dX4_nextByNumber_64 : decode cX4_nextByNumber 64 = .ok (.invokevirtual 56, 3) := by decide +kernel
theorem dX4_nextByNumber_67 : decode cX4_nextByNumber 67 = .ok (.iconst (-1), 1) := by decide +kernel
theorem dX4_nextByNumber_68 : decode cX4_nextByNumber 68 = .ok (.if_icmp .eq 9, 3) := by decide +kernel
theorem dX4_nextByNumber_71 : decode cX4_nextByNumber 71 = .ok (.aload_n 0, 1) := by decide +kernel
theorem dX4_nextByNumber_72 : decode cX4_nextByNumber 72 = .ok (.iload_n 3, 1) := by decide +kernel
theorem dX4_nextByNumber_73 : decode cX4_nextByNumber 73 = .ok (.invokevirtual 56, 3) := by decide +kernel
theorem dX4_nextByNumber_76 : decode cX4_nextByNumber 76 = .ok (.ireturn, 1) := by decide +kernel
theorem dX4_nextByNumber_77 : decode cX4_nextByNumber 77 = .ok (.iload_n 3, 1) := by decide +kernel
theorem dX4_nextByNumber_78 : decode cX4_nextByNumber 78 = .ok (.istore_n 2, 1) := by decide +kernel
theorem dX4_nextByNumber_79 : decode cX4_nextByNumber 79 = .ok (.aload_n 0, 1) := by decide +kernel
theorem dX4_nextByNumber_80 : decode cX4_nextByNumber 80 = .ok (.iload_n 2, 1) := by decide +kernel
theorem dX4_nextByNumber_81 : decode cX4_nextByNumber 81 = .ok (.invokevirtual 77, 3) := by decide +kernel
theorem dX4_nextByNumber_84 : decode cX4_nextByNumber 84 = .ok (.istore_n 3, 1) := by decide +kernel
theorem dX4_nextByNumber_85 : decode cX4_nextByNumber 85 = .ok (.iinc 4 1, 3) := by decide +kernel
theorem dX4_nextByNumber_88 : decode cX4_nextByNumber 88 = .ok (.goto (-47), 3) := by decide +kernel
theorem dX4_nextByNumber_91 : decode cX4_nextByNumber 91 = .ok (.iconst (-1), 1) := by decide +kernel
theorem dX4_nextByNumber_92 : decode cX4_nextByNumber 92 = .ok (.ireturn, 1) := by decide +kernel
theorem dX4_slotOfNumber_0 : decode cX4_slotOfNumber 0 = .ok (.iload_n 1, 1) := by decide +kernel
theorem dX4_slotOfNumber_1 : decode cX4_slotOfNumber 1 = .ok (.ifCond .lt 11, 3) := by decide +kernel
theorem dX4_slotOfNumber_4 : decode cX4_slotOfNumber 4 = .ok (.iload_n 1, 1) := by decide +kernel
theorem dX4_slotOfNumber_5 : decode cX4_slotOfNumber 5 = .ok (.aload_n 0, 1) := by decide +kernel
theorem dX4_slotOfNumber_6 : decode cX4_slotOfNumber 6 = .ok (.getfield 34, 3) := by decide +kernel
theorem dX4_slotOfNumber_9 : decode cX4_slotOfNumber 9 = .ok (.if_icmp .lt 5, 3) := by decide +kernel
theorem dX4_slotOfNumber_12 : decode cX4_slotOfNumber 12 = .ok (.iconst (-1), 1) := by decide +kernel
theorem dX4_slotOfNumber_13 : decode cX4_slotOfNumber 13 = .ok (.ireturn, 1) := by decide +kernel
theorem dX4_slotOfNumber_14 : decode cX4_slotOfNumber 14 = .ok (.aload_n 0, 1) := by decide +kernel
theorem dX4_slotOfNumber_15 : decode cX4_slotOfNumber 15 = .ok (.getfield 30, 3) := by decide +kernel
theorem dX4_slotOfNumber_18 : decode cX4_slotOfNumber 18 = .ok (.istore_n 2, 1) := by decide +kernel
theorem dX4_slotOfNumber_19 : decode cX4_slotOfNumber 19 = .ok (.iconst 0, 1) := by decide +kernel
theorem dX4_slotOfNumber_20 : decode cX4_slotOfNumber 20 = .ok (.istore_n 3, 1) := by decide +kernel
theorem dX4_slotOfNumber_21 : decode cX4_slotOfNumber 21 = .ok (.iload_n 3, 1) := by decide +kernel
theorem dX4_slotOfNumber_22 : decode cX4_slotOfNumber 22 = .ok (.iload_n 1, 1) := by decide +kernel
theorem dX4_slotOfNumber_23 : decode cX4_slotOfNumber 23 = .ok (.if_icmp .ge 15, 3) := by decide +kernel
theorem dX4_slotOfNumber_26 : decode cX4_slotOfNumber 26 = .ok (.aload_n 0, 1) := by decide +kernel
theorem dX4_slotOfNumber_27 : decode cX4_slotOfNumber 27 = .ok (.iload_n 2, 1) := by decide +kernel
theorem dX4_slotOfNumber_28 : decode cX4_slotOfNumber 28 = .ok (.invokevirtual 86, 3) := by decide +kernel
theorem dX4_slotOfNumber_31 : decode cX4_slotOfNumber 31 = .ok (.istore_n 2, 1) := by decide +kernel
theorem dX4_slotOfNumber_32 : decode cX4_slotOfNumber 32 = .ok (.iinc 3 1, 3) := by decide +kernel
theorem dX4_slotOfNumber_35 : decode cX4_slotOfNumber 35 = .ok (.goto (-14), 3) := by decide +kernel
theorem dX4_slotOfNumber_38 : decode cX4_slotOfNumber 38 = .ok (.iload_n 2, 1) := by decide +kernel
theorem dX4_slotOfNumber_39 : decode cX4_slotOfNumber 39 = .ok (.ireturn, 1) := by decide +kernel
theorem dX4_numberOfSlot_0 : decode cX4_numberOfSlot 0 = .ok (.aload_n 0, 1) := by decide +kernel
theorem dX4_numberOfSlot_1 : decode cX4_numberOfSlot 1 = .ok (.getfield 30, 3) := by decide +kernel
theorem dX4_numberOfSlot_4 : decode cX4_numberOfSlot 4 = .ok (.istore_n 2, 1) := by decide +kernel
theorem dX4_numberOfSlot_5 : decode cX4_numberOfSlot 5 = .ok (.iconst 0, 1) := by decide +kernel
theorem dX4_numberOfSlot_6 : decode cX4_numberOfSlot 6 = .ok (.istore_n 3, 1) := by decide +kernel
theorem dX4_numberOfSlot_7 : decode cX4_numberOfSlot 7 = .ok (.iload_n 3, 1) := by decide +kernel
theorem dX4_numberOfSlot_8 : decode cX4_numberOfSlot 8 = .ok (.aload_n 0, 1) := by decide +kernel
theorem dX4_numberOfSlot_9 : decode cX4_numberOfSlot 9 = .ok (.getfield 34, 3) := by decide +kernel
theorem dX4_numberOfSlot_12 : decode cX4_numberOfSlot 12 = .ok (.if_icmp .ge 22, 3) := by decide +kernel
theorem dX4_numberOfSlot_15 : decode cX4_numberOfSlot 15 = .ok (.iload_n 2, 1) := by decide +kernel
theorem dX4_numberOfSlot_16 : decode cX4_numberOfSlot 16 = .ok (.iload_n 1, 1) := by decide +kernel
theorem dX4_numberOfSlot_17 : decode cX4_numberOfSlot 17 = .ok (.if_icmp .ne 5, 3) := by decide +kernel
theorem dX4_numberOfSlot_20 : decode cX4_numberOfSlot 20 = .ok (.iload_n 3, 1) := by decide +kernel
theorem dX4_numberOfSlot_21 : decode cX4_numberOfSlot 21 = .ok (.ireturn, 1) := by decide +kernel
theorem dX4_numberOfSlot_22 : decode cX4_numberOfSlot 22 = .ok (.aload_n 0, 1) := by decide +kernel
theorem dX4_numberOfSlot_23 : decode cX4_numberOfSlot 23 = .ok (.iload_n 2, 1) := by decide +kernel
theorem dX4_numberOfSlot_24 : decode cX4_numberOfSlot 24 = .ok (.invokevirtual 86, 3) := by decide +kernel
theorem dX4_numberOfSlot_27 : decode cX4_numberOfSlot 27 = .ok (.istore_n 2, 1) := by decide +kernel
theorem dX4_numberOfSlot_28 : decode cX4_numberOfSlot 28 = .ok (.iinc 3 1, 3) := by decide +kernel
theorem dX4_numberOfSlot_31 : decode cX4_numberOfSlot 31 = .ok (.goto (-24), 3) := by decide +kernel
theorem dX4_numberOfSlot_34 : decode cX4_numberOfSlot 34 = .ok (.iconst (-1), 1) := by decide +kernel
theorem dX4_numberOfSlot_35 : decode cX4_numberOfSlot 35 = .ok (.ireturn, 1) := by decide +kernel
theorem dX4_howManyAbove_0 : decode cX4_howManyAbove 0 = .ok (.iconst 0, 1) := by decide +kernel
theorem dX4_howManyAbove_1 : decode cX4_howManyAbove 1 = .ok (.istore_n 2, 1) := by decide +kernel
theorem dX4_howManyAbove_2 : decode cX4_howManyAbove 2 = .ok (.aload_n 0, 1) := by decide +kernel
theorem dX4_howManyAbove_3 : decode cX4_howManyAbove 3 = .ok (.iload_n 1, 1) := by decide +kernel
theorem dX4_howManyAbove_4 : decode cX4_howManyAbove 4 = .ok (.invokevirtual 77, 3) := by decide +kernel
theorem dX4_howManyAbove_7 : decode cX4_howManyAbove 7 = .ok (.istore_n 3, 1) := by decide +kernel
theorem dX4_howManyAbove_8 : decode cX4_howManyAbove 8 = .ok (.iconst 0, 1) := by decide +kernel
theorem dX4_howManyAbove_9 : decode cX4_howManyAbove 9 = .ok (.istore 4, 2) := by decide +kernel
theorem dX4_howManyAbove_11 : decode cX4_howManyAbove 11 = .ok (.iload 4, 2) := by decide +kernel
theorem dX4_howManyAbove_13 : decode cX4_howManyAbove 13 = .ok (.bipush 60, 2) := by decide +kernel
theorem dX4_howManyAbove_15 : decode cX4_howManyAbove 15 = .ok (.if_icmp .ge 23, 3) := by decide +kernel
theorem dX4_howManyAbove_18 : decode cX4_howManyAbove 18 = .ok (.iload_n 3, 1) := by decide +kernel
theorem dX4_howManyAbove_19 : decode cX4_howManyAbove 19 = .ok (.iconst (-1), 1) := by decide +kernel
theorem dX4_howManyAbove_20 : decode cX4_howManyAbove 20 = .ok (.if_icmp .eq 18, 3) := by decide +kernel
theorem dX4_howManyAbove_23 : decode cX4_howManyAbove 23 = .ok (.iinc 2 1, 3) := by decide +kernel
theorem dX4_howManyAbove_26 : decode cX4_howManyAbove 26 = .ok (.aload_n 0, 1) := by decide +kernel
theorem dX4_howManyAbove_27 : decode cX4_howManyAbove 27 = .ok (.iload_n 3, 1) := by decide +kernel
theorem dX4_howManyAbove_28 : decode cX4_howManyAbove 28 = .ok (.invokevirtual 77, 3) := by decide +kernel
theorem dX4_howManyAbove_31 : decode cX4_howManyAbove 31 = .ok (.istore_n 3, 1) := by decide +kernel
theorem dX4_howManyAbove_32 : decode cX4_howManyAbove 32 = .ok (.iinc 4 1, 3) := by decide +kernel
theorem dX4_howManyAbove_35 : decode cX4_howManyAbove 35 = .ok (.goto (-24), 3) := by decide +kernel
theorem dX4_howManyAbove_38 : decode cX4_howManyAbove 38 = .ok (.iload_n 2, 1) := by decide +kernel
theorem dX4_howManyAbove_39 : decode cX4_howManyAbove 39 = .ok (.ireturn, 1) := by decide +kernel
theorem dX5_init_0 : decode cX5_init 0 = .ok (.aload_n 0, 1) := by decide +kernel
theorem dX5_init_1 : decode cX5_init 1 = .ok (.invokespecial 3, 3) := by decide +kernel
theorem dX5_init_4 : decode cX5_init 4 = .ok (.aload_n 0, 1) := by decide +kernel
theorem dX5_init_5 : decode cX5_init 5 = .ok (.bipush 12, 2) := by decide +kernel
theorem dX5_init_7 : decode cX5_init 7 = .ok (.anewarray 9, 3) := by decide +kernel
theorem dX5_init_10 : decode cX5_init 10 = .ok (.putfield 11, 3) := by decide +kernel
theorem dX5_init_13 : decode cX5_init 13 = .ok (.aload_n 0, 1) := by decide +kernel
theorem dX5_init_14 : decode cX5_init 14 = .ok (.iconst 0, 1) := by decide +kernel
theorem dX5_init_15 : decode cX5_init 15 = .ok (.putfield 17, 3) := by decide +kernel
theorem dX5_init_18 : decode cX5_init 18 = .ok (.aload_n 0, 1) := by decide +kernel
theorem dX5_init_19 : decode cX5_init 19 = .ok (.iconst 0, 1) := by decide +kernel
theorem dX5_init_20 : decode cX5_init 20 = .ok (.putfield 21, 3) := by decide +kernel
theorem dX5_init_23 : decode cX5_init 23 = .ok (.iconst 0, 1) := by decide +kernel
theorem dX5_init_24 : decode cX5_init 24 = .ok (.istore_n 1, 1) := by decide +kernel
theorem dX5_init_25 : decode cX5_init 25 = .ok (.iload_n 1, 1) := by decide +kernel
theorem dX5_init_26 : decode cX5_init 26 = .ok (.bipush 12, 2) := by decide +kernel
theorem dX5_init_28 : decode cX5_init 28 = .ok (.if_icmp .ge 22, 3) := by decide +kernel
theorem dX5_init_31 : decode cX5_init 31 = .ok (.aload_n 0, 1) := by decide +kernel
theorem dX5_init_32 : decode cX5_init 32 = .ok (.getfield 11, 3) := by decide +kernel
theorem dX5_init_35 : decode cX5_init 35 = .ok (.iload_n 1, 1) := by decide +kernel
theorem dX5_init_36 : decode cX5_init 36 = .ok (.new 9, 3) := by decide +kernel
theorem dX5_init_39 : decode cX5_init 39 = .ok (.dup, 1) := by decide +kernel
theorem dX5_init_40 : decode cX5_init 40 = .ok (.invokespecial 24, 3) := by decide +kernel
theorem dX5_init_43 : decode cX5_init 43 = .ok (.aastore, 1) := by decide +kernel
theorem dX5_init_44 : decode cX5_init 44 = .ok (.iinc 1 1, 3) := by decide +kernel
theorem dX5_init_47 : decode cX5_init 47 = .ok (.goto (-22), 3) := by decide +kernel
theorem dX5_init_50 : decode cX5_init 50 = .ok (.return_, 1) := by decide +kernel
theorem dX5_remember_0 : decode cX5_remember 0 = .ok (.aload_n 0, 1) := by decide +kernel
theorem dX5_remember_1 : decode cX5_remember 1 = .ok (.getfield 17, 3) := by decide +kernel
theorem dX5_remember_4 : decode cX5_remember 4 = .ok (.ifCond .lt 12, 3) := by decide +kernel
theorem dX5_remember_7 : decode cX5_remember 7 = .ok (.aload_n 0, 1) := by decide +kernel
theorem dX5_remember_8 : decode cX5_remember 8 = .ok (.getfield 17, 3) := by decide +kernel
theorem dX5_remember_11 : decode cX5_remember 11 = .ok (.bipush 12, 2) := by decide +kernel
theorem dX5_remember_13 : decode cX5_remember 13 = .ok (.if_icmp .lt 4, 3) := by decide +kernel
theorem dX5_remember_16 : decode cX5_remember 16 = .ok (.return_, 1) := by decide +kernel
theorem dX5_remember_17 : decode cX5_remember 17 = .ok (.aload_n 0, 1) := by decide +kernel
theorem dX5_remember_18 : decode cX5_remember 18 = .ok (.getfield 11, 3) := by decide +kernel
theorem dX5_remember_21 : decode cX5_remember 21 = .ok (.aload_n 0, 1) := by decide +kernel
theorem dX5_remember_22 : decode cX5_remember 22 = .ok (.getfield 17, 3) := by decide +kernel
theorem dX5_remember_25 : decode cX5_remember 25 = .ok (.aaload, 1) := by decide +kernel
theorem dX5_remember_26 : decode cX5_remember 26 = .ok (.aload_n 1, 1) := by decide +kernel
theorem dX5_remember_27 : decode cX5_remember 27 = .ok (.invokevirtual 25, 3) := by decide +kernel
theorem dX5_remember_30 : decode cX5_remember 30 = .ok (.aload_n 0, 1) := by decide +kernel
theorem dX5_remember_31 : decode cX5_remember 31 = .ok (.aload_n 0, 1) := by decide +kernel
theorem dX5_remember_32 : decode cX5_remember 32 = .ok (.getfield 17, 3) := by decide +kernel
theorem dX5_remember_35 : decode cX5_remember 35 = .ok (.iconst 1, 1) := by decide +kernel
theorem dX5_remember_36 : decode cX5_remember 36 = .ok (.iadd, 1) := by decide +kernel
theorem dX5_remember_37 : decode cX5_remember 37 = .ok (.bipush 12, 2) := by decide +kernel
theorem dX5_remember_39 : decode cX5_remember 39 = .ok (.if_icmp .ne 7, 3) := by decide +kernel
theorem dX5_remember_42 : decode cX5_remember 42 = .ok (.iconst 0, 1) := by decide +kernel
theorem dX5_remember_43 : decode cX5_remember 43 = .ok (.goto 9, 3) := by decide +kernel
theorem dX5_remember_46 : decode cX5_remember 46 = .ok (.aload_n 0, 1) := by decide +kernel
theorem dX5_remember_47 : decode cX5_remember 47 = .ok (.getfield 17, 3) := by decide +kernel
theorem dX5_remember_50 : decode cX5_remember 50 = .ok (.iconst 1, 1) := by decide +kernel
theorem dX5_remember_51 : decode cX5_remember 51 = .ok (.iadd, 1) := by decide +kernel
theorem dX5_remember_52 : decode cX5_remember 52 = .ok (.putfield 17, 3) := by decide +kernel
theorem dX5_remember_55 : decode cX5_remember 55 = .ok (.aload_n 0, 1) := by decide +kernel
theorem dX5_remember_56 : decode cX5_remember 56 = .ok (.aload_n 0, 1) := by decide +kernel
theorem dX5_remember_57 : decode cX5_remember 57 = .ok (.getfield 21, 3) := by decide +kernel
theorem dX5_remember_60 : decode cX5_remember 60 = .ok (.iconst 1, 1) := by decide +kernel
theorem dX5_remember_61 : decode cX5_remember 61 = .ok (.iadd, 1) := by decide +kernel
theorem dX5_remember_62 : decode cX5_remember 62 = .ok (.bipush 12, 2) := by decide +kernel
theorem dX5_remember_64 : decode cX5_remember 64 = .ok (.invokestatic 29, 3) := by decide +kernel
theorem dX5_remember_67 : decode cX5_remember 67 = .ok (.putfield 21, 3) := by decide +kernel
theorem dX5_remember_70 : decode cX5_remember 70 = .ok (.return_, 1) := by decide +kernel
theorem dX5_restore_0 : decode cX5_restore 0 = .ok (.aload_n 0, 1) := by decide +kernel
theorem dX5_restore_1 : decode cX5_restore 1 = .ok (.getfield 17, 3) := by decide +kernel
theorem dX5_restore_4 : decode cX5_restore 4 = .ok (.iload_n 2, 1) := by decide +kernel
theorem dX5_restore_5 : decode cX5_restore 5 = .ok (.isub, 1) := by decide +kernel
theorem dX5_restore_6 : decode cX5_restore 6 = .ok (.ifCond .ge 15, 3) := by decide +kernel
theorem dX5_restore_9 : decode cX5_restore 9 = .ok (.aload_n 0, 1) := by decide +kernel
theorem dX5_restore_10 : decode cX5_restore 10 = .ok (.getfield 17, 3) := by decide +kernel
theorem dX5_restore_13 : decode cX5_restore 13 = .ok (.iload_n 2, 1) := by decide +kernel
theorem dX5_restore_14 : decode cX5_restore 14 = .ok (.isub, 1) := by decide +kernel
theorem dX5_restore_15 : decode cX5_restore 15 = .ok (.bipush 12, 2) := by decide +kernel
theorem dX5_restore_17 : decode cX5_restore 17 = .ok (.iadd, 1) := by decide +kernel
theorem dX5_restore_18 : decode cX5_restore 18 = .ok (.goto 9, 3) := by decide +kernel
theorem dX5_restore_21 : decode cX5_restore 21 = .ok (.aload_n 0, 1) := by decide +kernel
theorem dX5_restore_22 : decode cX5_restore 22 = .ok (.getfield 17, 3) := by decide +kernel
theorem dX5_restore_25 : decode cX5_restore 25 = .ok (.iload_n 2, 1) := by decide +kernel
theorem dX5_restore_26 : decode cX5_restore 26 = .ok (.isub, 1) := by decide +kernel
theorem dX5_restore_27 : decode cX5_restore 27 = .ok (.istore_n 3, 1) := by decide +kernel
theorem dX5_restore_28 : decode cX5_restore 28 = .ok (.iload_n 2, 1) := by decide +kernel
theorem dX5_restore_29 : decode cX5_restore 29 = .ok (.aload_n 0, 1) := by decide +kernel
theorem dX5_restore_30 : decode cX5_restore 30 = .ok (.getfield 21, 3) := by decide +kernel
theorem dX5_restore_33 : decode cX5_restore 33 = .ok (.if_icmp .gt 13, 3) := by decide +kernel
theorem dX5_restore_36 : decode cX5_restore 36 = .ok (.iload_n 3, 1) := by decide +kernel
theorem dX5_restore_37 : decode cX5_restore 37 = .ok (.ifCond .lt 9, 3) := by decide +kernel
theorem dX5_restore_40 : decode cX5_restore 40 = .ok (.iload_n 3, 1) := by decide +kernel
theorem dX5_restore_41 : decode cX5_restore 41 = .ok (.bipush 12, 2) := by decide +kernel
theorem dX5_restore_43 : decode cX5_restore 43 = .ok (.if_icmp .lt 4, 3) := by decide +kernel
theorem dX5_restore_46 : decode cX5_restore 46 = .ok (.return_, 1) := by decide +kernel
theorem dX5_restore_47 : decode cX5_restore 47 = .ok (.aload_n 1, 1) := by decide +kernel
theorem dX5_restore_48 : decode cX5_restore 48 = .ok (.aload_n 0, 1) := by decide +kernel
theorem dX5_restore_49 : decode cX5_restore 49 = .ok (.getfield 11, 3) := by decide +kernel
theorem dX5_restore_52 : decode cX5_restore 52 = .ok (.iload_n 3, 1) := by decide +kernel
theorem dX5_restore_53 : decode cX5_restore 53 = .ok (.aaload, 1) := by decide +kernel
theorem dX5_restore_54 : decode cX5_restore 54 = .ok (.invokevirtual 25, 3) := by decide +kernel
theorem dX5_restore_57 : decode cX5_restore 57 = .ok (.aload_n 0, 1) := by decide +kernel
theorem dX5_restore_58 : decode cX5_restore 58 = .ok (.iload_n 3, 1) := by decide +kernel
theorem dX5_restore_59 : decode cX5_restore 59 = .ok (.putfield 17, 3) := by decide +kernel
theorem dX5_restore_62 : decode cX5_restore 62 = .ok (.aload_n 0, 1) := by decide +kernel
theorem dX5_restore_63 : decode cX5_restore 63 = .ok (.dup, 1) := by decide +kernel
theorem dX5_restore_64 : decode cX5_restore 64 = .ok (.getfield 21, 3) := by decide +kernel
theorem dX5_restore_67 : decode cX5_restore 67 = .ok (.iload_n 2, 1) := by decide +kernel
theorem dX5_restore_68 : decode cX5_restore 68 = .ok (.isub, 1) := by decide +kernel
theorem dX5_restore_69 : decode cX5_restore 69 = .ok (.putfield 21, 3) := by decide +kernel
theorem dX5_restore_72 : decode cX5_restore 72 = .ok (.return_, 1) := by decide +kernel
theorem dX5_forget_0 : decode cX5_forget 0 = .ok (.aload_n 0, 1) := by decide +kernel
theorem dX5_forget_1 : decode cX5_forget 1 = .ok (.iconst 0, 1) := by decide +kernel
theorem dX5_forget_2 : decode cX5_forget 2 = .ok (.putfield 21, 3) := by decide +kernel
theorem dX5_forget_5 : decode cX5_forget 5 = .ok (.return_, 1) := by decide +kernel
theorem dX6_isFrom_0 : decode cX6_isFrom 0 = .ok (.aload_n 0, 1) := by decide +kernel
theorem dX6_isFrom_1 : decode cX6_isFrom 1 = .ok (.iload_n 1, 1) := by decide +kernel
theorem dX6_isFrom_2 : decode cX6_isFrom 2 = .ok (.invokevirtual 9, 3) := by decide +kernel
theorem dX6_isFrom_5 : decode cX6_isFrom 5 = .ok (.istore 4, 2) := by decide +kernel
theorem dX6_isFrom_7 : decode cX6_isFrom 7 = .ok (.iload 4, 2) := by decide +kernel
theorem dX6_isFrom_9 : decode cX6_isFrom 9 = .ok (.iconst (-1), 1) := by decide +kernel
theorem dX6_isFrom_10 : decode cX6_isFrom 10 = .ok (.if_icmp .eq 19, 3) := by decide +kernel
theorem dX6_isFrom_13 : decode cX6_isFrom 13 = .ok (.iload 4, 2) := by decide +kernel
theorem dX6_isFrom_15 : decode cX6_isFrom 15 = .ok (.iload_n 2, 1) := by decide +kernel
theorem dX6_isFrom_16 : decode cX6_isFrom 16 = .ok (.if_icmp .lt 13, 3) := by decide +kernel
theorem dX6_isFrom_19 : decode cX6_isFrom 19 = .ok (.iload 4, 2) := by decide +kernel
theorem dX6_isFrom_21 : decode cX6_isFrom 21 = .ok (.iload_n 3, 1) := by decide +kernel
theorem dX6_isFrom_22 : decode cX6_isFrom 22 = .ok (.if_icmp .gt 7, 3) := by decide +kernel
theorem dX6_isFrom_25 : decode cX6_isFrom 25 = .ok (.iconst 1, 1) := by decide +kernel
theorem dX6_isFrom_26 : decode cX6_isFrom 26 = .ok (.goto 4, 3) := by decide +kernel
theorem dX6_isFrom_29 : decode cX6_isFrom 29 = .ok (.iconst 0, 1) := by decide +kernel
theorem dX6_isFrom_30 : decode cX6_isFrom 30 = .ok (.ireturn, 1) := by decide +kernel
theorem dX6_howManyFrom_0 : decode cX6_howManyFrom 0 = .ok (.iconst 0, 1) := by decide +kernel
theorem dX6_howManyFrom_1 : decode cX6_howManyFrom 1 = .ok (.istore_n 3, 1) := by decide +kernel
theorem dX6_howManyFrom_2 : decode cX6_howManyFrom 2 = .ok (.iconst 0, 1) := by decide +kernel
theorem dX6_howManyFrom_3 : decode cX6_howManyFrom 3 = .ok (.istore 4, 2) := by decide +kernel
theorem dX6_howManyFrom_5 : decode cX6_howManyFrom 5 = .ok (.iload 4, 2) := by decide +kernel
theorem dX6_howManyFrom_7 : decode cX6_howManyFrom 7 = .ok (.bipush 60, 2) := by decide +kernel
theorem dX6_howManyFrom_9 : decode cX6_howManyFrom 9 = .ok (.if_icmp .ge 23, 3) := by decide +kernel
theorem dX6_howManyFrom_12 : decode cX6_howManyFrom 12 = .ok (.aload_n 0, 1) := by decide +kernel
theorem dX6_howManyFrom_13 : decode cX6_howManyFrom 13 = .ok (.iload 4, 2) := by decide +kernel
theorem dX6_howManyFrom_15 : decode cX6_howManyFrom 15 = .ok (.iload_n 1, 1) := by decide +kernel
theorem dX6_howManyFrom_16 : decode cX6_howManyFrom 16 = .ok (.iload_n 2, 1) := by decide +kernel
theorem dX6_howManyFrom_17 : decode cX6_howManyFrom 17 = .ok (.invokestatic 15, 3) := by decide +kernel
theorem dX6_howManyFrom_20 : decode cX6_howManyFrom 20 = .ok (.ifCond .eq 6, 3) := by decide +kernel
theorem dX6_howManyFrom_23 : decode cX6_howManyFrom 23 = .ok (.iinc 3 1, 3) := by decide +kernel
theorem dX6_howManyFrom_26 : decode cX6_howManyFrom 26 = .ok (.iinc 4 1, 3) := by decide +kernel
theorem dX6_howManyFrom_29 : decode cX6_howManyFrom 29 = .ok (.goto (-24), 3) := by decide +kernel
theorem dX6_howManyFrom_32 : decode cX6_howManyFrom 32 = .ok (.iload_n 3, 1) := by decide +kernel
theorem dX6_howManyFrom_33 : decode cX6_howManyFrom 33 = .ok (.ireturn, 1) := by decide +kernel
theorem dX6_worthFrom_0 : decode cX6_worthFrom 0 = .ok (.iconst 0, 1) := by decide +kernel
theorem dX6_worthFrom_1 : decode cX6_worthFrom 1 = .ok (.istore_n 3, 1) := by decide +kernel
theorem dX6_worthFrom_2 : decode cX6_worthFrom 2 = .ok (.iconst 0, 1) := by decide +kernel
theorem dX6_worthFrom_3 : decode cX6_worthFrom 3 = .ok (.istore 4, 2) := by decide +kernel
theorem dX6_worthFrom_5 : decode cX6_worthFrom 5 = .ok (.iload 4, 2) := by decide +kernel
theorem dX6_worthFrom_7 : decode cX6_worthFrom 7 = .ok (.bipush 60, 2) := by decide +kernel
theorem dX6_worthFrom_9 : decode cX6_worthFrom 9 = .ok (.if_icmp .ge 29, 3) := by decide +kernel
theorem dX6_worthFrom_12 : decode cX6_worthFrom 12 = .ok (.aload_n 0, 1) := by decide +kernel
theorem dX6_worthFrom_13 : decode cX6_worthFrom 13 = .ok (.iload 4, 2) := by decide +kernel
theorem dX6_worthFrom_15 : decode cX6_worthFrom 15 = .ok (.iload_n 1, 1) := by decide +kernel
theorem dX6_worthFrom_16 : decode cX6_worthFrom 16 = .ok (.iload_n 2, 1) := by decide +kernel
theorem dX6_worthFrom_17 : decode cX6_worthFrom 17 = .ok (.invokestatic 15, 3) := by decide +kernel
theorem dX6_worthFrom_20 : decode cX6_worthFrom 20 = .ok (.ifCond .eq 12, 3) := by decide +kernel
theorem dX6_worthFrom_23 : decode cX6_worthFrom 23 = .ok (.iload_n 3, 1) := by decide +kernel
theorem dX6_worthFrom_24 : decode cX6_worthFrom 24 = .ok (.aload_n 0, 1) := by decide +kernel
theorem dX6_worthFrom_25 : decode cX6_worthFrom 25 = .ok (.iload 4, 2) := by decide +kernel
theorem dX6_worthFrom_27 : decode cX6_worthFrom 27 = .ok (.invokevirtual 21, 3) := by decide +kernel
theorem dX6_worthFrom_30 : decode cX6_worthFrom 30 = .ok (.iadd, 1) := by decide +kernel
theorem dX6_worthFrom_31 : decode cX6_worthFrom 31 = .ok (.istore_n 3, 1) := by decide +kernel
theorem dX6_worthFrom_32 : decode cX6_worthFrom 32 = .ok (.iinc 4 1, 3) := by decide +kernel
theorem dX6_worthFrom_35 : decode cX6_worthFrom 35 = .ok (.goto (-30), 3) := by decide +kernel
theorem dX6_worthFrom_38 : decode cX6_worthFrom 38 = .ok (.iload_n 3, 1) := by decide +kernel
theorem dX6_worthFrom_39 : decode cX6_worthFrom 39 = .ok (.ireturn, 1) := by decide +kernel
theorem dX6_mostWorthFrom_0 : decode cX6_mostWorthFrom 0 = .ok (.iconst (-1), 1) := by decide +kernel
theorem dX6_mostWorthFrom_1 : decode cX6_mostWorthFrom 1 = .ok (.istore_n 3, 1) := by decide +kernel
theorem dX6_mostWorthFrom_2 : decode cX6_mostWorthFrom 2 = .ok (.iconst 0, 1) := by decide +kernel
theorem dX6_mostWorthFrom_3 : decode cX6_mostWorthFrom 3 = .ok (.istore 4, 2) := by decide +kernel
theorem dX6_mostWorthFrom_5 : decode cX6_mostWorthFrom 5 = .ok (.iload 4, 2) := by decide +kernel
theorem dX6_mostWorthFrom_7 : decode cX6_mostWorthFrom 7 = .ok (.bipush 60, 2) := by decide +kernel
theorem dX6_mostWorthFrom_9 : decode cX6_mostWorthFrom 9 = .ok (.if_icmp .ge 38, 3) := by decide +kernel
theorem dX6_mostWorthFrom_12 : decode cX6_mostWorthFrom 12 = .ok (.aload_n 0, 1) := by decide +kernel
theorem dX6_mostWorthFrom_13 : decode cX6_mostWorthFrom 13 = .ok (.iload 4, 2) := by decide +kernel
theorem dX6_mostWorthFrom_15 : decode cX6_mostWorthFrom 15 = .ok (.iload_n 1, 1) := by decide +kernel
theorem dX6_mostWorthFrom_16 : decode cX6_mostWorthFrom 16 = .ok (.iload_n 2, 1) := by decide +kernel
theorem dX6_mostWorthFrom_17 : decode cX6_mostWorthFrom 17 = .ok (.invokestatic 15, 3) := by decide +kernel
theorem dX6_mostWorthFrom_20 : decode cX6_mostWorthFrom 20 = .ok (.ifCond .eq 21, 3) := by decide +kernel
theorem dX6_mostWorthFrom_23 : decode cX6_mostWorthFrom 23 = .ok (.iload_n 3, 1) := by decide +kernel
theorem dX6_mostWorthFrom_24 : decode cX6_mostWorthFrom 24 = .ok (.iconst (-1), 1) := by decide +kernel
theorem dX6_mostWorthFrom_25 : decode cX6_mostWorthFrom 25 = .ok (.if_icmp .eq 13, 3) := by decide +kernel
theorem dX6_mostWorthFrom_28 : decode cX6_mostWorthFrom 28 = .ok (.aload_n 0, 1) := by decide +kernel
theorem dX6_mostWorthFrom_29 : decode cX6_mostWorthFrom 29 = .ok (.iload 4, 2) := by decide +kernel
theorem dX6_mostWorthFrom_31 : decode cX6_mostWorthFrom 31 = .ok (.iload_n 3, 1) := by decide +kernel
theorem dX6_mostWorthFrom_32 : decode cX6_mostWorthFrom 32 = .ok (.invokestatic 24, 3) := by decide +kernel
theorem dX6_mostWorthFrom_35 : decode cX6_mostWorthFrom 35 = .ok (.ifCond .eq 6, 3) := by decide +kernel
theorem dX6_mostWorthFrom_38 : decode cX6_mostWorthFrom 38 = .ok (.iload 4, 2) := by decide +kernel
theorem dX6_mostWorthFrom_40 : decode cX6_mostWorthFrom 40 = .ok (.istore_n 3, 1) := by decide +kernel
theorem dX6_mostWorthFrom_41 : decode cX6_mostWorthFrom 41 = .ok (.iinc 4 1, 3) := by decide +kernel
theorem dX6_mostWorthFrom_44 : decode cX6_mostWorthFrom 44 = .ok (.goto (-39), 3) := by decide +kernel
theorem dX6_mostWorthFrom_47 : decode cX6_mostWorthFrom 47 = .ok (.aload_n 0, 1) := by decide +kernel
theorem dX6_mostWorthFrom_48 : decode cX6_mostWorthFrom 48 = .ok (.iload_n 3, 1) := by decide +kernel
theorem dX6_mostWorthFrom_49 : decode cX6_mostWorthFrom 49 = .ok (.invokevirtual 9, 3) := by decide +kernel
theorem dX6_mostWorthFrom_52 : decode cX6_mostWorthFrom 52 = .ok (.ireturn, 1) := by decide +kernel
theorem dX6_isWorthier_0 : decode cX6_isWorthier 0 = .ok (.aload_n 0, 1) := by decide +kernel
theorem dX6_isWorthier_1 : decode cX6_isWorthier 1 = .ok (.iload_n 1, 1) := by decide +kernel
theorem dX6_isWorthier_2 : decode cX6_isWorthier 2 = .ok (.invokevirtual 21, 3) := by decide +kernel
theorem dX6_isWorthier_5 : decode cX6_isWorthier 5 = .ok (.aload_n 0, 1) := by decide +kernel
theorem dX6_isWorthier_6 : decode cX6_isWorthier 6 = .ok (.iload_n 2, 1) := by decide +kernel
theorem dX6_isWorthier_7 : decode cX6_isWorthier 7 = .ok (.invokevirtual 21, 3) := by decide +kernel
theorem dX6_isWorthier_10 : decode cX6_isWorthier 10 = .ok (.if_icmp .eq 22, 3) := by decide +kernel
theorem dX6_isWorthier_13 : decode cX6_isWorthier 13 = .ok (.aload_n 0, 1) := by decide +kernel
theorem dX6_isWorthier_14 : decode cX6_isWorthier 14 = .ok (.iload_n 1, 1) := by decide +kernel
theorem dX6_isWorthier_15 : decode cX6_isWorthier 15 = .ok (.invokevirtual 21, 3) := by decide +kernel
theorem dX6_isWorthier_18 : decode cX6_isWorthier 18 = .ok (.aload_n 0, 1) := by decide +kernel
theorem dX6_isWorthier_19 : decode cX6_isWorthier 19 = .ok (.iload_n 2, 1) := by decide +kernel
theorem dX6_isWorthier_20 : decode cX6_isWorthier 20 = .ok (.invokevirtual 21, 3) := by decide +kernel
theorem dX6_isWorthier_23 : decode cX6_isWorthier 23 = .ok (.if_icmp .le 7, 3) := by decide +kernel
theorem dX6_isWorthier_26 : decode cX6_isWorthier 26 = .ok (.iconst 1, 1) := by decide +kernel
theorem dX6_isWorthier_27 : decode cX6_isWorthier 27 = .ok (.goto 4, 3) := by decide +kernel
theorem dX6_isWorthier_30 : decode cX6_isWorthier 30 = .ok (.iconst 0, 1) := by decide +kernel
theorem dX6_isWorthier_31 : decode cX6_isWorthier 31 = .ok (.ireturn, 1) := by decide +kernel
theorem dX6_isWorthier_32 : decode cX6_isWorthier 32 = .ok (.aload_n 0, 1) := by decide +kernel
theorem dX6_isWorthier_33 : decode cX6_isWorthier 33 = .ok (.iload_n 1, 1) := by decide +kernel
theorem dX6_isWorthier_34 : decode cX6_isWorthier 34 = .ok (.invokevirtual 9, 3) := by decide +kernel
theorem dX6_isWorthier_37 : decode cX6_isWorthier 37 = .ok (.aload_n 0, 1) := by decide +kernel
theorem dX6_isWorthier_38 : decode cX6_isWorthier 38 = .ok (.iload_n 2, 1) := by decide +kernel
theorem dX6_isWorthier_39 : decode cX6_isWorthier 39 = .ok (.invokevirtual 9, 3) := by decide +kernel
theorem dX6_isWorthier_42 : decode cX6_isWorthier 42 = .ok (.if_icmp .ge 7, 3) := by decide +kernel
theorem dX6_isWorthier_45 : decode cX6_isWorthier 45 = .ok (.iconst 1, 1) := by decide +kernel
theorem dX6_isWorthier_46 : decode cX6_isWorthier 46 = .ok (.goto 4, 3) := by decide +kernel
theorem dX6_isWorthier_49 : decode cX6_isWorthier 49 = .ok (.iconst 0, 1) := by decide +kernel
theorem dX6_isWorthier_50 : decode cX6_isWorthier 50 = .ok (.ireturn, 1) := by decide +kernel
theorem dX6_howManyLess_0 : decode cX6_howManyLess 0 = .ok (.iconst 0, 1) := by decide +kernel
theorem dX6_howManyLess_1 : decode cX6_howManyLess 1 = .ok (.istore_n 2, 1) := by decide +kernel
theorem dX6_howManyLess_2 : decode cX6_howManyLess 2 = .ok (.iconst 0, 1) := by decide +kernel
theorem dX6_howManyLess_3 : decode cX6_howManyLess 3 = .ok (.istore_n 3, 1) := by decide +kernel
theorem dX6_howManyLess_4 : decode cX6_howManyLess 4 = .ok (.iload_n 3, 1) := by decide +kernel
theorem dX6_howManyLess_5 : decode cX6_howManyLess 5 = .ok (.bipush 60, 2) := by decide +kernel
theorem dX6_howManyLess_7 : decode cX6_howManyLess 7 = .ok (.if_icmp .ge 30, 3) := by decide +kernel
theorem dX6_howManyLess_10 : decode cX6_howManyLess 10 = .ok (.aload_n 0, 1) := by decide +kernel
theorem dX6_howManyLess_11 : decode cX6_howManyLess 11 = .ok (.iload_n 3, 1) := by decide +kernel
theorem dX6_howManyLess_12 : decode cX6_howManyLess 12 = .ok (.invokevirtual 9, 3) := by decide +kernel
theorem dX6_howManyLess_15 : decode cX6_howManyLess 15 = .ok (.iconst (-1), 1) := by decide +kernel
theorem dX6_howManyLess_16 : decode cX6_howManyLess 16 = .ok (.if_icmp .eq 15, 3) := by decide +kernel
theorem dX6_howManyLess_19 : decode cX6_howManyLess 19 = .ok (.aload_n 0, 1) := by decide +kernel
theorem dX6_howManyLess_20 : decode cX6_howManyLess 20 = .ok (.iload_n 3, 1) := by decide +kernel
theorem dX6_howManyLess_21 : decode cX6_howManyLess 21 = .ok (.invokevirtual 9, 3) := by decide +kernel
theorem dX6_howManyLess_24 : decode cX6_howManyLess 24 = .ok (.iload_n 1, 1) := by decide +kernel
theorem dX6_howManyLess_25 : decode cX6_howManyLess 25 = .ok (.if_icmp .ge 6, 3) := by decide +kernel
theorem dX6_howManyLess_28 : decode cX6_howManyLess 28 = .ok (.iinc 2 1, 3) := by decide +kernel
theorem dX6_howManyLess_31 : decode cX6_howManyLess 31 = .ok (.iinc 3 1, 3) := by decide +kernel
theorem dX6_howManyLess_34 : decode cX6_howManyLess 34 = .ok (.goto (-30), 3) := by decide +kernel
theorem dX6_howManyLess_37 : decode cX6_howManyLess 37 = .ok (.iload_n 2, 1) := by decide +kernel
theorem dX6_howManyLess_38 : decode cX6_howManyLess 38 = .ok (.ireturn, 1) := by decide +kernel
theorem dX6_greatestLess_0 : decode cX6_greatestLess 0 = .ok (.iconst (-1), 1) := by decide +kernel
theorem dX6_greatestLess_1 : decode cX6_greatestLess 1 = .ok (.istore_n 2, 1) := by decide +kernel
theorem dX6_greatestLess_2 : decode cX6_greatestLess 2 = .ok (.aload_n 0, 1) := by decide +kernel
theorem dX6_greatestLess_3 : decode cX6_greatestLess 3 = .ok (.getfield 28, 3) := by decide +kernel
theorem dX6_greatestLess_6 : decode cX6_greatestLess 6 = .ok (.istore_n 3, 1) := by decide +kernel
theorem dX6_greatestLess_7 : decode cX6_greatestLess 7 = .ok (.iconst 0, 1) := by decide +kernel
theorem dX6_greatestLess_8 : decode cX6_greatestLess 8 = .ok (.istore 4, 2) := by decide +kernel
theorem dX6_greatestLess_10 : decode cX6_greatestLess 10 = .ok (.iload 4, 2) := by decide +kernel
theorem dX6_greatestLess_12 : decode cX6_greatestLess 12 = .ok (.bipush 60, 2) := by decide +kernel
theorem dX6_greatestLess_14 : decode cX6_greatestLess 14 = .ok (.if_icmp .ge 57, 3) := by decide +kernel
theorem dX6_greatestLess_17 : decode cX6_greatestLess 17 = .ok (.iload_n 3, 1) := by decide +kernel
theorem dX6_greatestLess_18 : decode cX6_greatestLess 18 = .ok (.iconst (-1), 1) := by decide +kernel
theorem dX6_greatestLess_19 : decode cX6_greatestLess 19 = .ok (.if_icmp .eq 52, 3) := by decide +kernel
theorem dX6_greatestLess_22 : decode cX6_greatestLess 22 = .ok (.aload_n 0, 1) := by decide +kernel
theorem dX6_greatestLess_23 : decode cX6_greatestLess 23 = .ok (.iload_n 3, 1) := by decide +kernel
theorem dX6_greatestLess_24 : decode cX6_greatestLess 24 = .ok (.invokevirtual 9, 3) := by decide +kernel
theorem dX6_greatestLess_27 : decode cX6_greatestLess 27 = .ok (.iload_n 1, 1) := by decide +kernel
theorem dX6_greatestLess_28 : decode cX6_greatestLess 28 = .ok (.if_icmp .ge 7, 3) := by decide +kernel
theorem dX6_greatestLess_31 : decode cX6_greatestLess 31 = .ok (.iconst 1, 1) := by decide +kernel
theorem dX6_greatestLess_32 : decode cX6_greatestLess 32 = .ok (.goto 4, 3) := by decide +kernel
theorem dX6_greatestLess_35 : decode cX6_greatestLess 35 = .ok (.iconst 0, 1) := by decide +kernel
theorem dX6_greatestLess_36 : decode cX6_greatestLess 36 = .ok (.istore 5, 2) := by decide +kernel
theorem dX6_greatestLess_38 : decode cX6_greatestLess 38 = .ok (.iload 5, 2) := by decide +kernel
theorem dX6_greatestLess_40 : decode cX6_greatestLess 40 = .ok (.ifCond .eq 9, 3) := by decide +kernel
theorem dX6_greatestLess_43 : decode cX6_greatestLess 43 = .ok (.aload_n 0, 1) := by decide +kernel
theorem dX6_greatestLess_44 : decode cX6_greatestLess 44 = .ok (.iload_n 3, 1) := by decide +kernel
theorem dX6_greatestLess_45 : decode cX6_greatestLess 45 = .ok (.invokevirtual 9, 3) := by decide +kernel
theorem dX6_greatestLess_48 : decode cX6_greatestLess 48 = .ok (.istore_n 2, 1) := by decide +kernel
theorem dX6_greatestLess_49 : decode cX6_greatestLess 49 = .ok (.aload_n 0, 1) := by decide +kernel
theorem dX6_greatestLess_50 : decode cX6_greatestLess 50 = .ok (.iload_n 3, 1) := by decide +kernel
theorem dX6_greatestLess_51 : decode cX6_greatestLess 51 = .ok (.iload 5, 2) := by decide +kernel
theorem dX6_greatestLess_53 : decode cX6_greatestLess 53 = .ok (.ifCond .ne 7, 3) := by decide +kernel
theorem dX6_greatestLess_56 : decode cX6_greatestLess 56 = .ok (.iconst 1, 1) := by decide +kernel
theorem dX6_greatestLess_57 : decode cX6_greatestLess 57 = .ok (.goto 4, 3) := by decide +kernel
theorem dX6_greatestLess_60 : decode cX6_greatestLess 60 = .ok (.iconst 0, 1) := by decide +kernel
theorem dX6_greatestLess_61 : decode cX6_greatestLess 61 = .ok (.invokevirtual 32, 3) := by decide +kernel
theorem dX6_greatestLess_64 : decode cX6_greatestLess 64 = .ok (.istore_n 3, 1) := by decide +kernel
theorem dX6_greatestLess_65 : decode cX6_greatestLess 65 = .ok (.iinc 4 1, 3) := by decide +kernel
theorem dX6_greatestLess_68 : decode cX6_greatestLess 68 = .ok (.goto (-58), 3) := by decide +kernel
theorem dX6_greatestLess_71 : decode cX6_greatestLess 71 = .ok (.iload_n 2, 1) := by decide +kernel
theorem dX6_greatestLess_72 : decode cX6_greatestLess 72 = .ok (.ireturn, 1) := by decide +kernel
theorem dX6_leastGreater_0 : decode cX6_leastGreater 0 = .ok (.iconst (-1), 1) := by decide +kernel
theorem dX6_leastGreater_1 : decode cX6_leastGreater 1 = .ok (.istore_n 2, 1) := by decide +kernel
theorem dX6_leastGreater_2 : decode cX6_leastGreater 2 = .ok (.aload_n 0, 1) := by decide +kernel
theorem dX6_leastGreater_3 : decode cX6_leastGreater 3 = .ok (.getfield 28, 3) := by decide +kernel
theorem dX6_leastGreater_6 : decode cX6_leastGreater 6 = .ok (.istore_n 3, 1) := by decide +kernel
theorem dX6_leastGreater_7 : decode cX6_leastGreater 7 = .ok (.iconst 0, 1) := by decide +kernel
theorem dX6_leastGreater_8 : decode cX6_leastGreater 8 = .ok (.istore 4, 2) := by decide +kernel
theorem dX6_leastGreater_10 : decode cX6_leastGreater 10 = .ok (.iload 4, 2) := by decide +kernel
theorem dX6_leastGreater_12 : decode cX6_leastGreater 12 = .ok (.bipush 60, 2) := by decide +kernel
theorem dX6_leastGreater_14 : decode cX6_leastGreater 14 = .ok (.if_icmp .ge 49, 3) := by decide +kernel
theorem dX6_leastGreater_17 : decode cX6_leastGreater 17 = .ok (.iload_n 3, 1) := by decide +kernel
theorem dX6_leastGreater_18 : decode cX6_leastGreater 18 = .ok (.iconst (-1), 1) := by decide +kernel
theorem dX6_leastGreater_19 : decode cX6_leastGreater 19 = .ok (.if_icmp .eq 44, 3) := by decide +kernel
theorem dX6_leastGreater_22 : decode cX6_leastGreater 22 = .ok (.aload_n 0, 1) := by decide +kernel
theorem dX6_leastGreater_23 : decode cX6_leastGreater 23 = .ok (.iload_n 3, 1) := by decide +kernel
theorem dX6_leastGreater_24 : decode cX6_leastGreater 24 = .ok (.invokevirtual 9, 3) := by decide +kernel
theorem dX6_leastGreater_27 : decode cX6_leastGreater 27 = .ok (.iload_n 1, 1) := by decide +kernel
theorem dX6_leastGreater_28 : decode cX6_leastGreater 28 = .ok (.if_icmp .le 7, 3) := by decide +kernel
theorem dX6_leastGreater_31 : decode cX6_leastGreater 31 = .ok (.iconst 1, 1) := by decide +kernel
theorem dX6_leastGreater_32 : decode cX6_leastGreater 32 = .ok (.goto 4, 3) := by decide +kernel
theorem dX6_leastGreater_35 : decode cX6_leastGreater 35 = .ok (.iconst 0, 1) := by decide +kernel
theorem dX6_leastGreater_36 : decode cX6_leastGreater 36 = .ok (.istore 5, 2) := by decide +kernel
theorem dX6_leastGreater_38 : decode cX6_leastGreater 38 = .ok (.iload 5, 2) := by decide +kernel
theorem dX6_leastGreater_40 : decode cX6_leastGreater 40 = .ok (.ifCond .eq 9, 3) := by decide +kernel
theorem dX6_leastGreater_43 : decode cX6_leastGreater 43 = .ok (.aload_n 0, 1) := by decide +kernel
theorem dX6_leastGreater_44 : decode cX6_leastGreater 44 = .ok (.iload_n 3, 1) := by decide +kernel
theorem dX6_leastGreater_45 : decode cX6_leastGreater 45 = .ok (.invokevirtual 9, 3) := by decide +kernel
theorem dX6_leastGreater_48 : decode cX6_leastGreater 48 = .ok (.istore_n 2, 1) := by decide +kernel
theorem dX6_leastGreater_49 : decode cX6_leastGreater 49 = .ok (.aload_n 0, 1) := by decide +kernel
theorem dX6_leastGreater_50 : decode cX6_leastGreater 50 = .ok (.iload_n 3, 1) := by decide +kernel
theorem dX6_leastGreater_51 : decode cX6_leastGreater 51 = .ok (.iload 5, 2) := by decide +kernel
theorem dX6_leastGreater_53 : decode cX6_leastGreater 53 = .ok (.invokevirtual 32, 3) := by decide +kernel
theorem dX6_leastGreater_56 : decode cX6_leastGreater 56 = .ok (.istore_n 3, 1) := by decide +kernel
theorem dX6_leastGreater_57 : decode cX6_leastGreater 57 = .ok (.iinc 4 1, 3) := by decide +kernel
theorem dX6_leastGreater_60 : decode cX6_leastGreater 60 = .ok (.goto (-50), 3) := by decide +kernel
theorem dX6_leastGreater_63 : decode cX6_leastGreater 63 = .ok (.iload_n 2, 1) := by decide +kernel
theorem dX6_leastGreater_64 : decode cX6_leastGreater 64 = .ok (.ireturn, 1) := by decide +kernel
theorem dX6_howManyBelow_0 : decode cX6_howManyBelow 0 = .ok (.aload_n 0, 1) := by decide +kernel
theorem dX6_howManyBelow_1 : decode cX6_howManyBelow 1 = .ok (.aload_n 0, 1) := by decide +kernel
theorem dX6_howManyBelow_2 : decode cX6_howManyBelow 2 = .ok (.iload_n 1, 1) := by decide +kernel
theorem dX6_howManyBelow_3 : decode cX6_howManyBelow 3 = .ok (.invokevirtual 36, 3) := by decide +kernel
theorem dX6_howManyBelow_6 : decode cX6_howManyBelow 6 = .ok (.invokevirtual 9, 3) := by decide +kernel
theorem dX6_howManyBelow_9 : decode cX6_howManyBelow 9 = .ok (.istore_n 2, 1) := by decide +kernel
theorem dX6_howManyBelow_10 : decode cX6_howManyBelow 10 = .ok (.aload_n 0, 1) := by decide +kernel
theorem dX6_howManyBelow_11 : decode cX6_howManyBelow 11 = .ok (.aload_n 0, 1) := by decide +kernel
theorem dX6_howManyBelow_12 : decode cX6_howManyBelow 12 = .ok (.iload_n 1, 1) := by decide +kernel
theorem dX6_howManyBelow_13 : decode cX6_howManyBelow 13 = .ok (.invokevirtual 39, 3) := by decide +kernel
theorem dX6_howManyBelow_16 : decode cX6_howManyBelow 16 = .ok (.invokevirtual 9, 3) := by decide +kernel
theorem dX6_howManyBelow_19 : decode cX6_howManyBelow 19 = .ok (.istore_n 3, 1) := by decide +kernel
theorem dX6_howManyBelow_20 : decode cX6_howManyBelow 20 = .ok (.aload_n 0, 1) := by decide +kernel
theorem dX6_howManyBelow_21 : decode cX6_howManyBelow 21 = .ok (.iload_n 2, 1) := by decide +kernel
theorem dX6_howManyBelow_22 : decode cX6_howManyBelow 22 = .ok (.iload_n 3, 1) := by decide +kernel
theorem dX6_howManyBelow_23 : decode cX6_howManyBelow 23 = .ok (.invokestatic 42, 3) := by decide +kernel
theorem dX6_howManyBelow_26 : decode cX6_howManyBelow 26 = .ok (.ireturn, 1) := by decide +kernel
theorem dX6_depth_0 : decode cX6_depth 0 = .ok (.iconst 0, 1) := by decide +kernel
theorem dX6_depth_1 : decode cX6_depth 1 = .ok (.istore_n 1, 1) := by decide +kernel
theorem dX6_depth_2 : decode cX6_depth 2 = .ok (.iconst 0, 1) := by decide +kernel
theorem dX6_depth_3 : decode cX6_depth 3 = .ok (.istore_n 2, 1) := by decide +kernel
theorem dX6_depth_4 : decode cX6_depth 4 = .ok (.iload_n 2, 1) := by decide +kernel
theorem dX6_depth_5 : decode cX6_depth 5 = .ok (.bipush 60, 2) := by decide +kernel
theorem dX6_depth_7 : decode cX6_depth 7 = .ok (.if_icmp .ge 30, 3) := by decide +kernel
theorem dX6_depth_10 : decode cX6_depth 10 = .ok (.aload_n 0, 1) := by decide +kernel
theorem dX6_depth_11 : decode cX6_depth 11 = .ok (.iload_n 2, 1) := by decide +kernel
theorem dX6_depth_12 : decode cX6_depth 12 = .ok (.invokevirtual 9, 3) := by decide +kernel
theorem dX6_depth_15 : decode cX6_depth 15 = .ok (.iconst (-1), 1) := by decide +kernel
theorem dX6_depth_16 : decode cX6_depth 16 = .ok (.if_icmp .eq 15, 3) := by decide +kernel
theorem dX6_depth_19 : decode cX6_depth 19 = .ok (.iload_n 1, 1) := by decide +kernel
theorem dX6_depth_20 : decode cX6_depth 20 = .ok (.aload_n 0, 1) := by decide +kernel
theorem dX6_depth_21 : decode cX6_depth 21 = .ok (.iload_n 2, 1) := by decide +kernel
theorem dX6_depth_22 : decode cX6_depth 22 = .ok (.invokevirtual 46, 3) := by decide +kernel
theorem dX6_depth_25 : decode cX6_depth 25 = .ok (.iconst 1, 1) := by decide +kernel
theorem dX6_depth_26 : decode cX6_depth 26 = .ok (.iadd, 1) := by decide +kernel
theorem dX6_depth_27 : decode cX6_depth 27 = .ok (.invokestatic 49, 3) := by decide +kernel
theorem dX6_depth_30 : decode cX6_depth 30 = .ok (.istore_n 1, 1) := by decide +kernel
theorem dX6_depth_31 : decode cX6_depth 31 = .ok (.iinc 2 1, 3) := by decide +kernel
theorem dX6_depth_34 : decode cX6_depth 34 = .ok (.goto (-30), 3) := by decide +kernel
theorem dX6_depth_37 : decode cX6_depth 37 = .ok (.iload_n 1, 1) := by decide +kernel
theorem dX6_depth_38 : decode cX6_depth 38 = .ok (.ireturn, 1) := by decide +kernel
theorem dX6_ranksTogether_0 : decode cX6_ranksTogether 0 = .ok (.iconst 0, 1) := by decide +kernel
theorem dX6_ranksTogether_1 : decode cX6_ranksTogether 1 = .ok (.istore_n 1, 1) := by decide +kernel
theorem dX6_ranksTogether_2 : decode cX6_ranksTogether 2 = .ok (.iconst 0, 1) := by decide +kernel
theorem dX6_ranksTogether_3 : decode cX6_ranksTogether 3 = .ok (.istore_n 2, 1) := by decide +kernel
theorem dX6_ranksTogether_4 : decode cX6_ranksTogether 4 = .ok (.iload_n 2, 1) := by decide +kernel
theorem dX6_ranksTogether_5 : decode cX6_ranksTogether 5 = .ok (.bipush 60, 2) := by decide +kernel
theorem dX6_ranksTogether_7 : decode cX6_ranksTogether 7 = .ok (.if_icmp .ge 26, 3) := by decide +kernel
theorem dX6_ranksTogether_10 : decode cX6_ranksTogether 10 = .ok (.aload_n 0, 1) := by decide +kernel
theorem dX6_ranksTogether_11 : decode cX6_ranksTogether 11 = .ok (.iload_n 2, 1) := by decide +kernel
theorem dX6_ranksTogether_12 : decode cX6_ranksTogether 12 = .ok (.invokevirtual 9, 3) := by decide +kernel
theorem dX6_ranksTogether_15 : decode cX6_ranksTogether 15 = .ok (.iconst (-1), 1) := by decide +kernel
theorem dX6_ranksTogether_16 : decode cX6_ranksTogether 16 = .ok (.if_icmp .eq 11, 3) := by decide +kernel
theorem dX6_ranksTogether_19 : decode cX6_ranksTogether 19 = .ok (.iload_n 1, 1) := by decide +kernel
theorem dX6_ranksTogether_20 : decode cX6_ranksTogether 20 = .ok (.aload_n 0, 1) := by decide +kernel
theorem dX6_ranksTogether_21 : decode cX6_ranksTogether 21 = .ok (.iload_n 2, 1) := by decide +kernel
theorem dX6_ranksTogether_22 : decode cX6_ranksTogether 22 = .ok (.invokevirtual 55, 3) := by decide +kernel
theorem dX6_ranksTogether_25 : decode cX6_ranksTogether 25 = .ok (.iadd, 1) := by decide +kernel
theorem dX6_ranksTogether_26 : decode cX6_ranksTogether 26 = .ok (.istore_n 1, 1) := by decide +kernel
theorem dX6_ranksTogether_27 : decode cX6_ranksTogether 27 = .ok (.iinc 2 1, 3) := by decide +kernel
theorem dX6_ranksTogether_30 : decode cX6_ranksTogether 30 = .ok (.goto (-26), 3) := by decide +kernel
theorem dX6_ranksTogether_33 : decode cX6_ranksTogether 33 = .ok (.iload_n 1, 1) := by decide +kernel
theorem dX6_ranksTogether_34 : decode cX6_ranksTogether 34 = .ok (.ireturn, 1) := by decide +kernel
theorem dX6_longSteps_0 : decode cX6_longSteps 0 = .ok (.iconst 0, 1) := by decide +kernel
theorem dX6_longSteps_1 : decode cX6_longSteps 1 = .ok (.istore_n 1, 1) := by decide +kernel
theorem dX6_longSteps_2 : decode cX6_longSteps 2 = .ok (.iconst 0, 1) := by decide +kernel
theorem dX6_longSteps_3 : decode cX6_longSteps 3 = .ok (.istore_n 2, 1) := by decide +kernel
theorem dX6_longSteps_4 : decode cX6_longSteps 4 = .ok (.iload_n 2, 1) := by decide +kernel
theorem dX6_longSteps_5 : decode cX6_longSteps 5 = .ok (.bipush 60, 2) := by decide +kernel
theorem dX6_longSteps_7 : decode cX6_longSteps 7 = .ok (.if_icmp .ge 43, 3) := by decide +kernel
theorem dX6_longSteps_10 : decode cX6_longSteps 10 = .ok (.aload_n 0, 1) := by decide +kernel
theorem dX6_longSteps_11 : decode cX6_longSteps 11 = .ok (.iload_n 2, 1) := by decide +kernel
theorem dX6_longSteps_12 : decode cX6_longSteps 12 = .ok (.invokevirtual 9, 3) := by decide +kernel
theorem dX6_longSteps_15 : decode cX6_longSteps 15 = .ok (.iconst (-1), 1) := by decide +kernel
theorem dX6_longSteps_16 : decode cX6_longSteps 16 = .ok (.if_icmp .eq 28, 3) := by decide +kernel
theorem dX6_longSteps_19 : decode cX6_longSteps 19 = .ok (.iload_n 2, 1) := by decide +kernel
theorem dX6_longSteps_20 : decode cX6_longSteps 20 = .ok (.aload_n 0, 1) := by decide +kernel
theorem dX6_longSteps_21 : decode cX6_longSteps 21 = .ok (.getfield 28, 3) := by decide +kernel
theorem dX6_longSteps_24 : decode cX6_longSteps 24 = .ok (.if_icmp .eq 20, 3) := by decide +kernel
theorem dX6_longSteps_27 : decode cX6_longSteps 27 = .ok (.aload_n 0, 1) := by decide +kernel
theorem dX6_longSteps_28 : decode cX6_longSteps 28 = .ok (.aload_n 0, 1) := by decide +kernel
theorem dX6_longSteps_29 : decode cX6_longSteps 29 = .ok (.iload_n 2, 1) := by decide +kernel
theorem dX6_longSteps_30 : decode cX6_longSteps 30 = .ok (.invokevirtual 58, 3) := by decide +kernel
theorem dX6_longSteps_33 : decode cX6_longSteps 33 = .ok (.iload_n 2, 1) := by decide +kernel
theorem dX6_longSteps_34 : decode cX6_longSteps 34 = .ok (.invokevirtual 61, 3) := by decide +kernel
theorem dX6_longSteps_37 : decode cX6_longSteps 37 = .ok (.iconst 2, 1) := by decide +kernel
theorem dX6_longSteps_38 : decode cX6_longSteps 38 = .ok (.if_icmp .ne 6, 3) := by decide +kernel
theorem dX6_longSteps_41 : decode cX6_longSteps 41 = .ok (.iinc 1 1, 3) := by decide +kernel
theorem dX6_longSteps_44 : decode cX6_longSteps 44 = .ok (.iinc 2 1, 3) := by decide +kernel
theorem dX6_longSteps_47 : decode cX6_longSteps 47 = .ok (.goto (-43), 3) := by decide +kernel
theorem dX6_longSteps_50 : decode cX6_longSteps 50 = .ok (.iload_n 1, 1) := by decide +kernel
theorem dX6_longSteps_51 : decode cX6_longSteps 51 = .ok (.ireturn, 1) := by decide +kernel
theorem dX6_firstWrong_0 : decode cX6_firstWrong 0 = .ok (.aload_n 0, 1) := by decide +kernel
theorem dX6_firstWrong_1 : decode cX6_firstWrong 1 = .ok (.getfield 28, 3) := by decide +kernel
theorem dX6_firstWrong_4 : decode cX6_firstWrong 4 = .ok (.istore_n 1, 1) := by decide +kernel
theorem dX6_firstWrong_5 : decode cX6_firstWrong 5 = .ok (.iconst 0, 1) := by decide +kernel
theorem dX6_firstWrong_6 : decode cX6_firstWrong 6 = .ok (.istore_n 2, 1) := by decide +kernel
theorem dX6_firstWrong_7 : decode cX6_firstWrong 7 = .ok (.iload_n 2, 1) := by decide +kernel
theorem dX6_firstWrong_8 : decode cX6_firstWrong 8 = .ok (.aload_n 0, 1) := by decide +kernel
theorem dX6_firstWrong_9 : decode cX6_firstWrong 9 = .ok (.getfield 64, 3) := by decide +kernel
theorem dX6_firstWrong_12 : decode cX6_firstWrong 12 = .ok (.if_icmp .ge 25, 3) := by decide +kernel
theorem dX6_firstWrong_15 : decode cX6_firstWrong 15 = .ok (.aload_n 0, 1) := by decide +kernel
theorem dX6_firstWrong_16 : decode cX6_firstWrong 16 = .ok (.iload_n 1, 1) := by decide +kernel
theorem dX6_firstWrong_17 : decode cX6_firstWrong 17 = .ok (.invokestatic 67, 3) := by decide +kernel
theorem dX6_firstWrong_20 : decode cX6_firstWrong 20 = .ok (.ifCond .ne 5, 3) := by decide +kernel
theorem dX6_firstWrong_23 : decode cX6_firstWrong 23 = .ok (.iload_n 2, 1) := by decide +kernel
theorem dX6_firstWrong_24 : decode cX6_firstWrong 24 = .ok (.ireturn, 1) := by decide +kernel
theorem dX6_firstWrong_25 : decode cX6_firstWrong 25 = .ok (.aload_n 0, 1) := by decide +kernel
theorem dX6_firstWrong_26 : decode cX6_firstWrong 26 = .ok (.iload_n 1, 1) := by decide +kernel
theorem dX6_firstWrong_27 : decode cX6_firstWrong 27 = .ok (.invokevirtual 71, 3) := by decide +kernel
theorem dX6_firstWrong_30 : decode cX6_firstWrong 30 = .ok (.istore_n 1, 1) := by decide +kernel
theorem dX6_firstWrong_31 : decode cX6_firstWrong 31 = .ok (.iinc 2 1, 3) := by decide +kernel
theorem dX6_firstWrong_34 : decode cX6_firstWrong 34 = .ok (.goto (-27), 3) := by decide +kernel
theorem dX6_firstWrong_37 : decode cX6_firstWrong 37 = .ok (.iconst (-1), 1) := by decide +kernel
theorem dX6_firstWrong_38 : decode cX6_firstWrong 38 = .ok (.ireturn, 1) := by decide +kernel
theorem dX6_isRight_0 : decode cX6_isRight 0 = .ok (.aload_n 0, 1) := by decide +kernel
theorem dX6_isRight_1 : decode cX6_isRight 1 = .ok (.iload_n 1, 1) := by decide +kernel
theorem dX6_isRight_2 : decode cX6_isRight 2 = .ok (.invokevirtual 74, 3) := by decide +kernel
theorem dX6_isRight_5 : decode cX6_isRight 5 = .ok (.ifCond .eq 17, 3) := by decide +kernel
theorem dX6_isRight_8 : decode cX6_isRight 8 = .ok (.aload_n 0, 1) := by decide +kernel
theorem dX6_isRight_9 : decode cX6_isRight 9 = .ok (.iload_n 1, 1) := by decide +kernel
theorem dX6_isRight_10 : decode cX6_isRight 10 = .ok (.invokevirtual 55, 3) := by decide +kernel
theorem dX6_isRight_13 : decode cX6_isRight 13 = .ok (.ifCond .ne 7, 3) := by decide +kernel
theorem dX6_isRight_16 : decode cX6_isRight 16 = .ok (.iconst 1, 1) := by decide +kernel
theorem dX6_isRight_17 : decode cX6_isRight 17 = .ok (.goto 4, 3) := by decide +kernel
theorem dX6_isRight_20 : decode cX6_isRight 20 = .ok (.iconst 0, 1) := by decide +kernel
theorem dX6_isRight_21 : decode cX6_isRight 21 = .ok (.ireturn, 1) := by decide +kernel
theorem dX6_isRight_22 : decode cX6_isRight 22 = .ok (.aload_n 0, 1) := by decide +kernel
theorem dX6_isRight_23 : decode cX6_isRight 23 = .ok (.iload_n 1, 1) := by decide +kernel
theorem dX6_isRight_24 : decode cX6_isRight 24 = .ok (.aload_n 0, 1) := by decide +kernel
theorem dX6_isRight_25 : decode cX6_isRight 25 = .ok (.iload_n 1, 1) := by decide +kernel
theorem dX6_isRight_26 : decode cX6_isRight 26 = .ok (.invokevirtual 78, 3) := by decide +kernel
theorem dX6_isRight_29 : decode cX6_isRight 29 = .ok (.invokevirtual 61, 3) := by decide +kernel
theorem dX6_isRight_32 : decode cX6_isRight 32 = .ok (.istore_n 2, 1) := by decide +kernel
theorem dX6_isRight_33 : decode cX6_isRight 33 = .ok (.aload_n 0, 1) := by decide +kernel
theorem dX6_isRight_34 : decode cX6_isRight 34 = .ok (.iload_n 1, 1) := by decide +kernel
theorem dX6_isRight_35 : decode cX6_isRight 35 = .ok (.aload_n 0, 1) := by decide +kernel
theorem dX6_isRight_36 : decode cX6_isRight 36 = .ok (.iload_n 1, 1) := by decide +kernel
theorem dX6_isRight_37 : decode cX6_isRight 37 = .ok (.invokevirtual 81, 3) := by decide +kernel
theorem dX6_isRight_40 : decode cX6_isRight 40 = .ok (.invokevirtual 61, 3) := by decide +kernel
theorem dX6_isRight_43 : decode cX6_isRight 43 = .ok (.istore_n 3, 1) := by decide +kernel
theorem dX6_isRight_44 : decode cX6_isRight 44 = .ok (.iload_n 2, 1) := by decide +kernel
theorem dX6_isRight_45 : decode cX6_isRight 45 = .ok (.iconst 1, 1) := by decide +kernel
theorem dX6_isRight_46 : decode cX6_isRight 46 = .ok (.iconst 2, 1) := by decide +kernel
theorem dX6_isRight_47 : decode cX6_isRight 47 = .ok (.invokestatic 84, 3) := by decide +kernel
theorem dX6_isRight_50 : decode cX6_isRight 50 = .ok (.ifCond .eq 16, 3) := by decide +kernel
theorem dX6_isRight_53 : decode cX6_isRight 53 = .ok (.iload_n 3, 1) := by decide +kernel
theorem dX6_isRight_54 : decode cX6_isRight 54 = .ok (.iconst 1, 1) := by decide +kernel
theorem dX6_isRight_55 : decode cX6_isRight 55 = .ok (.iconst 2, 1) := by decide +kernel
theorem dX6_isRight_56 : decode cX6_isRight 56 = .ok (.invokestatic 84, 3) := by decide +kernel
end
section
theorem dX6_isRight_59 : decode cX6_isRight 59 = .ok (.ifCond .eq 7, 3) := by decide +kernel
theorem dX6_isRight_62 : decode cX6_isRight 62 = .ok (.iconst 1, 1) := by decide +kernel
theorem dX6_isRight_63 : decode cX6_isRight 63 = .ok (.goto 4, 3) := by decide +kernel
theorem dX6_isRight_66 : decode cX6_isRight 66 = .ok (.iconst 0, 1) := by decide +kernel
theorem dX6_isRight_67 : decode cX6_isRight 67 = .ok (.ireturn, 1) := by decide +kernel
theorem dX7_init_0 : decode cX7_init 0 = .ok (.aload_n 0, 1) := by decide +kernel
theorem dX7_init_1 : decode cX7_init 1 = .ok (.invokespecial 3, 3) := by decide +kernel
theorem dX7_init_4 : decode cX7_init 4 = .ok (.aload_n 0, 1) := by decide +kernel
theorem dX7_init_5 : decode cX7_init 5 = .ok (.new 9, 3) := by decide +kernel
theorem dX7_init_8 : decode cX7_init 8 = .ok (.dup, 1) := by decide +kernel
theorem dX7_init_9 : decode cX7_init 9 = .ok (.invokespecial 11, 3) := by decide +kernel
theorem dX7_init_12 : decode cX7_init 12 = .ok (.putfield 12, 3) := by decide +kernel
theorem dX7_init_15 : decode cX7_init 15 = .ok (.aload_n 0, 1) := by decide +kernel
theorem dX7_init_16 : decode cX7_init 16 = .ok (.new 18, 3) := by decide +kernel
theorem dX7_init_19 : decode cX7_init 19 = .ok (.dup, 1) := by decide +kernel
theorem dX7_init_20 : decode cX7_init 20 = .ok (.invokespecial 20, 3) := by decide +kernel
theorem dX7_init_23 : decode cX7_init 23 = .ok (.putfield 21, 3) := by decide +kernel
theorem dX7_init_26 : decode cX7_init 26 = .ok (.aload_n 0, 1) := by decide +kernel
theorem dX7_init_27 : decode cX7_init 27 = .ok (.new 18, 3) := by decide +kernel
theorem dX7_init_30 : decode cX7_init 30 = .ok (.dup, 1) := by decide +kernel
theorem dX7_init_31 : decode cX7_init 31 = .ok (.invokespecial 20, 3) := by decide +kernel
theorem dX7_init_34 : decode cX7_init 34 = .ok (.putfield 25, 3) := by decide +kernel
theorem dX7_init_37 : decode cX7_init 37 = .ok (.return_, 1) := by decide +kernel
theorem dX7_copyFrom_0 : decode cX7_copyFrom 0 = .ok (.aload_n 0, 1) := by decide +kernel
theorem dX7_copyFrom_1 : decode cX7_copyFrom 1 = .ok (.getfield 12, 3) := by decide +kernel
theorem dX7_copyFrom_4 : decode cX7_copyFrom 4 = .ok (.aload_n 1, 1) := by decide +kernel
theorem dX7_copyFrom_5 : decode cX7_copyFrom 5 = .ok (.getfield 12, 3) := by decide +kernel
theorem dX7_copyFrom_8 : decode cX7_copyFrom 8 = .ok (.invokevirtual 28, 3) := by decide +kernel
theorem dX7_copyFrom_11 : decode cX7_copyFrom 11 = .ok (.aload_n 0, 1) := by decide +kernel
theorem dX7_copyFrom_12 : decode cX7_copyFrom 12 = .ok (.getfield 21, 3) := by decide +kernel
theorem dX7_copyFrom_15 : decode cX7_copyFrom 15 = .ok (.aload_n 1, 1) := by decide +kernel
theorem dX7_copyFrom_16 : decode cX7_copyFrom 16 = .ok (.getfield 21, 3) := by decide +kernel
theorem dX7_copyFrom_19 : decode cX7_copyFrom 19 = .ok (.invokevirtual 32, 3) := by decide +kernel
theorem dX7_copyFrom_22 : decode cX7_copyFrom 22 = .ok (.aload_n 0, 1) := by decide +kernel
theorem dX7_copyFrom_23 : decode cX7_copyFrom 23 = .ok (.getfield 25, 3) := by decide +kernel
theorem dX7_copyFrom_26 : decode cX7_copyFrom 26 = .ok (.aload_n 1, 1) := by decide +kernel
theorem dX7_copyFrom_27 : decode cX7_copyFrom 27 = .ok (.getfield 25, 3) := by decide +kernel
theorem dX7_copyFrom_30 : decode cX7_copyFrom 30 = .ok (.invokevirtual 32, 3) := by decide +kernel
theorem dX7_copyFrom_33 : decode cX7_copyFrom 33 = .ok (.return_, 1) := by decide +kernel
theorem dX7_add_0 : decode cX7_add 0 = .ok (.aload_n 0, 1) := by decide +kernel
theorem dX7_add_1 : decode cX7_add 1 = .ok (.getfield 25, 3) := by decide +kernel
theorem dX7_add_4 : decode cX7_add 4 = .ok (.invokevirtual 35, 3) := by decide +kernel
theorem dX7_add_7 : decode cX7_add 7 = .ok (.aload_n 0, 1) := by decide +kernel
theorem dX7_add_8 : decode cX7_add 8 = .ok (.aload_n 0, 1) := by decide +kernel
theorem dX7_add_9 : decode cX7_add 9 = .ok (.getfield 12, 3) := by decide +kernel
theorem dX7_add_12 : decode cX7_add 12 = .ok (.iload_n 1, 1) := by decide +kernel
theorem dX7_add_13 : decode cX7_add 13 = .ok (.iload_n 2, 1) := by decide +kernel
theorem dX7_add_14 : decode cX7_add 14 = .ok (.invokevirtual 38, 3) := by decide +kernel
theorem dX7_add_17 : decode cX7_add 17 = .ok (.invokevirtual 42, 3) := by decide +kernel
theorem dX7_add_20 : decode cX7_add 20 = .ok (.aload_n 0, 1) := by decide +kernel
theorem dX7_add_21 : decode cX7_add 21 = .ok (.getfield 21, 3) := by decide +kernel
theorem dX7_add_24 : decode cX7_add 24 = .ok (.aload_n 0, 1) := by decide +kernel
theorem dX7_add_25 : decode cX7_add 25 = .ok (.getfield 25, 3) := by decide +kernel
theorem dX7_add_28 : decode cX7_add 28 = .ok (.invokevirtual 46, 3) := by decide +kernel
theorem dX7_add_31 : decode cX7_add 31 = .ok (.return_, 1) := by decide +kernel
theorem dX7_remove_0 : decode cX7_remove 0 = .ok (.iload_n 1, 1) := by decide +kernel
theorem dX7_remove_1 : decode cX7_remove 1 = .ok (.iconst (-1), 1) := by decide +kernel
theorem dX7_remove_2 : decode cX7_remove 2 = .ok (.if_icmp .ne 4, 3) := by decide +kernel
theorem dX7_remove_5 : decode cX7_remove 5 = .ok (.return_, 1) := by decide +kernel
theorem dX7_remove_6 : decode cX7_remove 6 = .ok (.aload_n 0, 1) := by decide +kernel
theorem dX7_remove_7 : decode cX7_remove 7 = .ok (.getfield 25, 3) := by decide +kernel
theorem dX7_remove_10 : decode cX7_remove 10 = .ok (.invokevirtual 35, 3) := by decide +kernel
theorem dX7_remove_13 : decode cX7_remove 13 = .ok (.iload_n 1, 1) := by decide +kernel
theorem dX7_remove_14 : decode cX7_remove 14 = .ok (.istore_n 2, 1) := by decide +kernel
theorem dX7_remove_15 : decode cX7_remove 15 = .ok (.aload_n 0, 1) := by decide +kernel
theorem dX7_remove_16 : decode cX7_remove 16 = .ok (.getfield 12, 3) := by decide +kernel
theorem dX7_remove_19 : decode cX7_remove 19 = .ok (.iload_n 1, 1) := by decide +kernel
theorem dX7_remove_20 : decode cX7_remove 20 = .ok (.invokevirtual 49, 3) := by decide +kernel
theorem dX7_remove_23 : decode cX7_remove 23 = .ok (.iconst (-1), 1) := by decide +kernel
theorem dX7_remove_24 : decode cX7_remove 24 = .ok (.if_icmp .eq 40, 3) := by decide +kernel
theorem dX7_remove_27 : decode cX7_remove 27 = .ok (.aload_n 0, 1) := by decide +kernel
theorem dX7_remove_28 : decode cX7_remove 28 = .ok (.getfield 12, 3) := by decide +kernel
theorem dX7_remove_31 : decode cX7_remove 31 = .ok (.iload_n 1, 1) := by decide +kernel
theorem dX7_remove_32 : decode cX7_remove 32 = .ok (.invokevirtual 53, 3) := by decide +kernel
theorem dX7_remove_35 : decode cX7_remove 35 = .ok (.iconst (-1), 1) := by decide +kernel
theorem dX7_remove_36 : decode cX7_remove 36 = .ok (.if_icmp .eq 28, 3) := by decide +kernel
theorem dX7_remove_39 : decode cX7_remove 39 = .ok (.aload_n 0, 1) := by decide +kernel
theorem dX7_remove_40 : decode cX7_remove 40 = .ok (.getfield 12, 3) := by decide +kernel
theorem dX7_remove_43 : decode cX7_remove 43 = .ok (.aload_n 0, 1) := by decide +kernel
theorem dX7_remove_44 : decode cX7_remove 44 = .ok (.getfield 12, 3) := by decide +kernel
theorem dX7_remove_47 : decode cX7_remove 47 = .ok (.iload_n 1, 1) := by decide +kernel
theorem dX7_remove_48 : decode cX7_remove 48 = .ok (.invokevirtual 53, 3) := by decide +kernel
theorem dX7_remove_51 : decode cX7_remove 51 = .ok (.invokevirtual 56, 3) := by decide +kernel
theorem dX7_remove_54 : decode cX7_remove 54 = .ok (.istore_n 2, 1) := by decide +kernel
theorem dX7_remove_55 : decode cX7_remove 55 = .ok (.aload_n 0, 1) := by decide +kernel
theorem dX7_remove_56 : decode cX7_remove 56 = .ok (.getfield 12, 3) := by decide +kernel
theorem dX7_remove_59 : decode cX7_remove 59 = .ok (.iload_n 2, 1) := by decide +kernel
theorem dX7_remove_60 : decode cX7_remove 60 = .ok (.iload_n 1, 1) := by decide +kernel
theorem dX7_remove_61 : decode cX7_remove 61 = .ok (.invokevirtual 59, 3) := by decide +kernel
theorem dX7_remove_64 : decode cX7_remove 64 = .ok (.aload_n 0, 1) := by decide +kernel
theorem dX7_remove_65 : decode cX7_remove 65 = .ok (.getfield 12, 3) := by decide +kernel
theorem dX7_remove_68 : decode cX7_remove 68 = .ok (.iload_n 2, 1) := by decide +kernel
theorem dX7_remove_69 : decode cX7_remove 69 = .ok (.invokevirtual 63, 3) := by decide +kernel
theorem dX7_remove_72 : decode cX7_remove 72 = .ok (.istore_n 3, 1) := by decide +kernel
theorem dX7_remove_73 : decode cX7_remove 73 = .ok (.aload_n 0, 1) := by decide +kernel
theorem dX7_remove_74 : decode cX7_remove 74 = .ok (.getfield 12, 3) := by decide +kernel
theorem dX7_remove_77 : decode cX7_remove 77 = .ok (.iload_n 2, 1) := by decide +kernel
theorem dX7_remove_78 : decode cX7_remove 78 = .ok (.invokevirtual 66, 3) := by decide +kernel
theorem dX7_remove_81 : decode cX7_remove 81 = .ok (.istore 4, 2) := by decide +kernel
theorem dX7_remove_83 : decode cX7_remove 83 = .ok (.iload_n 3, 1) := by decide +kernel
theorem dX7_remove_84 : decode cX7_remove 84 = .ok (.iconst (-1), 1) := by decide +kernel
theorem dX7_remove_85 : decode cX7_remove 85 = .ok (.if_icmp .eq 44, 3) := by decide +kernel
theorem dX7_remove_88 : decode cX7_remove 88 = .ok (.aload_n 0, 1) := by decide +kernel
theorem dX7_remove_89 : decode cX7_remove 89 = .ok (.getfield 12, 3) := by decide +kernel
theorem dX7_remove_92 : decode cX7_remove 92 = .ok (.iload_n 3, 1) := by decide +kernel
theorem dX7_remove_93 : decode cX7_remove 93 = .ok (.invokevirtual 69, 3) := by decide +kernel
theorem dX7_remove_96 : decode cX7_remove 96 = .ok (.ifCond .eq 33, 3) := by decide +kernel
theorem dX7_remove_99 : decode cX7_remove 99 = .ok (.aload_n 0, 1) := by decide +kernel
theorem dX7_remove_100 : decode cX7_remove 100 = .ok (.getfield 12, 3) := by decide +kernel
theorem dX7_remove_103 : decode cX7_remove 103 = .ok (.iload_n 3, 1) := by decide +kernel
theorem dX7_remove_104 : decode cX7_remove 104 = .ok (.invokevirtual 73, 3) := by decide +kernel
theorem dX7_remove_107 : decode cX7_remove 107 = .ok (.iconst 1, 1) := by decide +kernel
theorem dX7_remove_108 : decode cX7_remove 108 = .ok (.if_icmp .ne 21, 3) := by decide +kernel
theorem dX7_remove_111 : decode cX7_remove 111 = .ok (.aload_n 0, 1) := by decide +kernel
theorem dX7_remove_112 : decode cX7_remove 112 = .ok (.iload_n 3, 1) := by decide +kernel
theorem dX7_remove_113 : decode cX7_remove 113 = .ok (.invokevirtual 76, 3) := by decide +kernel
theorem dX7_remove_116 : decode cX7_remove 116 = .ok (.iload_n 3, 1) := by decide +kernel
theorem dX7_remove_117 : decode cX7_remove 117 = .ok (.istore 4, 2) := by decide +kernel
theorem dX7_remove_119 : decode cX7_remove 119 = .ok (.aload_n 0, 1) := by decide +kernel
theorem dX7_remove_120 : decode cX7_remove 120 = .ok (.getfield 12, 3) := by decide +kernel
theorem dX7_remove_123 : decode cX7_remove 123 = .ok (.iload 4, 2) := by decide +kernel
theorem dX7_remove_125 : decode cX7_remove 125 = .ok (.invokevirtual 63, 3) := by decide +kernel
theorem dX7_remove_128 : decode cX7_remove 128 = .ok (.istore_n 3, 1) := by decide +kernel
theorem dX7_remove_129 : decode cX7_remove 129 = .ok (.aload_n 0, 1) := by decide +kernel
theorem dX7_remove_130 : decode cX7_remove 130 = .ok (.iload_n 3, 1) := by decide +kernel
theorem dX7_remove_131 : decode cX7_remove 131 = .ok (.iload 4, 2) := by decide +kernel
theorem dX7_remove_133 : decode cX7_remove 133 = .ok (.invokevirtual 79, 3) := by decide +kernel
theorem dX7_remove_136 : decode cX7_remove 136 = .ok (.aload_n 0, 1) := by decide +kernel
theorem dX7_remove_137 : decode cX7_remove 137 = .ok (.getfield 21, 3) := by decide +kernel
theorem dX7_remove_140 : decode cX7_remove 140 = .ok (.aload_n 0, 1) := by decide +kernel
theorem dX7_remove_141 : decode cX7_remove 141 = .ok (.getfield 25, 3) := by decide +kernel
theorem dX7_remove_144 : decode cX7_remove 144 = .ok (.invokevirtual 46, 3) := by decide +kernel
theorem dX7_remove_147 : decode cX7_remove 147 = .ok (.return_, 1) := by decide +kernel
theorem dX7_mendUpwards_0 : decode cX7_mendUpwards 0 = .ok (.iload_n 1, 1) := by decide +kernel
theorem dX7_mendUpwards_1 : decode cX7_mendUpwards 1 = .ok (.istore_n 2, 1) := by decide +kernel
theorem dX7_mendUpwards_2 : decode cX7_mendUpwards 2 = .ok (.aload_n 0, 1) := by decide +kernel
theorem dX7_mendUpwards_3 : decode cX7_mendUpwards 3 = .ok (.getfield 12, 3) := by decide +kernel
theorem dX7_mendUpwards_6 : decode cX7_mendUpwards 6 = .ok (.iload_n 2, 1) := by decide +kernel
theorem dX7_mendUpwards_7 : decode cX7_mendUpwards 7 = .ok (.invokevirtual 63, 3) := by decide +kernel
theorem dX7_mendUpwards_10 : decode cX7_mendUpwards 10 = .ok (.istore_n 3, 1) := by decide +kernel
theorem dX7_mendUpwards_11 : decode cX7_mendUpwards 11 = .ok (.iconst 0, 1) := by decide +kernel
theorem dX7_mendUpwards_12 : decode cX7_mendUpwards 12 = .ok (.istore 4, 2) := by decide +kernel
theorem dX7_mendUpwards_14 : decode cX7_mendUpwards 14 = .ok (.iload 4, 2) := by decide +kernel
theorem dX7_mendUpwards_16 : decode cX7_mendUpwards 16 = .ok (.bipush 60, 2) := by decide +kernel
theorem dX7_mendUpwards_18 : decode cX7_mendUpwards 18 = .ok (.if_icmp .ge 100, 3) := by decide +kernel
theorem dX7_mendUpwards_21 : decode cX7_mendUpwards 21 = .ok (.iload_n 3, 1) := by decide +kernel
theorem dX7_mendUpwards_22 : decode cX7_mendUpwards 22 = .ok (.iconst (-1), 1) := by decide +kernel
theorem dX7_mendUpwards_23 : decode cX7_mendUpwards 23 = .ok (.if_icmp .eq 95, 3) := by decide +kernel
theorem dX7_mendUpwards_26 : decode cX7_mendUpwards 26 = .ok (.aload_n 0, 1) := by decide +kernel
theorem dX7_mendUpwards_27 : decode cX7_mendUpwards 27 = .ok (.getfield 12, 3) := by decide +kernel
theorem dX7_mendUpwards_30 : decode cX7_mendUpwards 30 = .ok (.iload_n 3, 1) := by decide +kernel
theorem dX7_mendUpwards_31 : decode cX7_mendUpwards 31 = .ok (.iload_n 2, 1) := by decide +kernel
theorem dX7_mendUpwards_32 : decode cX7_mendUpwards 32 = .ok (.invokevirtual 82, 3) := by decide +kernel
theorem dX7_mendUpwards_35 : decode cX7_mendUpwards 35 = .ok (.ifCond .ne 83, 3) := by decide +kernel
theorem dX7_mendUpwards_38 : decode cX7_mendUpwards 38 = .ok (.aload_n 0, 1) := by decide +kernel
theorem dX7_mendUpwards_39 : decode cX7_mendUpwards 39 = .ok (.getfield 12, 3) := by decide +kernel
theorem dX7_mendUpwards_42 : decode cX7_mendUpwards 42 = .ok (.iload_n 3, 1) := by decide +kernel
theorem dX7_mendUpwards_43 : decode cX7_mendUpwards 43 = .ok (.invokevirtual 49, 3) := by decide +kernel
theorem dX7_mendUpwards_46 : decode cX7_mendUpwards 46 = .ok (.iload_n 2, 1) := by decide +kernel
theorem dX7_mendUpwards_47 : decode cX7_mendUpwards 47 = .ok (.if_icmp .ne 7, 3) := by decide +kernel
theorem dX7_mendUpwards_50 : decode cX7_mendUpwards 50 = .ok (.iconst 1, 1) := by decide +kernel
theorem dX7_mendUpwards_51 : decode cX7_mendUpwards 51 = .ok (.goto 4, 3) := by decide +kernel
theorem dX7_mendUpwards_54 : decode cX7_mendUpwards 54 = .ok (.iconst 0, 1) := by decide +kernel
theorem dX7_mendUpwards_55 : decode cX7_mendUpwards 55 = .ok (.istore 5, 2) := by decide +kernel
theorem dX7_mendUpwards_57 : decode cX7_mendUpwards 57 = .ok (.aload_n 0, 1) := by decide +kernel
theorem dX7_mendUpwards_58 : decode cX7_mendUpwards 58 = .ok (.getfield 12, 3) := by decide +kernel
theorem dX7_mendUpwards_61 : decode cX7_mendUpwards 61 = .ok (.iload_n 3, 1) := by decide +kernel
theorem dX7_mendUpwards_62 : decode cX7_mendUpwards 62 = .ok (.aload_n 0, 1) := by decide +kernel
theorem dX7_mendUpwards_63 : decode cX7_mendUpwards 63 = .ok (.getfield 12, 3) := by decide +kernel
theorem dX7_mendUpwards_66 : decode cX7_mendUpwards 66 = .ok (.iload_n 3, 1) := by decide +kernel
theorem dX7_mendUpwards_67 : decode cX7_mendUpwards 67 = .ok (.iload 5, 2) := by decide +kernel
theorem dX7_mendUpwards_69 : decode cX7_mendUpwards 69 = .ok (.ifCond .ne 7, 3) := by decide +kernel
theorem dX7_mendUpwards_72 : decode cX7_mendUpwards 72 = .ok (.iconst 1, 1) := by decide +kernel
theorem dX7_mendUpwards_73 : decode cX7_mendUpwards 73 = .ok (.goto 4, 3) := by decide +kernel
theorem dX7_mendUpwards_76 : decode cX7_mendUpwards 76 = .ok (.iconst 0, 1) := by decide +kernel
theorem dX7_mendUpwards_77 : decode cX7_mendUpwards 77 = .ok (.invokevirtual 85, 3) := by decide +kernel
theorem dX7_mendUpwards_80 : decode cX7_mendUpwards 80 = .ok (.invokevirtual 82, 3) := by decide +kernel
theorem dX7_mendUpwards_83 : decode cX7_mendUpwards 83 = .ok (.iconst 1, 1) := by decide +kernel
theorem dX7_mendUpwards_84 : decode cX7_mendUpwards 84 = .ok (.if_icmp .eq 12, 3) := by decide +kernel
theorem dX7_mendUpwards_87 : decode cX7_mendUpwards 87 = .ok (.aload_n 0, 1) := by decide +kernel
theorem dX7_mendUpwards_88 : decode cX7_mendUpwards 88 = .ok (.iload_n 3, 1) := by decide +kernel
theorem dX7_mendUpwards_89 : decode cX7_mendUpwards 89 = .ok (.iload_n 2, 1) := by decide +kernel
theorem dX7_mendUpwards_90 : decode cX7_mendUpwards 90 = .ok (.iload 5, 2) := by decide +kernel
theorem dX7_mendUpwards_92 : decode cX7_mendUpwards 92 = .ok (.invokevirtual 89, 3) := by decide +kernel
theorem dX7_mendUpwards_95 : decode cX7_mendUpwards 95 = .ok (.return_, 1) := by decide +kernel
theorem dX7_mendUpwards_96 : decode cX7_mendUpwards 96 = .ok (.aload_n 0, 1) := by decide +kernel
theorem dX7_mendUpwards_97 : decode cX7_mendUpwards 97 = .ok (.iload_n 3, 1) := by decide +kernel
theorem dX7_mendUpwards_98 : decode cX7_mendUpwards 98 = .ok (.invokevirtual 93, 3) := by decide +kernel
theorem dX7_mendUpwards_101 : decode cX7_mendUpwards 101 = .ok (.iload_n 3, 1) := by decide +kernel
theorem dX7_mendUpwards_102 : decode cX7_mendUpwards 102 = .ok (.istore_n 2, 1) := by decide +kernel
theorem dX7_mendUpwards_103 : decode cX7_mendUpwards 103 = .ok (.aload_n 0, 1) := by decide +kernel
theorem dX7_mendUpwards_104 : decode cX7_mendUpwards 104 = .ok (.getfield 12, 3) := by decide +kernel
theorem dX7_mendUpwards_107 : decode cX7_mendUpwards 107 = .ok (.iload_n 2, 1) := by decide +kernel
theorem dX7_mendUpwards_108 : decode cX7_mendUpwards 108 = .ok (.invokevirtual 63, 3) := by decide +kernel
theorem dX7_mendUpwards_111 : decode cX7_mendUpwards 111 = .ok (.istore_n 3, 1) := by decide +kernel
theorem dX7_mendUpwards_112 : decode cX7_mendUpwards 112 = .ok (.iinc 4 1, 3) := by decide +kernel
theorem dX7_mendUpwards_115 : decode cX7_mendUpwards 115 = .ok (.goto (-101), 3) := by decide +kernel
theorem dX7_mendUpwards_118 : decode cX7_mendUpwards 118 = .ok (.return_, 1) := by decide +kernel
theorem dX7_turnAfterAdding_0 : decode cX7_turnAfterAdding 0 = .ok (.aload_n 0, 1) := by decide +kernel
theorem dX7_turnAfterAdding_1 : decode cX7_turnAfterAdding 1 = .ok (.getfield 12, 3) := by decide +kernel
theorem dX7_turnAfterAdding_4 : decode cX7_turnAfterAdding 4 = .ok (.iload_n 2, 1) := by decide +kernel
theorem dX7_turnAfterAdding_5 : decode cX7_turnAfterAdding 5 = .ok (.iload_n 3, 1) := by decide +kernel
theorem dX7_turnAfterAdding_6 : decode cX7_turnAfterAdding 6 = .ok (.ifCond .ne 7, 3) := by decide +kernel
theorem dX7_turnAfterAdding_9 : decode cX7_turnAfterAdding 9 = .ok (.iconst 1, 1) := by decide +kernel
theorem dX7_turnAfterAdding_10 : decode cX7_turnAfterAdding 10 = .ok (.goto 4, 3) := by decide +kernel
theorem dX7_turnAfterAdding_13 : decode cX7_turnAfterAdding 13 = .ok (.iconst 0, 1) := by decide +kernel
theorem dX7_turnAfterAdding_14 : decode cX7_turnAfterAdding 14 = .ok (.invokevirtual 85, 3) := by decide +kernel
theorem dX7_turnAfterAdding_17 : decode cX7_turnAfterAdding 17 = .ok (.istore 4, 2) := by decide +kernel
theorem dX7_turnAfterAdding_19 : decode cX7_turnAfterAdding 19 = .ok (.aload_n 0, 1) := by decide +kernel
theorem dX7_turnAfterAdding_20 : decode cX7_turnAfterAdding 20 = .ok (.getfield 12, 3) := by decide +kernel
theorem dX7_turnAfterAdding_23 : decode cX7_turnAfterAdding 23 = .ok (.iload_n 2, 1) := by decide +kernel
theorem dX7_turnAfterAdding_24 : decode cX7_turnAfterAdding 24 = .ok (.iload 4, 2) := by decide +kernel
theorem dX7_turnAfterAdding_26 : decode cX7_turnAfterAdding 26 = .ok (.invokevirtual 82, 3) := by decide +kernel
theorem dX7_turnAfterAdding_29 : decode cX7_turnAfterAdding 29 = .ok (.iconst 1, 1) := by decide +kernel
theorem dX7_turnAfterAdding_30 : decode cX7_turnAfterAdding 30 = .ok (.if_icmp .ne 56, 3) := by decide +kernel
theorem dX7_turnAfterAdding_33 : decode cX7_turnAfterAdding 33 = .ok (.aload_n 0, 1) := by decide +kernel
theorem dX7_turnAfterAdding_34 : decode cX7_turnAfterAdding 34 = .ok (.getfield 12, 3) := by decide +kernel
theorem dX7_turnAfterAdding_37 : decode cX7_turnAfterAdding 37 = .ok (.iload 4, 2) := by decide +kernel
theorem dX7_turnAfterAdding_39 : decode cX7_turnAfterAdding 39 = .ok (.invokevirtual 96, 3) := by decide +kernel
theorem dX7_turnAfterAdding_42 : decode cX7_turnAfterAdding 42 = .ok (.aload_n 0, 1) := by decide +kernel
theorem dX7_turnAfterAdding_43 : decode cX7_turnAfterAdding 43 = .ok (.getfield 12, 3) := by decide +kernel
theorem dX7_turnAfterAdding_46 : decode cX7_turnAfterAdding 46 = .ok (.iload 4, 2) := by decide +kernel
theorem dX7_turnAfterAdding_48 : decode cX7_turnAfterAdding 48 = .ok (.invokevirtual 96, 3) := by decide +kernel
theorem dX7_turnAfterAdding_51 : decode cX7_turnAfterAdding 51 = .ok (.aload_n 0, 1) := by decide +kernel
theorem dX7_turnAfterAdding_52 : decode cX7_turnAfterAdding 52 = .ok (.getfield 25, 3) := by decide +kernel
theorem dX7_turnAfterAdding_55 : decode cX7_turnAfterAdding 55 = .ok (.dup, 1) := by decide +kernel
theorem dX7_turnAfterAdding_56 : decode cX7_turnAfterAdding 56 = .ok (.getfield 99, 3) := by decide +kernel
theorem dX7_turnAfterAdding_59 : decode cX7_turnAfterAdding 59 = .ok (.iconst 2, 1) := by decide +kernel
theorem dX7_turnAfterAdding_60 : decode cX7_turnAfterAdding 60 = .ok (.iadd, 1) := by decide +kernel
theorem dX7_turnAfterAdding_61 : decode cX7_turnAfterAdding 61 = .ok (.putfield 99, 3) := by decide +kernel
theorem dX7_turnAfterAdding_64 : decode cX7_turnAfterAdding 64 = .ok (.aload_n 0, 1) := by decide +kernel
theorem dX7_turnAfterAdding_65 : decode cX7_turnAfterAdding 65 = .ok (.getfield 12, 3) := by decide +kernel
theorem dX7_turnAfterAdding_68 : decode cX7_turnAfterAdding 68 = .ok (.iload 4, 2) := by decide +kernel
theorem dX7_turnAfterAdding_70 : decode cX7_turnAfterAdding 70 = .ok (.iconst 1, 1) := by decide +kernel
theorem dX7_turnAfterAdding_71 : decode cX7_turnAfterAdding 71 = .ok (.invokevirtual 103, 3) := by decide +kernel
theorem dX7_turnAfterAdding_74 : decode cX7_turnAfterAdding 74 = .ok (.aload_n 0, 1) := by decide +kernel
theorem dX7_turnAfterAdding_75 : decode cX7_turnAfterAdding 75 = .ok (.getfield 12, 3) := by decide +kernel
theorem dX7_turnAfterAdding_78 : decode cX7_turnAfterAdding 78 = .ok (.iload_n 2, 1) := by decide +kernel
theorem dX7_turnAfterAdding_79 : decode cX7_turnAfterAdding 79 = .ok (.iconst (-1), 1) := by decide +kernel
theorem dX7_turnAfterAdding_80 : decode cX7_turnAfterAdding 80 = .ok (.invokevirtual 103, 3) := by decide +kernel
theorem dX7_turnAfterAdding_83 : decode cX7_turnAfterAdding 83 = .ok (.goto 24, 3) := by decide +kernel
theorem dX7_turnAfterAdding_86 : decode cX7_turnAfterAdding 86 = .ok (.aload_n 0, 1) := by decide +kernel
theorem dX7_turnAfterAdding_87 : decode cX7_turnAfterAdding 87 = .ok (.getfield 12, 3) := by decide +kernel
theorem dX7_turnAfterAdding_90 : decode cX7_turnAfterAdding 90 = .ok (.iload_n 2, 1) := by decide +kernel
theorem dX7_turnAfterAdding_91 : decode cX7_turnAfterAdding 91 = .ok (.invokevirtual 96, 3) := by decide +kernel
theorem dX7_turnAfterAdding_94 : decode cX7_turnAfterAdding 94 = .ok (.aload_n 0, 1) := by decide +kernel
theorem dX7_turnAfterAdding_95 : decode cX7_turnAfterAdding 95 = .ok (.getfield 25, 3) := by decide +kernel
theorem dX7_turnAfterAdding_98 : decode cX7_turnAfterAdding 98 = .ok (.dup, 1) := by decide +kernel
theorem dX7_turnAfterAdding_99 : decode cX7_turnAfterAdding 99 = .ok (.getfield 99, 3) := by decide +kernel
theorem dX7_turnAfterAdding_102 : decode cX7_turnAfterAdding 102 = .ok (.iconst 1, 1) := by decide +kernel
theorem dX7_turnAfterAdding_103 : decode cX7_turnAfterAdding 103 = .ok (.iadd, 1) := by decide +kernel
theorem dX7_turnAfterAdding_104 : decode cX7_turnAfterAdding 104 = .ok (.putfield 99, 3) := by decide +kernel
theorem dX7_turnAfterAdding_107 : decode cX7_turnAfterAdding 107 = .ok (.aload_n 0, 1) := by decide +kernel
theorem dX7_turnAfterAdding_108 : decode cX7_turnAfterAdding 108 = .ok (.getfield 12, 3) := by decide +kernel
theorem dX7_turnAfterAdding_111 : decode cX7_turnAfterAdding 111 = .ok (.iload_n 1, 1) := by decide +kernel
theorem dX7_turnAfterAdding_112 : decode cX7_turnAfterAdding 112 = .ok (.iconst (-1), 1) := by decide +kernel
theorem dX7_turnAfterAdding_113 : decode cX7_turnAfterAdding 113 = .ok (.invokevirtual 103, 3) := by decide +kernel
theorem dX7_turnAfterAdding_116 : decode cX7_turnAfterAdding 116 = .ok (.return_, 1) := by decide +kernel
theorem dX7_mendGap_0 : decode cX7_mendGap 0 = .ok (.iload_n 2, 1) := by decide +kernel
theorem dX7_mendGap_1 : decode cX7_mendGap 1 = .ok (.istore_n 3, 1) := by decide +kernel
theorem dX7_mendGap_2 : decode cX7_mendGap 2 = .ok (.iload_n 1, 1) := by decide +kernel
theorem dX7_mendGap_3 : decode cX7_mendGap 3 = .ok (.istore 4, 2) := by decide +kernel
theorem dX7_mendGap_5 : decode cX7_mendGap 5 = .ok (.iconst 0, 1) := by decide +kernel
theorem dX7_mendGap_6 : decode cX7_mendGap 6 = .ok (.istore 5, 2) := by decide +kernel
theorem dX7_mendGap_8 : decode cX7_mendGap 8 = .ok (.iload 5, 2) := by decide +kernel
theorem dX7_mendGap_10 : decode cX7_mendGap 10 = .ok (.bipush 60, 2) := by decide +kernel
theorem dX7_mendGap_12 : decode cX7_mendGap 12 = .ok (.if_icmp .ge 138, 3) := by decide +kernel
theorem dX7_mendGap_15 : decode cX7_mendGap 15 = .ok (.iload 4, 2) := by decide +kernel
theorem dX7_mendGap_17 : decode cX7_mendGap 17 = .ok (.iconst (-1), 1) := by decide +kernel
theorem dX7_mendGap_18 : decode cX7_mendGap 18 = .ok (.if_icmp .eq 132, 3) := by decide +kernel
theorem dX7_mendGap_21 : decode cX7_mendGap 21 = .ok (.aload_n 0, 1) := by decide +kernel
theorem dX7_mendGap_22 : decode cX7_mendGap 22 = .ok (.getfield 12, 3) := by decide +kernel
theorem dX7_mendGap_25 : decode cX7_mendGap 25 = .ok (.iload 4, 2) := by decide +kernel
theorem dX7_mendGap_27 : decode cX7_mendGap 27 = .ok (.iload_n 3, 1) := by decide +kernel
theorem dX7_mendGap_28 : decode cX7_mendGap 28 = .ok (.invokevirtual 82, 3) := by decide +kernel
theorem dX7_mendGap_31 : decode cX7_mendGap 31 = .ok (.iconst 3, 1) := by decide +kernel
theorem dX7_mendGap_32 : decode cX7_mendGap 32 = .ok (.if_icmp .ne 118, 3) := by decide +kernel
theorem dX7_mendGap_35 : decode cX7_mendGap 35 = .ok (.aload_n 0, 1) := by decide +kernel
theorem dX7_mendGap_36 : decode cX7_mendGap 36 = .ok (.getfield 12, 3) := by decide +kernel
theorem dX7_mendGap_39 : decode cX7_mendGap 39 = .ok (.iload 4, 2) := by decide +kernel
theorem dX7_mendGap_41 : decode cX7_mendGap 41 = .ok (.invokevirtual 49, 3) := by decide +kernel
theorem dX7_mendGap_44 : decode cX7_mendGap 44 = .ok (.iload_n 3, 1) := by decide +kernel
theorem dX7_mendGap_45 : decode cX7_mendGap 45 = .ok (.if_icmp .ne 7, 3) := by decide +kernel
theorem dX7_mendGap_48 : decode cX7_mendGap 48 = .ok (.iconst 1, 1) := by decide +kernel
theorem dX7_mendGap_49 : decode cX7_mendGap 49 = .ok (.goto 4, 3) := by decide +kernel
theorem dX7_mendGap_52 : decode cX7_mendGap 52 = .ok (.iconst 0, 1) := by decide +kernel
theorem dX7_mendGap_53 : decode cX7_mendGap 53 = .ok (.istore 6, 2) := by decide +kernel
theorem dX7_mendGap_55 : decode cX7_mendGap 55 = .ok (.aload_n 0, 1) := by decide +kernel
theorem dX7_mendGap_56 : decode cX7_mendGap 56 = .ok (.getfield 12, 3) := by decide +kernel
theorem dX7_mendGap_59 : decode cX7_mendGap 59 = .ok (.iload 4, 2) := by decide +kernel
theorem dX7_mendGap_61 : decode cX7_mendGap 61 = .ok (.iload 6, 2) := by decide +kernel
theorem dX7_mendGap_63 : decode cX7_mendGap 63 = .ok (.ifCond .ne 7, 3) := by decide +kernel
theorem dX7_mendGap_66 : decode cX7_mendGap 66 = .ok (.iconst 1, 1) := by decide +kernel
theorem dX7_mendGap_67 : decode cX7_mendGap 67 = .ok (.goto 4, 3) := by decide +kernel
theorem dX7_mendGap_70 : decode cX7_mendGap 70 = .ok (.iconst 0, 1) := by decide +kernel
theorem dX7_mendGap_71 : decode cX7_mendGap 71 = .ok (.invokevirtual 85, 3) := by decide +kernel
theorem dX7_mendGap_74 : decode cX7_mendGap 74 = .ok (.istore 7, 2) := by decide +kernel
theorem dX7_mendGap_76 : decode cX7_mendGap 76 = .ok (.aload_n 0, 1) := by decide +kernel
theorem dX7_mendGap_77 : decode cX7_mendGap 77 = .ok (.getfield 12, 3) := by decide +kernel
theorem dX7_mendGap_80 : decode cX7_mendGap 80 = .ok (.iload 4, 2) := by decide +kernel
theorem dX7_mendGap_82 : decode cX7_mendGap 82 = .ok (.iload 7, 2) := by decide +kernel
theorem dX7_mendGap_84 : decode cX7_mendGap 84 = .ok (.invokevirtual 82, 3) := by decide +kernel
theorem dX7_mendGap_87 : decode cX7_mendGap 87 = .ok (.iconst 2, 1) := by decide +kernel
theorem dX7_mendGap_88 : decode cX7_mendGap 88 = .ok (.if_icmp .eq 37, 3) := by decide +kernel
theorem dX7_mendGap_91 : decode cX7_mendGap 91 = .ok (.aload_n 0, 1) := by decide +kernel
theorem dX7_mendGap_92 : decode cX7_mendGap 92 = .ok (.iload 7, 2) := by decide +kernel
theorem dX7_mendGap_94 : decode cX7_mendGap 94 = .ok (.invokevirtual 106, 3) := by decide +kernel
theorem dX7_mendGap_97 : decode cX7_mendGap 97 = .ok (.ifCond .ne 22, 3) := by decide +kernel
theorem dX7_mendGap_100 : decode cX7_mendGap 100 = .ok (.aload_n 0, 1) := by decide +kernel
theorem dX7_mendGap_101 : decode cX7_mendGap 101 = .ok (.iload 4, 2) := by decide +kernel
theorem dX7_mendGap_103 : decode cX7_mendGap 103 = .ok (.iload 7, 2) := by decide +kernel
theorem dX7_mendGap_105 : decode cX7_mendGap 105 = .ok (.iload 6, 2) := by decide +kernel
theorem dX7_mendGap_107 : decode cX7_mendGap 107 = .ok (.ifCond .ne 7, 3) := by decide +kernel
theorem dX7_mendGap_110 : decode cX7_mendGap 110 = .ok (.iconst 1, 1) := by decide +kernel
theorem dX7_mendGap_111 : decode cX7_mendGap 111 = .ok (.goto 4, 3) := by decide +kernel
theorem dX7_mendGap_114 : decode cX7_mendGap 114 = .ok (.iconst 0, 1) := by decide +kernel
theorem dX7_mendGap_115 : decode cX7_mendGap 115 = .ok (.invokevirtual 109, 3) := by decide +kernel
theorem dX7_mendGap_118 : decode cX7_mendGap 118 = .ok (.return_, 1) := by decide +kernel
theorem dX7_mendGap_119 : decode cX7_mendGap 119 = .ok (.aload_n 0, 1) := by decide +kernel
theorem dX7_mendGap_120 : decode cX7_mendGap 120 = .ok (.iload 7, 2) := by decide +kernel
theorem dX7_mendGap_122 : decode cX7_mendGap 122 = .ok (.invokevirtual 76, 3) := by decide +kernel
theorem dX7_mendGap_125 : decode cX7_mendGap 125 = .ok (.aload_n 0, 1) := by decide +kernel
theorem dX7_mendGap_126 : decode cX7_mendGap 126 = .ok (.iload 4, 2) := by decide +kernel
theorem dX7_mendGap_128 : decode cX7_mendGap 128 = .ok (.invokevirtual 76, 3) := by decide +kernel
theorem dX7_mendGap_131 : decode cX7_mendGap 131 = .ok (.iload 4, 2) := by decide +kernel
theorem dX7_mendGap_133 : decode cX7_mendGap 133 = .ok (.istore_n 3, 1) := by decide +kernel
theorem dX7_mendGap_134 : decode cX7_mendGap 134 = .ok (.aload_n 0, 1) := by decide +kernel
theorem dX7_mendGap_135 : decode cX7_mendGap 135 = .ok (.getfield 12, 3) := by decide +kernel
theorem dX7_mendGap_138 : decode cX7_mendGap 138 = .ok (.iload_n 3, 1) := by decide +kernel
theorem dX7_mendGap_139 : decode cX7_mendGap 139 = .ok (.invokevirtual 63, 3) := by decide +kernel
theorem dX7_mendGap_142 : decode cX7_mendGap 142 = .ok (.istore 4, 2) := by decide +kernel
theorem dX7_mendGap_144 : decode cX7_mendGap 144 = .ok (.iinc 5 1, 3) := by decide +kernel
theorem dX7_mendGap_147 : decode cX7_mendGap 147 = .ok (.goto (-139), 3) := by decide +kernel
theorem dX7_mendGap_150 : decode cX7_mendGap 150 = .ok (.return_, 1) := by decide +kernel
theorem dX7_hasOnlyLongSteps_0 : decode cX7_hasOnlyLongSteps 0 = .ok (.aload_n 0, 1) := by decide +kernel
theorem dX7_hasOnlyLongSteps_1 : decode cX7_hasOnlyLongSteps 1 = .ok (.getfield 12, 3) := by decide +kernel
theorem dX7_hasOnlyLongSteps_4 : decode cX7_hasOnlyLongSteps 4 = .ok (.iload_n 1, 1) := by decide +kernel
theorem dX7_hasOnlyLongSteps_5 : decode cX7_hasOnlyLongSteps 5 = .ok (.aload_n 0, 1) := by decide +kernel
theorem dX7_hasOnlyLongSteps_6 : decode cX7_hasOnlyLongSteps 6 = .ok (.getfield 12, 3) := by decide +kernel
theorem dX7_hasOnlyLongSteps_9 : decode cX7_hasOnlyLongSteps 9 = .ok (.iload_n 1, 1) := by decide +kernel
theorem dX7_hasOnlyLongSteps_10 : decode cX7_hasOnlyLongSteps 10 = .ok (.invokevirtual 49, 3) := by decide +kernel
theorem dX7_hasOnlyLongSteps_13 : decode cX7_hasOnlyLongSteps 13 = .ok (.invokevirtual 82, 3) := by decide +kernel
theorem dX7_hasOnlyLongSteps_16 : decode cX7_hasOnlyLongSteps 16 = .ok (.iconst 2, 1) := by decide +kernel
theorem dX7_hasOnlyLongSteps_17 : decode cX7_hasOnlyLongSteps 17 = .ok (.if_icmp .ne 27, 3) := by decide +kernel
theorem dX7_hasOnlyLongSteps_20 : decode cX7_hasOnlyLongSteps 20 = .ok (.aload_n 0, 1) := by decide +kernel
theorem dX7_hasOnlyLongSteps_21 : decode cX7_hasOnlyLongSteps 21 = .ok (.getfield 12, 3) := by decide +kernel
theorem dX7_hasOnlyLongSteps_24 : decode cX7_hasOnlyLongSteps 24 = .ok (.iload_n 1, 1) := by decide +kernel
theorem dX7_hasOnlyLongSteps_25 : decode cX7_hasOnlyLongSteps 25 = .ok (.aload_n 0, 1) := by decide +kernel
theorem dX7_hasOnlyLongSteps_26 : decode cX7_hasOnlyLongSteps 26 = .ok (.getfield 12, 3) := by decide +kernel
theorem dX7_hasOnlyLongSteps_29 : decode cX7_hasOnlyLongSteps 29 = .ok (.iload_n 1, 1) := by decide +kernel
theorem dX7_hasOnlyLongSteps_30 : decode cX7_hasOnlyLongSteps 30 = .ok (.invokevirtual 53, 3) := by decide +kernel
theorem dX7_hasOnlyLongSteps_33 : decode cX7_hasOnlyLongSteps 33 = .ok (.invokevirtual 82, 3) := by decide +kernel
theorem dX7_hasOnlyLongSteps_36 : decode cX7_hasOnlyLongSteps 36 = .ok (.iconst 2, 1) := by decide +kernel
theorem dX7_hasOnlyLongSteps_37 : decode cX7_hasOnlyLongSteps 37 = .ok (.if_icmp .ne 7, 3) := by decide +kernel
theorem dX7_hasOnlyLongSteps_40 : decode cX7_hasOnlyLongSteps 40 = .ok (.iconst 1, 1) := by decide +kernel
theorem dX7_hasOnlyLongSteps_41 : decode cX7_hasOnlyLongSteps 41 = .ok (.goto 4, 3) := by decide +kernel
theorem dX7_hasOnlyLongSteps_44 : decode cX7_hasOnlyLongSteps 44 = .ok (.iconst 0, 1) := by decide +kernel
theorem dX7_hasOnlyLongSteps_45 : decode cX7_hasOnlyLongSteps 45 = .ok (.ireturn, 1) := by decide +kernel
theorem dX7_turnAfterRemoving_0 : decode cX7_turnAfterRemoving 0 = .ok (.aload_n 0, 1) := by decide +kernel
theorem dX7_turnAfterRemoving_1 : decode cX7_turnAfterRemoving 1 = .ok (.getfield 12, 3) := by decide +kernel
theorem dX7_turnAfterRemoving_4 : decode cX7_turnAfterRemoving 4 = .ok (.iload_n 2, 1) := by decide +kernel
theorem dX7_turnAfterRemoving_5 : decode cX7_turnAfterRemoving 5 = .ok (.aload_n 0, 1) := by decide +kernel
theorem dX7_turnAfterRemoving_6 : decode cX7_turnAfterRemoving 6 = .ok (.getfield 12, 3) := by decide +kernel
theorem dX7_turnAfterRemoving_9 : decode cX7_turnAfterRemoving 9 = .ok (.iload_n 2, 1) := by decide +kernel
theorem dX7_turnAfterRemoving_10 : decode cX7_turnAfterRemoving 10 = .ok (.iload_n 3, 1) := by decide +kernel
theorem dX7_turnAfterRemoving_11 : decode cX7_turnAfterRemoving 11 = .ok (.invokevirtual 85, 3) := by decide +kernel
theorem dX7_turnAfterRemoving_14 : decode cX7_turnAfterRemoving 14 = .ok (.invokevirtual 82, 3) := by decide +kernel
theorem dX7_turnAfterRemoving_17 : decode cX7_turnAfterRemoving 17 = .ok (.iconst 1, 1) := by decide +kernel
theorem dX7_turnAfterRemoving_18 : decode cX7_turnAfterRemoving 18 = .ok (.if_icmp .ne 59, 3) := by decide +kernel
theorem dX7_turnAfterRemoving_21 : decode cX7_turnAfterRemoving 21 = .ok (.aload_n 0, 1) := by decide +kernel
theorem dX7_turnAfterRemoving_22 : decode cX7_turnAfterRemoving 22 = .ok (.getfield 12, 3) := by decide +kernel
theorem dX7_turnAfterRemoving_25 : decode cX7_turnAfterRemoving 25 = .ok (.iload_n 2, 1) := by decide +kernel
theorem dX7_turnAfterRemoving_26 : decode cX7_turnAfterRemoving 26 = .ok (.invokevirtual 96, 3) := by decide +kernel
theorem dX7_turnAfterRemoving_29 : decode cX7_turnAfterRemoving 29 = .ok (.aload_n 0, 1) := by decide +kernel
theorem dX7_turnAfterRemoving_30 : decode cX7_turnAfterRemoving 30 = .ok (.getfield 25, 3) := by decide +kernel
theorem dX7_turnAfterRemoving_33 : decode cX7_turnAfterRemoving 33 = .ok (.dup, 1) := by decide +kernel
theorem dX7_turnAfterRemoving_34 : decode cX7_turnAfterRemoving 34 = .ok (.getfield 99, 3) := by decide +kernel
theorem dX7_turnAfterRemoving_37 : decode cX7_turnAfterRemoving 37 = .ok (.iconst 1, 1) := by decide +kernel
theorem dX7_turnAfterRemoving_38 : decode cX7_turnAfterRemoving 38 = .ok (.iadd, 1) := by decide +kernel
theorem dX7_turnAfterRemoving_39 : decode cX7_turnAfterRemoving 39 = .ok (.putfield 99, 3) := by decide +kernel
theorem dX7_turnAfterRemoving_42 : decode cX7_turnAfterRemoving 42 = .ok (.aload_n 0, 1) := by decide +kernel
theorem dX7_turnAfterRemoving_43 : decode cX7_turnAfterRemoving 43 = .ok (.getfield 12, 3) := by decide +kernel
theorem dX7_turnAfterRemoving_46 : decode cX7_turnAfterRemoving 46 = .ok (.iload_n 2, 1) := by decide +kernel
theorem dX7_turnAfterRemoving_47 : decode cX7_turnAfterRemoving 47 = .ok (.iconst 1, 1) := by decide +kernel
theorem dX7_turnAfterRemoving_48 : decode cX7_turnAfterRemoving 48 = .ok (.invokevirtual 103, 3) := by decide +kernel
theorem dX7_turnAfterRemoving_51 : decode cX7_turnAfterRemoving 51 = .ok (.aload_n 0, 1) := by decide +kernel
theorem dX7_turnAfterRemoving_52 : decode cX7_turnAfterRemoving 52 = .ok (.getfield 12, 3) := by decide +kernel
theorem dX7_turnAfterRemoving_55 : decode cX7_turnAfterRemoving 55 = .ok (.iload_n 1, 1) := by decide +kernel
theorem dX7_turnAfterRemoving_56 : decode cX7_turnAfterRemoving 56 = .ok (.aload_n 0, 1) := by decide +kernel
theorem dX7_turnAfterRemoving_57 : decode cX7_turnAfterRemoving 57 = .ok (.getfield 12, 3) := by decide +kernel
theorem dX7_turnAfterRemoving_60 : decode cX7_turnAfterRemoving 60 = .ok (.iload_n 1, 1) := by decide +kernel
theorem dX7_turnAfterRemoving_61 : decode cX7_turnAfterRemoving 61 = .ok (.invokevirtual 69, 3) := by decide +kernel
theorem dX7_turnAfterRemoving_64 : decode cX7_turnAfterRemoving 64 = .ok (.ifCond .eq 8, 3) := by decide +kernel
theorem dX7_turnAfterRemoving_67 : decode cX7_turnAfterRemoving 67 = .ok (.bipush (-2), 2) := by decide +kernel
theorem dX7_turnAfterRemoving_69 : decode cX7_turnAfterRemoving 69 = .ok (.goto 4, 3) := by decide +kernel
theorem dX7_turnAfterRemoving_72 : decode cX7_turnAfterRemoving 72 = .ok (.iconst (-1), 1) := by decide +kernel
theorem dX7_turnAfterRemoving_73 : decode cX7_turnAfterRemoving 73 = .ok (.invokevirtual 103, 3) := by decide +kernel
theorem dX7_turnAfterRemoving_76 : decode cX7_turnAfterRemoving 76 = .ok (.return_, 1) := by decide +kernel
theorem dX7_turnAfterRemoving_77 : decode cX7_turnAfterRemoving 77 = .ok (.aload_n 0, 1) := by decide +kernel
theorem dX7_turnAfterRemoving_78 : decode cX7_turnAfterRemoving 78 = .ok (.getfield 12, 3) := by decide +kernel
theorem dX7_turnAfterRemoving_81 : decode cX7_turnAfterRemoving 81 = .ok (.iload_n 2, 1) := by decide +kernel
theorem dX7_turnAfterRemoving_82 : decode cX7_turnAfterRemoving 82 = .ok (.iload_n 3, 1) := by decide +kernel
theorem dX7_turnAfterRemoving_83 : decode cX7_turnAfterRemoving 83 = .ok (.ifCond .ne 7, 3) := by decide +kernel
theorem dX7_turnAfterRemoving_86 : decode cX7_turnAfterRemoving 86 = .ok (.iconst 1, 1) := by decide +kernel
theorem dX7_turnAfterRemoving_87 : decode cX7_turnAfterRemoving 87 = .ok (.goto 4, 3) := by decide +kernel
theorem dX7_turnAfterRemoving_90 : decode cX7_turnAfterRemoving 90 = .ok (.iconst 0, 1) := by decide +kernel
theorem dX7_turnAfterRemoving_91 : decode cX7_turnAfterRemoving 91 = .ok (.invokevirtual 85, 3) := by decide +kernel
theorem dX7_turnAfterRemoving_94 : decode cX7_turnAfterRemoving 94 = .ok (.istore 4, 2) := by decide +kernel
theorem dX7_turnAfterRemoving_96 : decode cX7_turnAfterRemoving 96 = .ok (.aload_n 0, 1) := by decide +kernel
theorem dX7_turnAfterRemoving_97 : decode cX7_turnAfterRemoving 97 = .ok (.getfield 12, 3) := by decide +kernel
theorem dX7_turnAfterRemoving_100 : decode cX7_turnAfterRemoving 100 = .ok (.iload 4, 2) := by decide +kernel
theorem dX7_turnAfterRemoving_102 : decode cX7_turnAfterRemoving 102 = .ok (.invokevirtual 96, 3) := by decide +kernel
theorem dX7_turnAfterRemoving_105 : decode cX7_turnAfterRemoving 105 = .ok (.aload_n 0, 1) := by decide +kernel
theorem dX7_turnAfterRemoving_106 : decode cX7_turnAfterRemoving 106 = .ok (.getfield 12, 3) := by decide +kernel
theorem dX7_turnAfterRemoving_109 : decode cX7_turnAfterRemoving 109 = .ok (.iload 4, 2) := by decide +kernel
theorem dX7_turnAfterRemoving_111 : decode cX7_turnAfterRemoving 111 = .ok (.invokevirtual 96, 3) := by decide +kernel
theorem dX7_turnAfterRemoving_114 : decode cX7_turnAfterRemoving 114 = .ok (.aload_n 0, 1) := by decide +kernel
theorem dX7_turnAfterRemoving_115 : decode cX7_turnAfterRemoving 115 = .ok (.getfield 25, 3) := by decide +kernel
theorem dX7_turnAfterRemoving_118 : decode cX7_turnAfterRemoving 118 = .ok (.dup, 1) := by decide +kernel
theorem dX7_turnAfterRemoving_119 : decode cX7_turnAfterRemoving 119 = .ok (.getfield 99, 3) := by decide +kernel
theorem dX7_turnAfterRemoving_122 : decode cX7_turnAfterRemoving 122 = .ok (.iconst 2, 1) := by decide +kernel
theorem dX7_turnAfterRemoving_123 : decode cX7_turnAfterRemoving 123 = .ok (.iadd, 1) := by decide +kernel
theorem dX7_turnAfterRemoving_124 : decode cX7_turnAfterRemoving 124 = .ok (.putfield 99, 3) := by decide +kernel
theorem dX7_turnAfterRemoving_127 : decode cX7_turnAfterRemoving 127 = .ok (.aload_n 0, 1) := by decide +kernel
theorem dX7_turnAfterRemoving_128 : decode cX7_turnAfterRemoving 128 = .ok (.getfield 12, 3) := by decide +kernel
theorem dX7_turnAfterRemoving_131 : decode cX7_turnAfterRemoving 131 = .ok (.iload 4, 2) := by decide +kernel
theorem dX7_turnAfterRemoving_133 : decode cX7_turnAfterRemoving 133 = .ok (.iconst 2, 1) := by decide +kernel
theorem dX7_turnAfterRemoving_134 : decode cX7_turnAfterRemoving 134 = .ok (.invokevirtual 103, 3) := by decide +kernel
theorem dX7_turnAfterRemoving_137 : decode cX7_turnAfterRemoving 137 = .ok (.aload_n 0, 1) := by decide +kernel
theorem dX7_turnAfterRemoving_138 : decode cX7_turnAfterRemoving 138 = .ok (.getfield 12, 3) := by decide +kernel
theorem dX7_turnAfterRemoving_141 : decode cX7_turnAfterRemoving 141 = .ok (.iload_n 2, 1) := by decide +kernel
theorem dX7_turnAfterRemoving_142 : decode cX7_turnAfterRemoving 142 = .ok (.iconst (-1), 1) := by decide +kernel
theorem dX7_turnAfterRemoving_143 : decode cX7_turnAfterRemoving 143 = .ok (.invokevirtual 103, 3) := by decide +kernel
theorem dX7_turnAfterRemoving_146 : decode cX7_turnAfterRemoving 146 = .ok (.aload_n 0, 1) := by decide +kernel
theorem dX7_turnAfterRemoving_147 : decode cX7_turnAfterRemoving 147 = .ok (.getfield 12, 3) := by decide +kernel
theorem dX7_turnAfterRemoving_150 : decode cX7_turnAfterRemoving 150 = .ok (.iload_n 1, 1) := by decide +kernel
theorem dX7_turnAfterRemoving_151 : decode cX7_turnAfterRemoving 151 = .ok (.bipush (-2), 2) := by decide +kernel
theorem dX7_turnAfterRemoving_153 : decode cX7_turnAfterRemoving 153 = .ok (.invokevirtual 103, 3) := by decide +kernel
theorem dX7_turnAfterRemoving_156 : decode cX7_turnAfterRemoving 156 = .ok (.return_, 1) := by decide +kernel
theorem dX7_promote_0 : decode cX7_promote 0 = .ok (.aload_n 0, 1) := by decide +kernel
theorem dX7_promote_1 : decode cX7_promote 1 = .ok (.getfield 12, 3) := by decide +kernel
theorem dX7_promote_4 : decode cX7_promote 4 = .ok (.iload_n 1, 1) := by decide +kernel
theorem dX7_promote_5 : decode cX7_promote 5 = .ok (.iconst 1, 1) := by decide +kernel
theorem dX7_promote_6 : decode cX7_promote 6 = .ok (.invokevirtual 103, 3) := by decide +kernel
theorem dX7_promote_9 : decode cX7_promote 9 = .ok (.aload_n 0, 1) := by decide +kernel
theorem dX7_promote_10 : decode cX7_promote 10 = .ok (.getfield 25, 3) := by decide +kernel
theorem dX7_promote_13 : decode cX7_promote 13 = .ok (.dup, 1) := by decide +kernel
theorem dX7_promote_14 : decode cX7_promote 14 = .ok (.getfield 112, 3) := by decide +kernel
theorem dX7_promote_17 : decode cX7_promote 17 = .ok (.iconst 1, 1) := by decide +kernel
theorem dX7_promote_18 : decode cX7_promote 18 = .ok (.iadd, 1) := by decide +kernel
theorem dX7_promote_19 : decode cX7_promote 19 = .ok (.putfield 112, 3) := by decide +kernel
theorem dX7_promote_22 : decode cX7_promote 22 = .ok (.return_, 1) := by decide +kernel
theorem dX7_demote_0 : decode cX7_demote 0 = .ok (.aload_n 0, 1) := by decide +kernel
theorem dX7_demote_1 : decode cX7_demote 1 = .ok (.getfield 12, 3) := by decide +kernel
theorem dX7_demote_4 : decode cX7_demote 4 = .ok (.iload_n 1, 1) := by decide +kernel
theorem dX7_demote_5 : decode cX7_demote 5 = .ok (.iconst (-1), 1) := by decide +kernel
theorem dX7_demote_6 : decode cX7_demote 6 = .ok (.invokevirtual 103, 3) := by decide +kernel
theorem dX7_demote_9 : decode cX7_demote 9 = .ok (.aload_n 0, 1) := by decide +kernel
theorem dX7_demote_10 : decode cX7_demote 10 = .ok (.getfield 25, 3) := by decide +kernel
theorem dX7_demote_13 : decode cX7_demote 13 = .ok (.dup, 1) := by decide +kernel
theorem dX7_demote_14 : decode cX7_demote 14 = .ok (.getfield 115, 3) := by decide +kernel
theorem dX7_demote_17 : decode cX7_demote 17 = .ok (.iconst 1, 1) := by decide +kernel
theorem dX7_demote_18 : decode cX7_demote 18 = .ok (.iadd, 1) := by decide +kernel
theorem dX7_demote_19 : decode cX7_demote 19 = .ok (.putfield 115, 3) := by decide +kernel
theorem dX7_demote_22 : decode cX7_demote 22 = .ok (.return_, 1) := by decide +kernel
theorem dX8_init_0 : decode cX8_init 0 = .ok (.aload_n 0, 1) := by decide +kernel
theorem dX8_init_1 : decode cX8_init 1 = .ok (.invokespecial 1, 3) := by decide +kernel
theorem dX8_init_4 : decode cX8_init 4 = .ok (.aload_n 0, 1) := by decide +kernel
theorem dX8_init_5 : decode cX8_init 5 = .ok (.new 7, 3) := by decide +kernel
theorem dX8_init_8 : decode cX8_init 8 = .ok (.dup, 1) := by decide +kernel
theorem dX8_init_9 : decode cX8_init 9 = .ok (.invokespecial 9, 3) := by decide +kernel
theorem dX8_init_12 : decode cX8_init 12 = .ok (.putfield 10, 3) := by decide +kernel
theorem dX8_init_15 : decode cX8_init 15 = .ok (.aload_n 0, 1) := by decide +kernel
theorem dX8_init_16 : decode cX8_init 16 = .ok (.new 7, 3) := by decide +kernel
theorem dX8_init_19 : decode cX8_init 19 = .ok (.dup, 1) := by decide +kernel
theorem dX8_init_20 : decode cX8_init 20 = .ok (.invokespecial 9, 3) := by decide +kernel
theorem dX8_init_23 : decode cX8_init 23 = .ok (.putfield 16, 3) := by decide +kernel
theorem dX8_init_26 : decode cX8_init 26 = .ok (.aload_n 0, 1) := by decide +kernel
theorem dX8_init_27 : decode cX8_init 27 = .ok (.new 19, 3) := by decide +kernel
theorem dX8_init_30 : decode cX8_init 30 = .ok (.dup, 1) := by decide +kernel
theorem dX8_init_31 : decode cX8_init 31 = .ok (.invokespecial 21, 3) := by decide +kernel
theorem dX8_init_34 : decode cX8_init 34 = .ok (.putfield 22, 3) := by decide +kernel
theorem dX8_init_37 : decode cX8_init 37 = .ok (.aload_n 0, 1) := by decide +kernel
theorem dX8_init_38 : decode cX8_init 38 = .ok (.new 26, 3) := by decide +kernel
theorem dX8_init_41 : decode cX8_init 41 = .ok (.dup, 1) := by decide +kernel
theorem dX8_init_42 : decode cX8_init 42 = .ok (.invokespecial 28, 3) := by decide +kernel
theorem dX8_init_45 : decode cX8_init 45 = .ok (.putfield 29, 3) := by decide +kernel
theorem dX8_init_48 : decode cX8_init 48 = .ok (.aload_n 0, 1) := by decide +kernel
theorem dX8_init_49 : decode cX8_init 49 = .ok (.iconst 2, 1) := by decide +kernel
theorem dX8_init_50 : decode cX8_init 50 = .ok (.anewarray 33, 3) := by decide +kernel
theorem dX8_init_53 : decode cX8_init 53 = .ok (.putfield 35, 3) := by decide +kernel
theorem dX8_init_56 : decode cX8_init 56 = .ok (.iconst 0, 1) := by decide +kernel
theorem dX8_init_57 : decode cX8_init 57 = .ok (.istore_n 1, 1) := by decide +kernel
theorem dX8_init_58 : decode cX8_init 58 = .ok (.iload_n 1, 1) := by decide +kernel
theorem dX8_init_59 : decode cX8_init 59 = .ok (.iconst 2, 1) := by decide +kernel
theorem dX8_init_60 : decode cX8_init 60 = .ok (.if_icmp .ge 22, 3) := by decide +kernel
theorem dX8_init_63 : decode cX8_init 63 = .ok (.aload_n 0, 1) := by decide +kernel
theorem dX8_init_64 : decode cX8_init 64 = .ok (.getfield 35, 3) := by decide +kernel
theorem dX8_init_67 : decode cX8_init 67 = .ok (.iload_n 1, 1) := by decide +kernel
theorem dX8_init_68 : decode cX8_init 68 = .ok (.new 33, 3) := by decide +kernel
theorem dX8_init_71 : decode cX8_init 71 = .ok (.dup, 1) := by decide +kernel
theorem dX8_init_72 : decode cX8_init 72 = .ok (.invokespecial 39, 3) := by decide +kernel
theorem dX8_init_75 : decode cX8_init 75 = .ok (.aastore, 1) := by decide +kernel
theorem dX8_init_76 : decode cX8_init 76 = .ok (.iinc 1 1, 3) := by decide +kernel
theorem dX8_init_79 : decode cX8_init 79 = .ok (.goto (-21), 3) := by decide +kernel
theorem dX8_init_82 : decode cX8_init 82 = .ok (.return_, 1) := by decide +kernel
theorem dX8_told_0 : decode cX8_told 0 = .ok (.aload_n 0, 1) := by decide +kernel
theorem dX8_told_1 : decode cX8_told 1 = .ok (.getfield 10, 3) := by decide +kernel
theorem dX8_told_4 : decode cX8_told 4 = .ok (.getfield 40, 3) := by decide +kernel
theorem dX8_told_7 : decode cX8_told 7 = .ok (.astore_n 2, 1) := by decide +kernel
theorem dX8_told_8 : decode cX8_told 8 = .ok (.iload_n 1, 1) := by decide +kernel
theorem dX8_told_9 : decode cX8_told 9 = .ok (.tableswitch 236 0 16 #[83, 88, 97, 118, 123, 131, 142, 153, 164, 175, 186, 197, 202, 207, 212, 220, 228], 83) := by decide +kernel
theorem dX8_told_92 : decode cX8_told 92 = .ok (.aload_n 2, 1) := by decide +kernel
theorem dX8_told_93 : decode cX8_told 93 = .ok (.getfield 44, 3) := by decide +kernel
theorem dX8_told_96 : decode cX8_told 96 = .ok (.ireturn, 1) := by decide +kernel
theorem dX8_told_97 : decode cX8_told 97 = .ok (.aload_n 2, 1) := by decide +kernel
theorem dX8_told_98 : decode cX8_told 98 = .ok (.aload_n 2, 1) := by decide +kernel
theorem dX8_told_99 : decode cX8_told 99 = .ok (.getfield 50, 3) := by decide +kernel
theorem dX8_told_102 : decode cX8_told 102 = .ok (.invokevirtual 53, 3) := by decide +kernel
theorem dX8_told_105 : decode cX8_told 105 = .ok (.ireturn, 1) := by decide +kernel
theorem dX8_told_106 : decode cX8_told 106 = .ok (.aload_n 2, 1) := by decide +kernel
theorem dX8_told_107 : decode cX8_told 107 = .ok (.getfield 50, 3) := by decide +kernel
theorem dX8_told_110 : decode cX8_told 110 = .ok (.iconst (-1), 1) := by decide +kernel
theorem dX8_told_111 : decode cX8_told 111 = .ok (.if_icmp .ne 7, 3) := by decide +kernel
theorem dX8_told_114 : decode cX8_told 114 = .ok (.iconst (-1), 1) := by decide +kernel
theorem dX8_told_115 : decode cX8_told 115 = .ok (.goto 11, 3) := by decide +kernel
theorem dX8_told_118 : decode cX8_told 118 = .ok (.aload_n 2, 1) := by decide +kernel
theorem dX8_told_119 : decode cX8_told 119 = .ok (.aload_n 2, 1) := by decide +kernel
theorem dX8_told_120 : decode cX8_told 120 = .ok (.getfield 50, 3) := by decide +kernel
theorem dX8_told_123 : decode cX8_told 123 = .ok (.invokevirtual 57, 3) := by decide +kernel
theorem dX8_told_126 : decode cX8_told 126 = .ok (.ireturn, 1) := by decide +kernel
theorem dX8_told_127 : decode cX8_told 127 = .ok (.aload_n 2, 1) := by decide +kernel
theorem dX8_told_128 : decode cX8_told 128 = .ok (.invokestatic 60, 3) := by decide +kernel
theorem dX8_told_131 : decode cX8_told 131 = .ok (.ireturn, 1) := by decide +kernel
theorem dX8_told_132 : decode cX8_told 132 = .ok (.aload_n 2, 1) := by decide +kernel
theorem dX8_told_133 : decode cX8_told 133 = .ok (.iconst 0, 1) := by decide +kernel
theorem dX8_told_134 : decode cX8_told 134 = .ok (.ldc 66, 2) := by decide +kernel
theorem dX8_told_136 : decode cX8_told 136 = .ok (.invokestatic 67, 3) := by decide +kernel
theorem dX8_told_139 : decode cX8_told 139 = .ok (.ireturn, 1) := by decide +kernel
theorem dX8_told_140 : decode cX8_told 140 = .ok (.aload_n 0, 1) := by decide +kernel
theorem dX8_told_141 : decode cX8_told 141 = .ok (.getfield 10, 3) := by decide +kernel
theorem dX8_told_144 : decode cX8_told 144 = .ok (.getfield 71, 3) := by decide +kernel
theorem dX8_told_147 : decode cX8_told 147 = .ok (.getfield 75, 3) := by decide +kernel
theorem dX8_told_150 : decode cX8_told 150 = .ok (.ireturn, 1) := by decide +kernel
theorem dX8_told_151 : decode cX8_told 151 = .ok (.aload_n 0, 1) := by decide +kernel
theorem dX8_told_152 : decode cX8_told 152 = .ok (.getfield 10, 3) := by decide +kernel
theorem dX8_told_155 : decode cX8_told 155 = .ok (.getfield 71, 3) := by decide +kernel
theorem dX8_told_158 : decode cX8_told 158 = .ok (.getfield 80, 3) := by decide +kernel
theorem dX8_told_161 : decode cX8_told 161 = .ok (.ireturn, 1) := by decide +kernel
theorem dX8_told_162 : decode cX8_told 162 = .ok (.aload_n 0, 1) := by decide +kernel
theorem dX8_told_163 : decode cX8_told 163 = .ok (.getfield 10, 3) := by decide +kernel
theorem dX8_told_166 : decode cX8_told 166 = .ok (.getfield 71, 3) := by decide +kernel
theorem dX8_told_169 : decode cX8_told 169 = .ok (.getfield 83, 3) := by decide +kernel
theorem dX8_told_172 : decode cX8_told 172 = .ok (.ireturn, 1) := by decide +kernel
theorem dX8_told_173 : decode cX8_told 173 = .ok (.aload_n 0, 1) := by decide +kernel
theorem dX8_told_174 : decode cX8_told 174 = .ok (.getfield 10, 3) := by decide +kernel
theorem dX8_told_177 : decode cX8_told 177 = .ok (.getfield 86, 3) := by decide +kernel
theorem dX8_told_180 : decode cX8_told 180 = .ok (.getfield 75, 3) := by decide +kernel
theorem dX8_told_183 : decode cX8_told 183 = .ok (.ireturn, 1) := by decide +kernel
theorem dX8_told_184 : decode cX8_told 184 = .ok (.aload_n 0, 1) := by decide +kernel
theorem dX8_told_185 : decode cX8_told 185 = .ok (.getfield 10, 3) := by decide +kernel
theorem dX8_told_188 : decode cX8_told 188 = .ok (.getfield 86, 3) := by decide +kernel
theorem dX8_told_191 : decode cX8_told 191 = .ok (.getfield 80, 3) := by decide +kernel
theorem dX8_told_194 : decode cX8_told 194 = .ok (.ireturn, 1) := by decide +kernel
theorem dX8_told_195 : decode cX8_told 195 = .ok (.aload_n 0, 1) := by decide +kernel
theorem dX8_told_196 : decode cX8_told 196 = .ok (.getfield 10, 3) := by decide +kernel
theorem dX8_told_199 : decode cX8_told 199 = .ok (.getfield 86, 3) := by decide +kernel
theorem dX8_told_202 : decode cX8_told 202 = .ok (.getfield 83, 3) := by decide +kernel
theorem dX8_told_205 : decode cX8_told 205 = .ok (.ireturn, 1) := by decide +kernel
theorem dX8_told_206 : decode cX8_told 206 = .ok (.aload_n 2, 1) := by decide +kernel
theorem dX8_told_207 : decode cX8_told 207 = .ok (.invokestatic 89, 3) := by decide +kernel
theorem dX8_told_210 : decode cX8_told 210 = .ok (.ireturn, 1) := by decide +kernel
theorem dX8_told_211 : decode cX8_told 211 = .ok (.aload_n 2, 1) := by decide +kernel
theorem dX8_told_212 : decode cX8_told 212 = .ok (.invokestatic 92, 3) := by decide +kernel
theorem dX8_told_215 : decode cX8_told 215 = .ok (.ireturn, 1) := by decide +kernel
theorem dX8_told_216 : decode cX8_told 216 = .ok (.aload_n 0, 1) := by decide +kernel
theorem dX8_told_217 : decode cX8_told 217 = .ok (.invokevirtual 95, 3) := by decide +kernel
theorem dX8_told_220 : decode cX8_told 220 = .ok (.ireturn, 1) := by decide +kernel
theorem dX8_told_221 : decode cX8_told 221 = .ok (.aload_n 2, 1) := by decide +kernel
theorem dX8_told_222 : decode cX8_told 222 = .ok (.getfield 44, 3) := by decide +kernel
theorem dX8_told_225 : decode cX8_told 225 = .ok (.invokestatic 99, 3) := by decide +kernel
theorem dX8_told_228 : decode cX8_told 228 = .ok (.ireturn, 1) := by decide +kernel
theorem dX8_told_229 : decode cX8_told 229 = .ok (.aload_n 2, 1) := by decide +kernel
theorem dX8_told_230 : decode cX8_told 230 = .ok (.getfield 44, 3) := by decide +kernel
theorem dX8_told_233 : decode cX8_told 233 = .ok (.invokestatic 104, 3) := by decide +kernel
theorem dX8_told_236 : decode cX8_told 236 = .ok (.ireturn, 1) := by decide +kernel
theorem dX8_told_237 : decode cX8_told 237 = .ok (.aload_n 0, 1) := by decide +kernel
theorem dX8_told_238 : decode cX8_told 238 = .ok (.getfield 22, 3) := by decide +kernel
theorem dX8_told_241 : decode cX8_told 241 = .ok (.getfield 107, 3) := by decide +kernel
theorem dX8_told_244 : decode cX8_told 244 = .ok (.ireturn, 1) := by decide +kernel
theorem dX8_told_245 : decode cX8_told 245 = .ok (.ldc 110, 2) := by decide +kernel
theorem dX8_told_247 : decode cX8_told 247 = .ok (.ireturn, 1) := by decide +kernel
theorem dX8_node_0 : decode cX8_node 0 = .ok (.aload_n 0, 1) := by decide +kernel
theorem dX8_node_1 : decode cX8_node 1 = .ok (.getfield 10, 3) := by decide +kernel
theorem dX8_node_4 : decode cX8_node 4 = .ok (.getfield 40, 3) := by decide +kernel
theorem dX8_node_7 : decode cX8_node 7 = .ok (.astore_n 3, 1) := by decide +kernel
theorem dX8_node_8 : decode cX8_node 8 = .ok (.aload_n 3, 1) := by decide +kernel
theorem dX8_node_9 : decode cX8_node 9 = .ok (.iload_n 1, 1) := by decide +kernel
theorem dX8_node_10 : decode cX8_node 10 = .ok (.invokevirtual 111, 3) := by decide +kernel
theorem dX8_node_13 : decode cX8_node 13 = .ok (.istore 4, 2) := by decide +kernel
theorem dX8_node_15 : decode cX8_node 15 = .ok (.iload 4, 2) := by decide +kernel
theorem dX8_node_17 : decode cX8_node 17 = .ok (.iconst (-1), 1) := by decide +kernel
theorem dX8_node_18 : decode cX8_node 18 = .ok (.if_icmp .ne 6, 3) := by decide +kernel
theorem dX8_node_21 : decode cX8_node 21 = .ok (.ldc 114, 2) := by decide +kernel
theorem dX8_node_23 : decode cX8_node 23 = .ok (.ireturn, 1) := by decide +kernel
theorem dX8_node_24 : decode cX8_node 24 = .ok (.iload_n 2, 1) := by decide +kernel
theorem dX8_node_25 : decode cX8_node 25 = .ok (.tableswitch 119 0 6 #[43, 50, 57, 64, 75, 86, 93], 43) := by decide +kernel
theorem dX8_node_68 : decode cX8_node 68 = .ok (.aload_n 3, 1) := by decide +kernel
theorem dX8_node_69 : decode cX8_node 69 = .ok (.iload 4, 2) := by decide +kernel
theorem dX8_node_71 : decode cX8_node 71 = .ok (.invokevirtual 53, 3) := by decide +kernel
theorem dX8_node_74 : decode cX8_node 74 = .ok (.ireturn, 1) := by decide +kernel
theorem dX8_node_75 : decode cX8_node 75 = .ok (.aload_n 3, 1) := by decide +kernel
theorem dX8_node_76 : decode cX8_node 76 = .ok (.iload 4, 2) := by decide +kernel
theorem dX8_node_78 : decode cX8_node 78 = .ok (.invokevirtual 57, 3) := by decide +kernel
theorem dX8_node_81 : decode cX8_node 81 = .ok (.ireturn, 1) := by decide +kernel
theorem dX8_node_82 : decode cX8_node 82 = .ok (.aload_n 3, 1) := by decide +kernel
theorem dX8_node_83 : decode cX8_node 83 = .ok (.iload 4, 2) := by decide +kernel
theorem dX8_node_85 : decode cX8_node 85 = .ok (.invokevirtual 115, 3) := by decide +kernel
theorem dX8_node_88 : decode cX8_node 88 = .ok (.ireturn, 1) := by decide +kernel
theorem dX8_node_89 : decode cX8_node 89 = .ok (.aload_n 3, 1) := by decide +kernel
theorem dX8_node_90 : decode cX8_node 90 = .ok (.aload_n 3, 1) := by decide +kernel
theorem dX8_node_91 : decode cX8_node 91 = .ok (.iload 4, 2) := by decide +kernel
theorem dX8_node_93 : decode cX8_node 93 = .ok (.invokevirtual 118, 3) := by decide +kernel
theorem dX8_node_96 : decode cX8_node 96 = .ok (.invokevirtual 121, 3) := by decide +kernel
theorem dX8_node_99 : decode cX8_node 99 = .ok (.ireturn, 1) := by decide +kernel
theorem dX8_node_100 : decode cX8_node 100 = .ok (.aload_n 3, 1) := by decide +kernel
theorem dX8_node_101 : decode cX8_node 101 = .ok (.aload_n 3, 1) := by decide +kernel
theorem dX8_node_102 : decode cX8_node 102 = .ok (.iload 4, 2) := by decide +kernel
theorem dX8_node_104 : decode cX8_node 104 = .ok (.invokevirtual 124, 3) := by decide +kernel
theorem dX8_node_107 : decode cX8_node 107 = .ok (.invokevirtual 121, 3) := by decide +kernel
theorem dX8_node_110 : decode cX8_node 110 = .ok (.ireturn, 1) := by decide +kernel
theorem dX8_node_111 : decode cX8_node 111 = .ok (.aload_n 3, 1) := by decide +kernel
theorem dX8_node_112 : decode cX8_node 112 = .ok (.iload 4, 2) := by decide +kernel
theorem dX8_node_114 : decode cX8_node 114 = .ok (.invokestatic 127, 3) := by decide +kernel
theorem dX8_node_117 : decode cX8_node 117 = .ok (.ireturn, 1) := by decide +kernel
theorem dX8_node_118 : decode cX8_node 118 = .ok (.iload 4, 2) := by decide +kernel
theorem dX8_node_120 : decode cX8_node 120 = .ok (.aload_n 3, 1) := by decide +kernel
theorem dX8_node_121 : decode cX8_node 121 = .ok (.getfield 50, 3) := by decide +kernel
theorem dX8_node_124 : decode cX8_node 124 = .ok (.if_icmp .ne 7, 3) := by decide +kernel
theorem dX8_node_127 : decode cX8_node 127 = .ok (.iconst (-1), 1) := by decide +kernel
theorem dX8_node_128 : decode cX8_node 128 = .ok (.goto 15, 3) := by decide +kernel
theorem dX8_node_131 : decode cX8_node 131 = .ok (.aload_n 3, 1) := by decide +kernel
theorem dX8_node_132 : decode cX8_node 132 = .ok (.aload_n 3, 1) := by decide +kernel
theorem dX8_node_133 : decode cX8_node 133 = .ok (.iload 4, 2) := by decide +kernel
theorem dX8_node_135 : decode cX8_node 135 = .ok (.invokevirtual 131, 3) := by decide +kernel
theorem dX8_node_138 : decode cX8_node 138 = .ok (.iload 4, 2) := by decide +kernel
theorem dX8_node_140 : decode cX8_node 140 = .ok (.invokevirtual 134, 3) := by decide +kernel
theorem dX8_node_143 : decode cX8_node 143 = .ok (.ireturn, 1) := by decide +kernel
theorem dX8_node_144 : decode cX8_node 144 = .ok (.ldc 110, 2) := by decide +kernel
theorem dX8_node_146 : decode cX8_node 146 = .ok (.ireturn, 1) := by decide +kernel
theorem dX8_key_0 : decode cX8_key 0 = .ok (.aload_n 0, 1) := by decide +kernel
theorem dX8_key_1 : decode cX8_key 1 = .ok (.getfield 10, 3) := by decide +kernel
theorem dX8_key_4 : decode cX8_key 4 = .ok (.getfield 40, 3) := by decide +kernel
theorem dX8_key_7 : decode cX8_key 7 = .ok (.astore_n 3, 1) := by decide +kernel
theorem dX8_key_8 : decode cX8_key 8 = .ok (.aload_n 3, 1) := by decide +kernel
theorem dX8_key_9 : decode cX8_key 9 = .ok (.iload_n 1, 1) := by decide +kernel
theorem dX8_key_10 : decode cX8_key 10 = .ok (.invokevirtual 138, 3) := by decide +kernel
theorem dX8_key_13 : decode cX8_key 13 = .ok (.istore 4, 2) := by decide +kernel
theorem dX8_key_15 : decode cX8_key 15 = .ok (.iload 4, 2) := by decide +kernel
theorem dX8_key_17 : decode cX8_key 17 = .ok (.iconst (-1), 1) := by decide +kernel
theorem dX8_key_18 : decode cX8_key 18 = .ok (.if_icmp .ne 6, 3) := by decide +kernel
theorem dX8_key_21 : decode cX8_key 21 = .ok (.ldc 114, 2) := by decide +kernel
theorem dX8_key_23 : decode cX8_key 23 = .ok (.ireturn, 1) := by decide +kernel
theorem dX8_key_24 : decode cX8_key 24 = .ok (.iload_n 2, 1) := by decide +kernel
theorem dX8_key_25 : decode cX8_key 25 = .ok (.tableswitch 47 0 2 #[27, 34, 41], 27) := by decide +kernel
theorem dX8_key_52 : decode cX8_key 52 = .ok (.aload_n 3, 1) := by decide +kernel
theorem dX8_key_53 : decode cX8_key 53 = .ok (.iload 4, 2) := by decide +kernel
theorem dX8_key_55 : decode cX8_key 55 = .ok (.invokevirtual 141, 3) := by decide +kernel
theorem dX8_key_58 : decode cX8_key 58 = .ok (.ireturn, 1) := by decide +kernel
theorem dX8_key_59 : decode cX8_key 59 = .ok (.aload_n 3, 1) := by decide +kernel
theorem dX8_key_60 : decode cX8_key 60 = .ok (.iload 4, 2) := by decide +kernel
theorem dX8_key_62 : decode cX8_key 62 = .ok (.invokevirtual 121, 3) := by decide +kernel
theorem dX8_key_65 : decode cX8_key 65 = .ok (.ireturn, 1) := by decide +kernel
theorem dX8_key_66 : decode cX8_key 66 = .ok (.aload_n 3, 1) := by decide +kernel
theorem dX8_key_67 : decode cX8_key 67 = .ok (.iload_n 1, 1) := by decide +kernel
theorem dX8_key_68 : decode cX8_key 68 = .ok (.invokestatic 144, 3) := by decide +kernel
theorem dX8_key_71 : decode cX8_key 71 = .ok (.ireturn, 1) := by decide +kernel
theorem dX8_key_72 : decode cX8_key 72 = .ok (.ldc 110, 2) := by decide +kernel
theorem dX8_key_74 : decode cX8_key 74 = .ok (.ireturn, 1) := by decide +kernel
theorem dX8_at_0 : decode cX8_at 0 = .ok (.aload_n 0, 1) := by decide +kernel
theorem dX8_at_1 : decode cX8_at 1 = .ok (.getfield 10, 3) := by decide +kernel
theorem dX8_at_4 : decode cX8_at 4 = .ok (.getfield 40, 3) := by decide +kernel
theorem dX8_at_7 : decode cX8_at 7 = .ok (.astore_n 2, 1) := by decide +kernel
theorem dX8_at_8 : decode cX8_at 8 = .ok (.iload_n 1, 1) := by decide +kernel
theorem dX8_at_9 : decode cX8_at 9 = .ok (.ifCond .lt 11, 3) := by decide +kernel
theorem dX8_at_12 : decode cX8_at 12 = .ok (.iload_n 1, 1) := by decide +kernel
theorem dX8_at_13 : decode cX8_at 13 = .ok (.aload_n 2, 1) := by decide +kernel
theorem dX8_at_14 : decode cX8_at 14 = .ok (.getfield 44, 3) := by decide +kernel
theorem dX8_at_17 : decode cX8_at 17 = .ok (.if_icmp .lt 5, 3) := by decide +kernel
theorem dX8_at_20 : decode cX8_at 20 = .ok (.iconst (-1), 1) := by decide +kernel
theorem dX8_at_21 : decode cX8_at 21 = .ok (.ireturn, 1) := by decide +kernel
theorem dX8_at_22 : decode cX8_at 22 = .ok (.aload_n 2, 1) := by decide +kernel
theorem dX8_at_23 : decode cX8_at 23 = .ok (.aload_n 2, 1) := by decide +kernel
theorem dX8_at_24 : decode cX8_at 24 = .ok (.getfield 50, 3) := by decide +kernel
theorem dX8_at_27 : decode cX8_at 27 = .ok (.invokevirtual 147, 3) := by decide +kernel
theorem dX8_at_30 : decode cX8_at 30 = .ok (.istore_n 3, 1) := by decide +kernel
theorem dX8_at_31 : decode cX8_at 31 = .ok (.iconst 0, 1) := by decide +kernel
theorem dX8_at_32 : decode cX8_at 32 = .ok (.istore 4, 2) := by decide +kernel
theorem dX8_at_34 : decode cX8_at 34 = .ok (.iload 4, 2) := by decide +kernel
theorem dX8_at_36 : decode cX8_at 36 = .ok (.iload_n 1, 1) := by decide +kernel
end
section
theorem dX8_at_37 : decode cX8_at 37 = .ok (.if_icmp .ge 15, 3) := by decide +kernel
theorem dX8_at_40 : decode cX8_at 40 = .ok (.aload_n 2, 1) := by decide +kernel
theorem dX8_at_41 : decode cX8_at 41 = .ok (.iload_n 3, 1) := by decide +kernel
theorem dX8_at_42 : decode cX8_at 42 = .ok (.invokevirtual 150, 3) := by decide +kernel
theorem dX8_at_45 : decode cX8_at 45 = .ok (.istore_n 3, 1) := by decide +kernel
theorem dX8_at_46 : decode cX8_at 46 = .ok (.iinc 4 1, 3) := by decide +kernel
theorem dX8_at_49 : decode cX8_at 49 = .ok (.goto (-15), 3) := by decide +kernel
theorem dX8_at_52 : decode cX8_at 52 = .ok (.aload_n 2, 1) := by decide +kernel
theorem dX8_at_53 : decode cX8_at 53 = .ok (.iload_n 3, 1) := by decide +kernel
theorem dX8_at_54 : decode cX8_at 54 = .ok (.invokevirtual 53, 3) := by decide +kernel
theorem dX8_at_57 : decode cX8_at 57 = .ok (.ireturn, 1) := by decide +kernel
theorem dX8_put_0 : decode cX8_put 0 = .ok (.iload_n 1, 1) := by decide +kernel
theorem dX8_put_1 : decode cX8_put 1 = .ok (.invokestatic 153, 3) := by decide +kernel
theorem dX8_put_4 : decode cX8_put 4 = .ok (.ifCond .eq 10, 3) := by decide +kernel
theorem dX8_put_7 : decode cX8_put 7 = .ok (.iload_n 2, 1) := by decide +kernel
theorem dX8_put_8 : decode cX8_put 8 = .ok (.invokestatic 157, 3) := by decide +kernel
theorem dX8_put_11 : decode cX8_put 11 = .ok (.ifCond .ne 6, 3) := by decide +kernel
theorem dX8_put_14 : decode cX8_put 14 = .ok (.ldc 110, 2) := by decide +kernel
theorem dX8_put_16 : decode cX8_put 16 = .ok (.ireturn, 1) := by decide +kernel
theorem dX8_put_17 : decode cX8_put 17 = .ok (.aload_n 0, 1) := by decide +kernel
theorem dX8_put_18 : decode cX8_put 18 = .ok (.iload_n 1, 1) := by decide +kernel
theorem dX8_put_19 : decode cX8_put 19 = .ok (.invokevirtual 160, 3) := by decide +kernel
theorem dX8_put_22 : decode cX8_put 22 = .ok (.ifCond .eq 6, 3) := by decide +kernel
theorem dX8_put_25 : decode cX8_put 25 = .ok (.ldc 163, 2) := by decide +kernel
theorem dX8_put_27 : decode cX8_put 27 = .ok (.ireturn, 1) := by decide +kernel
theorem dX8_put_28 : decode cX8_put 28 = .ok (.aload_n 0, 1) := by decide +kernel
theorem dX8_put_29 : decode cX8_put 29 = .ok (.invokevirtual 164, 3) := by decide +kernel
theorem dX8_put_32 : decode cX8_put 32 = .ok (.ifCond .ne 6, 3) := by decide +kernel
theorem dX8_put_35 : decode cX8_put 35 = .ok (.ldc 168, 2) := by decide +kernel
theorem dX8_put_37 : decode cX8_put 37 = .ok (.ireturn, 1) := by decide +kernel
theorem dX8_put_38 : decode cX8_put 38 = .ok (.aload_n 0, 1) := by decide +kernel
theorem dX8_put_39 : decode cX8_put 39 = .ok (.getfield 22, 3) := by decide +kernel
theorem dX8_put_42 : decode cX8_put 42 = .ok (.aload_n 0, 1) := by decide +kernel
theorem dX8_put_43 : decode cX8_put 43 = .ok (.getfield 10, 3) := by decide +kernel
theorem dX8_put_46 : decode cX8_put 46 = .ok (.invokevirtual 169, 3) := by decide +kernel
theorem dX8_put_49 : decode cX8_put 49 = .ok (.aload_n 0, 1) := by decide +kernel
theorem dX8_put_50 : decode cX8_put 50 = .ok (.getfield 10, 3) := by decide +kernel
theorem dX8_put_53 : decode cX8_put 53 = .ok (.iload_n 1, 1) := by decide +kernel
theorem dX8_put_54 : decode cX8_put 54 = .ok (.iload_n 2, 1) := by decide +kernel
theorem dX8_put_55 : decode cX8_put 55 = .ok (.invokevirtual 173, 3) := by decide +kernel
theorem dX8_put_58 : decode cX8_put 58 = .ok (.aload_n 0, 1) := by decide +kernel
theorem dX8_put_59 : decode cX8_put 59 = .ok (.getfield 10, 3) := by decide +kernel
theorem dX8_put_62 : decode cX8_put 62 = .ok (.getfield 86, 3) := by decide +kernel
theorem dX8_put_65 : decode cX8_put 65 = .ok (.getfield 83, 3) := by decide +kernel
theorem dX8_put_68 : decode cX8_put 68 = .ok (.ireturn, 1) := by decide +kernel
theorem dX8_take_0 : decode cX8_take 0 = .ok (.iload_n 1, 1) := by decide +kernel
theorem dX8_take_1 : decode cX8_take 1 = .ok (.invokestatic 153, 3) := by decide +kernel
theorem dX8_take_4 : decode cX8_take 4 = .ok (.ifCond .ne 6, 3) := by decide +kernel
theorem dX8_take_7 : decode cX8_take 7 = .ok (.ldc 110, 2) := by decide +kernel
theorem dX8_take_9 : decode cX8_take 9 = .ok (.ireturn, 1) := by decide +kernel
theorem dX8_take_10 : decode cX8_take 10 = .ok (.aload_n 0, 1) := by decide +kernel
theorem dX8_take_11 : decode cX8_take 11 = .ok (.getfield 10, 3) := by decide +kernel
theorem dX8_take_14 : decode cX8_take 14 = .ok (.getfield 40, 3) := by decide +kernel
theorem dX8_take_17 : decode cX8_take 17 = .ok (.iload_n 1, 1) := by decide +kernel
theorem dX8_take_18 : decode cX8_take 18 = .ok (.invokevirtual 138, 3) := by decide +kernel
theorem dX8_take_21 : decode cX8_take 21 = .ok (.istore_n 2, 1) := by decide +kernel
theorem dX8_take_22 : decode cX8_take 22 = .ok (.iload_n 2, 1) := by decide +kernel
theorem dX8_take_23 : decode cX8_take 23 = .ok (.iconst (-1), 1) := by decide +kernel
theorem dX8_take_24 : decode cX8_take 24 = .ok (.if_icmp .ne 6, 3) := by decide +kernel
theorem dX8_take_27 : decode cX8_take 27 = .ok (.ldc 163, 2) := by decide +kernel
theorem dX8_take_29 : decode cX8_take 29 = .ok (.ireturn, 1) := by decide +kernel
theorem dX8_take_30 : decode cX8_take 30 = .ok (.aload_n 0, 1) := by decide +kernel
theorem dX8_take_31 : decode cX8_take 31 = .ok (.getfield 10, 3) := by decide +kernel
theorem dX8_take_34 : decode cX8_take 34 = .ok (.getfield 40, 3) := by decide +kernel
theorem dX8_take_37 : decode cX8_take 37 = .ok (.iload_n 2, 1) := by decide +kernel
theorem dX8_take_38 : decode cX8_take 38 = .ok (.invokevirtual 141, 3) := by decide +kernel
theorem dX8_take_41 : decode cX8_take 41 = .ok (.istore_n 3, 1) := by decide +kernel
theorem dX8_take_42 : decode cX8_take 42 = .ok (.aload_n 0, 1) := by decide +kernel
theorem dX8_take_43 : decode cX8_take 43 = .ok (.getfield 22, 3) := by decide +kernel
theorem dX8_take_46 : decode cX8_take 46 = .ok (.aload_n 0, 1) := by decide +kernel
theorem dX8_take_47 : decode cX8_take 47 = .ok (.getfield 10, 3) := by decide +kernel
theorem dX8_take_50 : decode cX8_take 50 = .ok (.invokevirtual 169, 3) := by decide +kernel
theorem dX8_take_53 : decode cX8_take 53 = .ok (.aload_n 0, 1) := by decide +kernel
theorem dX8_take_54 : decode cX8_take 54 = .ok (.getfield 10, 3) := by decide +kernel
theorem dX8_take_57 : decode cX8_take 57 = .ok (.iload_n 2, 1) := by decide +kernel
theorem dX8_take_58 : decode cX8_take 58 = .ok (.invokevirtual 177, 3) := by decide +kernel
theorem dX8_take_61 : decode cX8_take 61 = .ok (.iload_n 3, 1) := by decide +kernel
theorem dX8_take_62 : decode cX8_take 62 = .ok (.ireturn, 1) := by decide +kernel
theorem dX8_worth_0 : decode cX8_worth 0 = .ok (.aload_n 0, 1) := by decide +kernel
theorem dX8_worth_1 : decode cX8_worth 1 = .ok (.getfield 10, 3) := by decide +kernel
theorem dX8_worth_4 : decode cX8_worth 4 = .ok (.getfield 40, 3) := by decide +kernel
theorem dX8_worth_7 : decode cX8_worth 7 = .ok (.iload_n 1, 1) := by decide +kernel
theorem dX8_worth_8 : decode cX8_worth 8 = .ok (.invokevirtual 138, 3) := by decide +kernel
theorem dX8_worth_11 : decode cX8_worth 11 = .ok (.istore_n 3, 1) := by decide +kernel
theorem dX8_worth_12 : decode cX8_worth 12 = .ok (.iload_n 3, 1) := by decide +kernel
theorem dX8_worth_13 : decode cX8_worth 13 = .ok (.iconst (-1), 1) := by decide +kernel
theorem dX8_worth_14 : decode cX8_worth 14 = .ok (.if_icmp .ne 6, 3) := by decide +kernel
theorem dX8_worth_17 : decode cX8_worth 17 = .ok (.ldc 114, 2) := by decide +kernel
theorem dX8_worth_19 : decode cX8_worth 19 = .ok (.ireturn, 1) := by decide +kernel
theorem dX8_worth_20 : decode cX8_worth 20 = .ok (.iload_n 2, 1) := by decide +kernel
theorem dX8_worth_21 : decode cX8_worth 21 = .ok (.invokestatic 157, 3) := by decide +kernel
theorem dX8_worth_24 : decode cX8_worth 24 = .ok (.ifCond .ne 6, 3) := by decide +kernel
theorem dX8_worth_27 : decode cX8_worth 27 = .ok (.ldc 110, 2) := by decide +kernel
theorem dX8_worth_29 : decode cX8_worth 29 = .ok (.ireturn, 1) := by decide +kernel
theorem dX8_worth_30 : decode cX8_worth 30 = .ok (.aload_n 0, 1) := by decide +kernel
theorem dX8_worth_31 : decode cX8_worth 31 = .ok (.getfield 10, 3) := by decide +kernel
theorem dX8_worth_34 : decode cX8_worth 34 = .ok (.getfield 40, 3) := by decide +kernel
theorem dX8_worth_37 : decode cX8_worth 37 = .ok (.iload_n 3, 1) := by decide +kernel
theorem dX8_worth_38 : decode cX8_worth 38 = .ok (.invokevirtual 141, 3) := by decide +kernel
theorem dX8_worth_41 : decode cX8_worth 41 = .ok (.istore 4, 2) := by decide +kernel
theorem dX8_worth_43 : decode cX8_worth 43 = .ok (.aload_n 0, 1) := by decide +kernel
theorem dX8_worth_44 : decode cX8_worth 44 = .ok (.getfield 22, 3) := by decide +kernel
theorem dX8_worth_47 : decode cX8_worth 47 = .ok (.aload_n 0, 1) := by decide +kernel
theorem dX8_worth_48 : decode cX8_worth 48 = .ok (.getfield 10, 3) := by decide +kernel
theorem dX8_worth_51 : decode cX8_worth 51 = .ok (.invokevirtual 169, 3) := by decide +kernel
theorem dX8_worth_54 : decode cX8_worth 54 = .ok (.aload_n 0, 1) := by decide +kernel
theorem dX8_worth_55 : decode cX8_worth 55 = .ok (.getfield 10, 3) := by decide +kernel
theorem dX8_worth_58 : decode cX8_worth 58 = .ok (.getfield 40, 3) := by decide +kernel
theorem dX8_worth_61 : decode cX8_worth 61 = .ok (.iload_n 3, 1) := by decide +kernel
theorem dX8_worth_62 : decode cX8_worth 62 = .ok (.iload_n 2, 1) := by decide +kernel
theorem dX8_worth_63 : decode cX8_worth 63 = .ok (.invokevirtual 181, 3) := by decide +kernel
theorem dX8_worth_66 : decode cX8_worth 66 = .ok (.iload 4, 2) := by decide +kernel
theorem dX8_worth_68 : decode cX8_worth 68 = .ok (.ireturn, 1) := by decide +kernel
theorem dX8_cut_0 : decode cX8_cut 0 = .ok (.iload_n 1, 1) := by decide +kernel
theorem dX8_cut_1 : decode cX8_cut 1 = .ok (.iconst 0, 1) := by decide +kernel
theorem dX8_cut_2 : decode cX8_cut 2 = .ok (.ldc 184, 2) := by decide +kernel
theorem dX8_cut_4 : decode cX8_cut 4 = .ok (.invokestatic 185, 3) := by decide +kernel
theorem dX8_cut_7 : decode cX8_cut 7 = .ok (.ifCond .ne 6, 3) := by decide +kernel
theorem dX8_cut_10 : decode cX8_cut 10 = .ok (.ldc 110, 2) := by decide +kernel
theorem dX8_cut_12 : decode cX8_cut 12 = .ok (.ireturn, 1) := by decide +kernel
theorem dX8_cut_13 : decode cX8_cut 13 = .ok (.aload_n 0, 1) := by decide +kernel
theorem dX8_cut_14 : decode cX8_cut 14 = .ok (.getfield 22, 3) := by decide +kernel
theorem dX8_cut_17 : decode cX8_cut 17 = .ok (.aload_n 0, 1) := by decide +kernel
theorem dX8_cut_18 : decode cX8_cut 18 = .ok (.getfield 10, 3) := by decide +kernel
theorem dX8_cut_21 : decode cX8_cut 21 = .ok (.invokevirtual 169, 3) := by decide +kernel
theorem dX8_cut_24 : decode cX8_cut 24 = .ok (.aload_n 0, 1) := by decide +kernel
theorem dX8_cut_25 : decode cX8_cut 25 = .ok (.getfield 10, 3) := by decide +kernel
theorem dX8_cut_28 : decode cX8_cut 28 = .ok (.getfield 40, 3) := by decide +kernel
theorem dX8_cut_31 : decode cX8_cut 31 = .ok (.iload_n 1, 1) := by decide +kernel
theorem dX8_cut_32 : decode cX8_cut 32 = .ok (.invokestatic 144, 3) := by decide +kernel
theorem dX8_cut_35 : decode cX8_cut 35 = .ok (.istore_n 2, 1) := by decide +kernel
theorem dX8_cut_36 : decode cX8_cut 36 = .ok (.iconst 0, 1) := by decide +kernel
theorem dX8_cut_37 : decode cX8_cut 37 = .ok (.istore_n 3, 1) := by decide +kernel
theorem dX8_cut_38 : decode cX8_cut 38 = .ok (.iload_n 3, 1) := by decide +kernel
theorem dX8_cut_39 : decode cX8_cut 39 = .ok (.iload_n 2, 1) := by decide +kernel
theorem dX8_cut_40 : decode cX8_cut 40 = .ok (.if_icmp .ge 36, 3) := by decide +kernel
theorem dX8_cut_43 : decode cX8_cut 43 = .ok (.aload_n 0, 1) := by decide +kernel
theorem dX8_cut_44 : decode cX8_cut 44 = .ok (.getfield 10, 3) := by decide +kernel
theorem dX8_cut_47 : decode cX8_cut 47 = .ok (.aload_n 0, 1) := by decide +kernel
theorem dX8_cut_48 : decode cX8_cut 48 = .ok (.getfield 10, 3) := by decide +kernel
theorem dX8_cut_51 : decode cX8_cut 51 = .ok (.getfield 40, 3) := by decide +kernel
theorem dX8_cut_54 : decode cX8_cut 54 = .ok (.aload_n 0, 1) := by decide +kernel
theorem dX8_cut_55 : decode cX8_cut 55 = .ok (.getfield 10, 3) := by decide +kernel
theorem dX8_cut_58 : decode cX8_cut 58 = .ok (.getfield 40, 3) := by decide +kernel
theorem dX8_cut_61 : decode cX8_cut 61 = .ok (.getfield 50, 3) := by decide +kernel
theorem dX8_cut_64 : decode cX8_cut 64 = .ok (.invokevirtual 147, 3) := by decide +kernel
theorem dX8_cut_67 : decode cX8_cut 67 = .ok (.invokevirtual 177, 3) := by decide +kernel
theorem dX8_cut_70 : decode cX8_cut 70 = .ok (.iinc 3 1, 3) := by decide +kernel
theorem dX8_cut_73 : decode cX8_cut 73 = .ok (.goto (-35), 3) := by decide +kernel
theorem dX8_cut_76 : decode cX8_cut 76 = .ok (.iload_n 2, 1) := by decide +kernel
theorem dX8_cut_77 : decode cX8_cut 77 = .ok (.ireturn, 1) := by decide +kernel
theorem dX8_batch_0 : decode cX8_batch 0 = .ok (.iload_n 1, 1) := by decide +kernel
theorem dX8_batch_1 : decode cX8_batch 1 = .ok (.iconst 1, 1) := by decide +kernel
theorem dX8_batch_2 : decode cX8_batch 2 = .ok (.bipush 30, 2) := by decide +kernel
theorem dX8_batch_4 : decode cX8_batch 4 = .ok (.invokestatic 185, 3) := by decide +kernel
theorem dX8_batch_7 : decode cX8_batch 7 = .ok (.ifCond .eq 21, 3) := by decide +kernel
theorem dX8_batch_10 : decode cX8_batch 10 = .ok (.iload_n 2, 1) := by decide +kernel
theorem dX8_batch_11 : decode cX8_batch 11 = .ok (.invokestatic 153, 3) := by decide +kernel
theorem dX8_batch_14 : decode cX8_batch 14 = .ok (.ifCond .eq 14, 3) := by decide +kernel
theorem dX8_batch_17 : decode cX8_batch 17 = .ok (.iload_n 3, 1) := by decide +kernel
theorem dX8_batch_18 : decode cX8_batch 18 = .ok (.iconst 1, 1) := by decide +kernel
theorem dX8_batch_19 : decode cX8_batch 19 = .ok (.sipush 9999, 3) := by decide +kernel
theorem dX8_batch_22 : decode cX8_batch 22 = .ok (.invokestatic 185, 3) := by decide +kernel
theorem dX8_batch_25 : decode cX8_batch 25 = .ok (.ifCond .ne 6, 3) := by decide +kernel
theorem dX8_batch_28 : decode cX8_batch 28 = .ok (.ldc 110, 2) := by decide +kernel
theorem dX8_batch_30 : decode cX8_batch 30 = .ok (.ireturn, 1) := by decide +kernel
theorem dX8_batch_31 : decode cX8_batch 31 = .ok (.aload_n 0, 1) := by decide +kernel
theorem dX8_batch_32 : decode cX8_batch 32 = .ok (.getfield 22, 3) := by decide +kernel
theorem dX8_batch_35 : decode cX8_batch 35 = .ok (.aload_n 0, 1) := by decide +kernel
theorem dX8_batch_36 : decode cX8_batch 36 = .ok (.getfield 10, 3) := by decide +kernel
theorem dX8_batch_39 : decode cX8_batch 39 = .ok (.invokevirtual 169, 3) := by decide +kernel
theorem dX8_batch_42 : decode cX8_batch 42 = .ok (.aload_n 0, 1) := by decide +kernel
theorem dX8_batch_43 : decode cX8_batch 43 = .ok (.getfield 10, 3) := by decide +kernel
theorem dX8_batch_46 : decode cX8_batch 46 = .ok (.getfield 40, 3) := by decide +kernel
theorem dX8_batch_49 : decode cX8_batch 49 = .ok (.getfield 44, 3) := by decide +kernel
theorem dX8_batch_52 : decode cX8_batch 52 = .ok (.istore 4, 2) := by decide +kernel
theorem dX8_batch_54 : decode cX8_batch 54 = .ok (.iconst 0, 1) := by decide +kernel
theorem dX8_batch_55 : decode cX8_batch 55 = .ok (.istore 5, 2) := by decide +kernel
theorem dX8_batch_57 : decode cX8_batch 57 = .ok (.iload 5, 2) := by decide +kernel
theorem dX8_batch_59 : decode cX8_batch 59 = .ok (.iload_n 1, 1) := by decide +kernel
theorem dX8_batch_60 : decode cX8_batch 60 = .ok (.if_icmp .ge 20, 3) := by decide +kernel
theorem dX8_batch_63 : decode cX8_batch 63 = .ok (.aload_n 0, 1) := by decide +kernel
theorem dX8_batch_64 : decode cX8_batch 64 = .ok (.iload_n 2, 1) := by decide +kernel
theorem dX8_batch_65 : decode cX8_batch 65 = .ok (.iload 5, 2) := by decide +kernel
theorem dX8_batch_67 : decode cX8_batch 67 = .ok (.iload_n 3, 1) := by decide +kernel
theorem dX8_batch_68 : decode cX8_batch 68 = .ok (.imul, 1) := by decide +kernel
theorem dX8_batch_69 : decode cX8_batch 69 = .ok (.iadd, 1) := by decide +kernel
theorem dX8_batch_70 : decode cX8_batch 70 = .ok (.iconst 1, 1) := by decide +kernel
theorem dX8_batch_71 : decode cX8_batch 71 = .ok (.invokevirtual 189, 3) := by decide +kernel
theorem dX8_batch_74 : decode cX8_batch 74 = .ok (.iinc 5 1, 3) := by decide +kernel
theorem dX8_batch_77 : decode cX8_batch 77 = .ok (.goto (-20), 3) := by decide +kernel
theorem dX8_batch_80 : decode cX8_batch 80 = .ok (.aload_n 0, 1) := by decide +kernel
theorem dX8_batch_81 : decode cX8_batch 81 = .ok (.getfield 10, 3) := by decide +kernel
theorem dX8_batch_84 : decode cX8_batch 84 = .ok (.getfield 40, 3) := by decide +kernel
theorem dX8_batch_87 : decode cX8_batch 87 = .ok (.getfield 44, 3) := by decide +kernel
theorem dX8_batch_90 : decode cX8_batch 90 = .ok (.iload 4, 2) := by decide +kernel
theorem dX8_batch_92 : decode cX8_batch 92 = .ok (.isub, 1) := by decide +kernel
theorem dX8_batch_93 : decode cX8_batch 93 = .ok (.ireturn, 1) := by decide +kernel
theorem dX8_rebuild_0 : decode cX8_rebuild 0 = .ok (.aload_n 0, 1) := by decide +kernel
theorem dX8_rebuild_1 : decode cX8_rebuild 1 = .ok (.getfield 22, 3) := by decide +kernel
theorem dX8_rebuild_4 : decode cX8_rebuild 4 = .ok (.aload_n 0, 1) := by decide +kernel
theorem dX8_rebuild_5 : decode cX8_rebuild 5 = .ok (.getfield 10, 3) := by decide +kernel
theorem dX8_rebuild_8 : decode cX8_rebuild 8 = .ok (.invokevirtual 169, 3) := by decide +kernel
theorem dX8_rebuild_11 : decode cX8_rebuild 11 = .ok (.aload_n 0, 1) := by decide +kernel
theorem dX8_rebuild_12 : decode cX8_rebuild 12 = .ok (.getfield 16, 3) := by decide +kernel
theorem dX8_rebuild_15 : decode cX8_rebuild 15 = .ok (.aload_n 0, 1) := by decide +kernel
theorem dX8_rebuild_16 : decode cX8_rebuild 16 = .ok (.getfield 10, 3) := by decide +kernel
theorem dX8_rebuild_19 : decode cX8_rebuild 19 = .ok (.invokevirtual 192, 3) := by decide +kernel
theorem dX8_rebuild_22 : decode cX8_rebuild 22 = .ok (.aload_n 0, 1) := by decide +kernel
theorem dX8_rebuild_23 : decode cX8_rebuild 23 = .ok (.getfield 10, 3) := by decide +kernel
theorem dX8_rebuild_26 : decode cX8_rebuild 26 = .ok (.getfield 40, 3) := by decide +kernel
theorem dX8_rebuild_29 : decode cX8_rebuild 29 = .ok (.invokevirtual 195, 3) := by decide +kernel
theorem dX8_rebuild_32 : decode cX8_rebuild 32 = .ok (.aload_n 0, 1) := by decide +kernel
theorem dX8_rebuild_33 : decode cX8_rebuild 33 = .ok (.aload_n 0, 1) := by decide +kernel
theorem dX8_rebuild_34 : decode cX8_rebuild 34 = .ok (.getfield 16, 3) := by decide +kernel
theorem dX8_rebuild_37 : decode cX8_rebuild 37 = .ok (.getfield 40, 3) := by decide +kernel
theorem dX8_rebuild_40 : decode cX8_rebuild 40 = .ok (.iconst (-1), 1) := by decide +kernel
theorem dX8_rebuild_41 : decode cX8_rebuild 41 = .ok (.invokevirtual 198, 3) := by decide +kernel
theorem dX8_rebuild_44 : decode cX8_rebuild 44 = .ok (.aload_n 0, 1) := by decide +kernel
theorem dX8_rebuild_45 : decode cX8_rebuild 45 = .ok (.getfield 10, 3) := by decide +kernel
theorem dX8_rebuild_48 : decode cX8_rebuild 48 = .ok (.getfield 40, 3) := by decide +kernel
theorem dX8_rebuild_51 : decode cX8_rebuild 51 = .ok (.invokestatic 60, 3) := by decide +kernel
theorem dX8_rebuild_54 : decode cX8_rebuild 54 = .ok (.ireturn, 1) := by decide +kernel
theorem dX8_join_0 : decode cX8_join 0 = .ok (.iload_n 1, 1) := by decide +kernel
theorem dX8_join_1 : decode cX8_join 1 = .ok (.invokestatic 202, 3) := by decide +kernel
theorem dX8_join_4 : decode cX8_join 4 = .ok (.ifCond .ne 6, 3) := by decide +kernel
theorem dX8_join_7 : decode cX8_join 7 = .ok (.ldc 114, 2) := by decide +kernel
theorem dX8_join_9 : decode cX8_join 9 = .ok (.ireturn, 1) := by decide +kernel
theorem dX8_join_10 : decode cX8_join 10 = .ok (.aload_n 0, 1) := by decide +kernel
theorem dX8_join_11 : decode cX8_join 11 = .ok (.getfield 35, 3) := by decide +kernel
theorem dX8_join_14 : decode cX8_join 14 = .ok (.iload_n 1, 1) := by decide +kernel
theorem dX8_join_15 : decode cX8_join 15 = .ok (.aaload, 1) := by decide +kernel
theorem dX8_join_16 : decode cX8_join 16 = .ok (.getfield 205, 3) := by decide +kernel
theorem dX8_join_19 : decode cX8_join 19 = .ok (.ifCond .ne 6, 3) := by decide +kernel
theorem dX8_join_22 : decode cX8_join 22 = .ok (.ldc 163, 2) := by decide +kernel
theorem dX8_join_24 : decode cX8_join 24 = .ok (.ireturn, 1) := by decide +kernel
theorem dX8_join_25 : decode cX8_join 25 = .ok (.aload_n 0, 1) := by decide +kernel
theorem dX8_join_26 : decode cX8_join 26 = .ok (.getfield 22, 3) := by decide +kernel
theorem dX8_join_29 : decode cX8_join 29 = .ok (.aload_n 0, 1) := by decide +kernel
theorem dX8_join_30 : decode cX8_join 30 = .ok (.getfield 10, 3) := by decide +kernel
theorem dX8_join_33 : decode cX8_join 33 = .ok (.invokevirtual 169, 3) := by decide +kernel
theorem dX8_join_36 : decode cX8_join 36 = .ok (.aload_n 0, 1) := by decide +kernel
theorem dX8_join_37 : decode cX8_join 37 = .ok (.getfield 10, 3) := by decide +kernel
theorem dX8_join_40 : decode cX8_join 40 = .ok (.getfield 40, 3) := by decide +kernel
theorem dX8_join_43 : decode cX8_join 43 = .ok (.getfield 44, 3) := by decide +kernel
theorem dX8_join_46 : decode cX8_join 46 = .ok (.istore_n 2, 1) := by decide +kernel
theorem dX8_join_47 : decode cX8_join 47 = .ok (.aload_n 0, 1) := by decide +kernel
theorem dX8_join_48 : decode cX8_join 48 = .ok (.getfield 10, 3) := by decide +kernel
theorem dX8_join_51 : decode cX8_join 51 = .ok (.getfield 40, 3) := by decide +kernel
theorem dX8_join_54 : decode cX8_join 54 = .ok (.aload_n 0, 1) := by decide +kernel
theorem dX8_join_55 : decode cX8_join 55 = .ok (.getfield 10, 3) := by decide +kernel
theorem dX8_join_58 : decode cX8_join 58 = .ok (.getfield 40, 3) := by decide +kernel
theorem dX8_join_61 : decode cX8_join 61 = .ok (.aload_n 0, 1) := by decide +kernel
theorem dX8_join_62 : decode cX8_join 62 = .ok (.getfield 10, 3) := by decide +kernel
theorem dX8_join_65 : decode cX8_join 65 = .ok (.getfield 40, 3) := by decide +kernel
theorem dX8_join_68 : decode cX8_join 68 = .ok (.getfield 50, 3) := by decide +kernel
theorem dX8_join_71 : decode cX8_join 71 = .ok (.invokevirtual 209, 3) := by decide +kernel
theorem dX8_join_74 : decode cX8_join 74 = .ok (.invokevirtual 53, 3) := by decide +kernel
theorem dX8_join_77 : decode cX8_join 77 = .ok (.istore_n 3, 1) := by decide +kernel
theorem dX8_join_78 : decode cX8_join 78 = .ok (.aload_n 0, 1) := by decide +kernel
theorem dX8_join_79 : decode cX8_join 79 = .ok (.aload_n 0, 1) := by decide +kernel
theorem dX8_join_80 : decode cX8_join 80 = .ok (.getfield 35, 3) := by decide +kernel
theorem dX8_join_83 : decode cX8_join 83 = .ok (.iload_n 1, 1) := by decide +kernel
theorem dX8_join_84 : decode cX8_join 84 = .ok (.aaload, 1) := by decide +kernel
theorem dX8_join_85 : decode cX8_join 85 = .ok (.getfield 212, 3) := by decide +kernel
theorem dX8_join_88 : decode cX8_join 88 = .ok (.getfield 40, 3) := by decide +kernel
theorem dX8_join_91 : decode cX8_join 91 = .ok (.iload_n 3, 1) := by decide +kernel
theorem dX8_join_92 : decode cX8_join 92 = .ok (.invokevirtual 198, 3) := by decide +kernel
theorem dX8_join_95 : decode cX8_join 95 = .ok (.aload_n 0, 1) := by decide +kernel
theorem dX8_join_96 : decode cX8_join 96 = .ok (.getfield 10, 3) := by decide +kernel
theorem dX8_join_99 : decode cX8_join 99 = .ok (.getfield 40, 3) := by decide +kernel
theorem dX8_join_102 : decode cX8_join 102 = .ok (.getfield 44, 3) := by decide +kernel
theorem dX8_join_105 : decode cX8_join 105 = .ok (.iload_n 2, 1) := by decide +kernel
theorem dX8_join_106 : decode cX8_join 106 = .ok (.isub, 1) := by decide +kernel
theorem dX8_join_107 : decode cX8_join 107 = .ok (.ireturn, 1) := by decide +kernel
theorem dX8_drift_0 : decode cX8_drift 0 = .ok (.iload_n 1, 1) := by decide +kernel
theorem dX8_drift_1 : decode cX8_drift 1 = .ok (.iconst 1, 1) := by decide +kernel
theorem dX8_drift_2 : decode cX8_drift 2 = .ok (.bipush 12, 2) := by decide +kernel
theorem dX8_drift_4 : decode cX8_drift 4 = .ok (.invokestatic 185, 3) := by decide +kernel
theorem dX8_drift_7 : decode cX8_drift 7 = .ok (.ifCond .ne 6, 3) := by decide +kernel
theorem dX8_drift_10 : decode cX8_drift 10 = .ok (.ldc 110, 2) := by decide +kernel
theorem dX8_drift_12 : decode cX8_drift 12 = .ok (.ireturn, 1) := by decide +kernel
theorem dX8_drift_13 : decode cX8_drift 13 = .ok (.iconst 0, 1) := by decide +kernel
theorem dX8_drift_14 : decode cX8_drift 14 = .ok (.istore_n 2, 1) := by decide +kernel
theorem dX8_drift_15 : decode cX8_drift 15 = .ok (.iload_n 2, 1) := by decide +kernel
theorem dX8_drift_16 : decode cX8_drift 16 = .ok (.iload_n 1, 1) := by decide +kernel
theorem dX8_drift_17 : decode cX8_drift 17 = .ok (.if_icmp .ge 24, 3) := by decide +kernel
theorem dX8_drift_20 : decode cX8_drift 20 = .ok (.aload_n 0, 1) := by decide +kernel
theorem dX8_drift_21 : decode cX8_drift 21 = .ok (.getfield 22, 3) := by decide +kernel
theorem dX8_drift_24 : decode cX8_drift 24 = .ok (.aload_n 0, 1) := by decide +kernel
theorem dX8_drift_25 : decode cX8_drift 25 = .ok (.getfield 10, 3) := by decide +kernel
theorem dX8_drift_28 : decode cX8_drift 28 = .ok (.invokevirtual 169, 3) := by decide +kernel
theorem dX8_drift_31 : decode cX8_drift 31 = .ok (.aload_n 0, 1) := by decide +kernel
theorem dX8_drift_32 : decode cX8_drift 32 = .ok (.invokevirtual 213, 3) := by decide +kernel
theorem dX8_drift_35 : decode cX8_drift 35 = .ok (.iinc 2 1, 3) := by decide +kernel
theorem dX8_drift_38 : decode cX8_drift 38 = .ok (.goto (-23), 3) := by decide +kernel
theorem dX8_drift_41 : decode cX8_drift 41 = .ok (.aload_n 0, 1) := by decide +kernel
theorem dX8_drift_42 : decode cX8_drift 42 = .ok (.getfield 10, 3) := by decide +kernel
theorem dX8_drift_45 : decode cX8_drift 45 = .ok (.getfield 40, 3) := by decide +kernel
theorem dX8_drift_48 : decode cX8_drift 48 = .ok (.getfield 44, 3) := by decide +kernel
theorem dX8_drift_51 : decode cX8_drift 51 = .ok (.ireturn, 1) := by decide +kernel
theorem dX8_undo_0 : decode cX8_undo 0 = .ok (.iload_n 1, 1) := by decide +kernel
theorem dX8_undo_1 : decode cX8_undo 1 = .ok (.iconst 1, 1) := by decide +kernel
theorem dX8_undo_2 : decode cX8_undo 2 = .ok (.bipush 12, 2) := by decide +kernel
theorem dX8_undo_4 : decode cX8_undo 4 = .ok (.invokestatic 185, 3) := by decide +kernel
theorem dX8_undo_7 : decode cX8_undo 7 = .ok (.ifCond .ne 6, 3) := by decide +kernel
theorem dX8_undo_10 : decode cX8_undo 10 = .ok (.ldc 110, 2) := by decide +kernel
theorem dX8_undo_12 : decode cX8_undo 12 = .ok (.ireturn, 1) := by decide +kernel
theorem dX8_undo_13 : decode cX8_undo 13 = .ok (.iload_n 1, 1) := by decide +kernel
theorem dX8_undo_14 : decode cX8_undo 14 = .ok (.aload_n 0, 1) := by decide +kernel
theorem dX8_undo_15 : decode cX8_undo 15 = .ok (.getfield 22, 3) := by decide +kernel
theorem dX8_undo_18 : decode cX8_undo 18 = .ok (.getfield 107, 3) := by decide +kernel
theorem dX8_undo_21 : decode cX8_undo 21 = .ok (.if_icmp .le 6, 3) := by decide +kernel
theorem dX8_undo_24 : decode cX8_undo 24 = .ok (.ldc 163, 2) := by decide +kernel
theorem dX8_undo_26 : decode cX8_undo 26 = .ok (.ireturn, 1) := by decide +kernel
theorem dX8_undo_27 : decode cX8_undo 27 = .ok (.aload_n 0, 1) := by decide +kernel
theorem dX8_undo_28 : decode cX8_undo 28 = .ok (.getfield 22, 3) := by decide +kernel
theorem dX8_undo_31 : decode cX8_undo 31 = .ok (.aload_n 0, 1) := by decide +kernel
theorem dX8_undo_32 : decode cX8_undo 32 = .ok (.getfield 10, 3) := by decide +kernel
theorem dX8_undo_35 : decode cX8_undo 35 = .ok (.iload_n 1, 1) := by decide +kernel
theorem dX8_undo_36 : decode cX8_undo 36 = .ok (.invokevirtual 216, 3) := by decide +kernel
theorem dX8_undo_39 : decode cX8_undo 39 = .ok (.aload_n 0, 1) := by decide +kernel
theorem dX8_undo_40 : decode cX8_undo 40 = .ok (.getfield 10, 3) := by decide +kernel
theorem dX8_undo_43 : decode cX8_undo 43 = .ok (.getfield 40, 3) := by decide +kernel
theorem dX8_undo_46 : decode cX8_undo 46 = .ok (.getfield 44, 3) := by decide +kernel
theorem dX8_undo_49 : decode cX8_undo 49 = .ok (.ireturn, 1) := by decide +kernel
theorem dX8_less_0 : decode cX8_less 0 = .ok (.aload_n 0, 1) := by decide +kernel
theorem dX8_less_1 : decode cX8_less 1 = .ok (.getfield 10, 3) := by decide +kernel
theorem dX8_less_4 : decode cX8_less 4 = .ok (.getfield 40, 3) := by decide +kernel
theorem dX8_less_7 : decode cX8_less 7 = .ok (.iload_n 1, 1) := by decide +kernel
theorem dX8_less_8 : decode cX8_less 8 = .ok (.invokestatic 144, 3) := by decide +kernel
theorem dX8_less_11 : decode cX8_less 11 = .ok (.ireturn, 1) := by decide +kernel
theorem dX8_beside_0 : decode cX8_beside 0 = .ok (.iload_n 2, 1) := by decide +kernel
theorem dX8_beside_1 : decode cX8_beside 1 = .ok (.lookupswitch 51 #[(0, 27), (1, 39)], 27) := by decide +kernel
theorem dX8_beside_28 : decode cX8_beside 28 = .ok (.aload_n 0, 1) := by decide +kernel
theorem dX8_beside_29 : decode cX8_beside 29 = .ok (.getfield 10, 3) := by decide +kernel
theorem dX8_beside_32 : decode cX8_beside 32 = .ok (.getfield 40, 3) := by decide +kernel
theorem dX8_beside_35 : decode cX8_beside 35 = .ok (.iload_n 1, 1) := by decide +kernel
theorem dX8_beside_36 : decode cX8_beside 36 = .ok (.invokestatic 220, 3) := by decide +kernel
theorem dX8_beside_39 : decode cX8_beside 39 = .ok (.ireturn, 1) := by decide +kernel
theorem dX8_beside_40 : decode cX8_beside 40 = .ok (.aload_n 0, 1) := by decide +kernel
theorem dX8_beside_41 : decode cX8_beside 41 = .ok (.getfield 10, 3) := by decide +kernel
theorem dX8_beside_44 : decode cX8_beside 44 = .ok (.getfield 40, 3) := by decide +kernel
theorem dX8_beside_47 : decode cX8_beside 47 = .ok (.iload_n 1, 1) := by decide +kernel
theorem dX8_beside_48 : decode cX8_beside 48 = .ok (.invokestatic 223, 3) := by decide +kernel
theorem dX8_beside_51 : decode cX8_beside 51 = .ok (.ireturn, 1) := by decide +kernel
theorem dX8_beside_52 : decode cX8_beside 52 = .ok (.ldc 110, 2) := by decide +kernel
theorem dX8_beside_54 : decode cX8_beside 54 = .ok (.ireturn, 1) := by decide +kernel
theorem dX8_between_0 : decode cX8_between 0 = .ok (.iload_n 3, 1) := by decide +kernel
theorem dX8_between_1 : decode cX8_between 1 = .ok (.tableswitch 66 0 2 #[27, 40, 53], 27) := by decide +kernel
theorem dX8_between_28 : decode cX8_between 28 = .ok (.aload_n 0, 1) := by decide +kernel
theorem dX8_between_29 : decode cX8_between 29 = .ok (.getfield 10, 3) := by decide +kernel
theorem dX8_between_32 : decode cX8_between 32 = .ok (.getfield 40, 3) := by decide +kernel
theorem dX8_between_35 : decode cX8_between 35 = .ok (.iload_n 1, 1) := by decide +kernel
theorem dX8_between_36 : decode cX8_between 36 = .ok (.iload_n 2, 1) := by decide +kernel
theorem dX8_between_37 : decode cX8_between 37 = .ok (.invokestatic 226, 3) := by decide +kernel
theorem dX8_between_40 : decode cX8_between 40 = .ok (.ireturn, 1) := by decide +kernel
theorem dX8_between_41 : decode cX8_between 41 = .ok (.aload_n 0, 1) := by decide +kernel
theorem dX8_between_42 : decode cX8_between 42 = .ok (.getfield 10, 3) := by decide +kernel
theorem dX8_between_45 : decode cX8_between 45 = .ok (.getfield 40, 3) := by decide +kernel
theorem dX8_between_48 : decode cX8_between 48 = .ok (.iload_n 1, 1) := by decide +kernel
theorem dX8_between_49 : decode cX8_between 49 = .ok (.iload_n 2, 1) := by decide +kernel
theorem dX8_between_50 : decode cX8_between 50 = .ok (.invokestatic 67, 3) := by decide +kernel
theorem dX8_between_53 : decode cX8_between 53 = .ok (.ireturn, 1) := by decide +kernel
theorem dX8_between_54 : decode cX8_between 54 = .ok (.aload_n 0, 1) := by decide +kernel
theorem dX8_between_55 : decode cX8_between 55 = .ok (.getfield 10, 3) := by decide +kernel
theorem dX8_between_58 : decode cX8_between 58 = .ok (.getfield 40, 3) := by decide +kernel
theorem dX8_between_61 : decode cX8_between 61 = .ok (.iload_n 1, 1) := by decide +kernel
theorem dX8_between_62 : decode cX8_between 62 = .ok (.iload_n 2, 1) := by decide +kernel
theorem dX8_between_63 : decode cX8_between 63 = .ok (.invokestatic 229, 3) := by decide +kernel
theorem dX8_between_66 : decode cX8_between 66 = .ok (.ireturn, 1) := by decide +kernel
theorem dX8_between_67 : decode cX8_between 67 = .ok (.ldc 110, 2) := by decide +kernel
theorem dX8_between_69 : decode cX8_between 69 = .ok (.ireturn, 1) := by decide +kernel
theorem dX8_way_0 : decode cX8_way 0 = .ok (.aload_n 0, 1) := by decide +kernel
theorem dX8_way_1 : decode cX8_way 1 = .ok (.getfield 10, 3) := by decide +kernel
theorem dX8_way_4 : decode cX8_way 4 = .ok (.getfield 40, 3) := by decide +kernel
theorem dX8_way_7 : decode cX8_way 7 = .ok (.astore_n 3, 1) := by decide +kernel
theorem dX8_way_8 : decode cX8_way 8 = .ok (.aload_n 3, 1) := by decide +kernel
theorem dX8_way_9 : decode cX8_way 9 = .ok (.iload_n 1, 1) := by decide +kernel
theorem dX8_way_10 : decode cX8_way 10 = .ok (.invokevirtual 138, 3) := by decide +kernel
theorem dX8_way_13 : decode cX8_way 13 = .ok (.istore 4, 2) := by decide +kernel
theorem dX8_way_15 : decode cX8_way 15 = .ok (.iload 4, 2) := by decide +kernel
theorem dX8_way_17 : decode cX8_way 17 = .ok (.iconst (-1), 1) := by decide +kernel
theorem dX8_way_18 : decode cX8_way 18 = .ok (.if_icmp .ne 6, 3) := by decide +kernel
theorem dX8_way_21 : decode cX8_way 21 = .ok (.ldc 114, 2) := by decide +kernel
theorem dX8_way_23 : decode cX8_way 23 = .ok (.ireturn, 1) := by decide +kernel
theorem dX8_way_24 : decode cX8_way 24 = .ok (.aload_n 3, 1) := by decide +kernel
theorem dX8_way_25 : decode cX8_way 25 = .ok (.iload 4, 2) := by decide +kernel
theorem dX8_way_27 : decode cX8_way 27 = .ok (.invokevirtual 115, 3) := by decide +kernel
theorem dX8_way_30 : decode cX8_way 30 = .ok (.istore 5, 2) := by decide +kernel
theorem dX8_way_32 : decode cX8_way 32 = .ok (.iload_n 2, 1) := by decide +kernel
theorem dX8_way_33 : decode cX8_way 33 = .ok (.ifCond .lt 9, 3) := by decide +kernel
theorem dX8_way_36 : decode cX8_way 36 = .ok (.iload_n 2, 1) := by decide +kernel
theorem dX8_way_37 : decode cX8_way 37 = .ok (.iload 5, 2) := by decide +kernel
theorem dX8_way_39 : decode cX8_way 39 = .ok (.if_icmp .le 5, 3) := by decide +kernel
theorem dX8_way_42 : decode cX8_way 42 = .ok (.iconst (-1), 1) := by decide +kernel
theorem dX8_way_43 : decode cX8_way 43 = .ok (.ireturn, 1) := by decide +kernel
theorem dX8_way_44 : decode cX8_way 44 = .ok (.iload 5, 2) := by decide +kernel
theorem dX8_way_46 : decode cX8_way 46 = .ok (.istore 6, 2) := by decide +kernel
theorem dX8_way_48 : decode cX8_way 48 = .ok (.iload 6, 2) := by decide +kernel
theorem dX8_way_50 : decode cX8_way 50 = .ok (.iload_n 2, 1) := by decide +kernel
theorem dX8_way_51 : decode cX8_way 51 = .ok (.if_icmp .le 17, 3) := by decide +kernel
theorem dX8_way_54 : decode cX8_way 54 = .ok (.aload_n 3, 1) := by decide +kernel
theorem dX8_way_55 : decode cX8_way 55 = .ok (.iload 4, 2) := by decide +kernel
theorem dX8_way_57 : decode cX8_way 57 = .ok (.invokevirtual 131, 3) := by decide +kernel
theorem dX8_way_60 : decode cX8_way 60 = .ok (.istore 4, 2) := by decide +kernel
theorem dX8_way_62 : decode cX8_way 62 = .ok (.iinc 6 (-1), 3) := by decide +kernel
theorem dX8_way_65 : decode cX8_way 65 = .ok (.goto (-17), 3) := by decide +kernel
theorem dX8_way_68 : decode cX8_way 68 = .ok (.aload_n 3, 1) := by decide +kernel
theorem dX8_way_69 : decode cX8_way 69 = .ok (.iload 4, 2) := by decide +kernel
theorem dX8_way_71 : decode cX8_way 71 = .ok (.invokevirtual 53, 3) := by decide +kernel
theorem dX8_way_74 : decode cX8_way 74 = .ok (.ireturn, 1) := by decide +kernel
theorem dX8_audit_0 : decode cX8_audit 0 = .ok (.aload_n 0, 1) := by decide +kernel
theorem dX8_audit_1 : decode cX8_audit 1 = .ok (.getfield 10, 3) := by decide +kernel
theorem dX8_audit_4 : decode cX8_audit 4 = .ok (.getfield 40, 3) := by decide +kernel
theorem dX8_audit_7 : decode cX8_audit 7 = .ok (.iload_n 1, 1) := by decide +kernel
theorem dX8_audit_8 : decode cX8_audit 8 = .ok (.invokevirtual 111, 3) := by decide +kernel
theorem dX8_audit_11 : decode cX8_audit 11 = .ok (.istore_n 3, 1) := by decide +kernel
theorem dX8_audit_12 : decode cX8_audit 12 = .ok (.iload_n 3, 1) := by decide +kernel
theorem dX8_audit_13 : decode cX8_audit 13 = .ok (.iconst (-1), 1) := by decide +kernel
theorem dX8_audit_14 : decode cX8_audit 14 = .ok (.if_icmp .ne 6, 3) := by decide +kernel
theorem dX8_audit_17 : decode cX8_audit 17 = .ok (.ldc 114, 2) := by decide +kernel
theorem dX8_audit_19 : decode cX8_audit 19 = .ok (.ireturn, 1) := by decide +kernel
theorem dX8_audit_20 : decode cX8_audit 20 = .ok (.iload_n 2, 1) := by decide +kernel
theorem dX8_audit_21 : decode cX8_audit 21 = .ok (.iconst (-1), 1) := by decide +kernel
theorem dX8_audit_22 : decode cX8_audit 22 = .ok (.bipush 30, 2) := by decide +kernel
theorem dX8_audit_24 : decode cX8_audit 24 = .ok (.invokestatic 185, 3) := by decide +kernel
theorem dX8_audit_27 : decode cX8_audit 27 = .ok (.ifCond .ne 6, 3) := by decide +kernel
theorem dX8_audit_30 : decode cX8_audit 30 = .ok (.ldc 110, 2) := by decide +kernel
theorem dX8_audit_32 : decode cX8_audit 32 = .ok (.ireturn, 1) := by decide +kernel
theorem dX8_audit_33 : decode cX8_audit 33 = .ok (.aload_n 0, 1) := by decide +kernel
theorem dX8_audit_34 : decode cX8_audit 34 = .ok (.getfield 16, 3) := by decide +kernel
theorem dX8_audit_37 : decode cX8_audit 37 = .ok (.aload_n 0, 1) := by decide +kernel
theorem dX8_audit_38 : decode cX8_audit 38 = .ok (.getfield 10, 3) := by decide +kernel
theorem dX8_audit_41 : decode cX8_audit 41 = .ok (.invokevirtual 192, 3) := by decide +kernel
theorem dX8_audit_44 : decode cX8_audit 44 = .ok (.aload_n 0, 1) := by decide +kernel
theorem dX8_audit_45 : decode cX8_audit 45 = .ok (.getfield 16, 3) := by decide +kernel
theorem dX8_audit_48 : decode cX8_audit 48 = .ok (.getfield 40, 3) := by decide +kernel
theorem dX8_audit_51 : decode cX8_audit 51 = .ok (.iload_n 3, 1) := by decide +kernel
theorem dX8_audit_52 : decode cX8_audit 52 = .ok (.iload_n 2, 1) := by decide +kernel
theorem dX8_audit_53 : decode cX8_audit 53 = .ok (.invokevirtual 232, 3) := by decide +kernel
theorem dX8_audit_56 : decode cX8_audit 56 = .ok (.aload_n 0, 1) := by decide +kernel
theorem dX8_audit_57 : decode cX8_audit 57 = .ok (.getfield 16, 3) := by decide +kernel
theorem dX8_audit_60 : decode cX8_audit 60 = .ok (.getfield 40, 3) := by decide +kernel
theorem dX8_audit_63 : decode cX8_audit 63 = .ok (.invokestatic 235, 3) := by decide +kernel
theorem dX8_audit_66 : decode cX8_audit 66 = .ok (.ireturn, 1) := by decide +kernel
theorem dX8_seed_0 : decode cX8_seed 0 = .ok (.iload_n 1, 1) := by decide +kernel
theorem dX8_seed_1 : decode cX8_seed 1 = .ok (.ifCond .ge 6, 3) := by decide +kernel
theorem dX8_seed_4 : decode cX8_seed 4 = .ok (.ldc 110, 2) := by decide +kernel
theorem dX8_seed_6 : decode cX8_seed 6 = .ok (.ireturn, 1) := by decide +kernel
theorem dX8_seed_7 : decode cX8_seed 7 = .ok (.aload_n 0, 1) := by decide +kernel
theorem dX8_seed_8 : decode cX8_seed 8 = .ok (.getfield 29, 3) := by decide +kernel
theorem dX8_seed_11 : decode cX8_seed 11 = .ok (.getfield 238, 3) := by decide +kernel
theorem dX8_seed_14 : decode cX8_seed 14 = .ok (.istore_n 2, 1) := by decide +kernel
theorem dX8_seed_15 : decode cX8_seed 15 = .ok (.aload_n 0, 1) := by decide +kernel
theorem dX8_seed_16 : decode cX8_seed 16 = .ok (.getfield 29, 3) := by decide +kernel
theorem dX8_seed_19 : decode cX8_seed 19 = .ok (.iload_n 1, 1) := by decide +kernel
theorem dX8_seed_20 : decode cX8_seed 20 = .ok (.putfield 238, 3) := by decide +kernel
theorem dX8_seed_23 : decode cX8_seed 23 = .ok (.iload_n 2, 1) := by decide +kernel
theorem dX8_seed_24 : decode cX8_seed 24 = .ok (.ireturn, 1) := by decide +kernel
theorem dX8_keep_0 : decode cX8_keep 0 = .ok (.iload_n 1, 1) := by decide +kernel
theorem dX8_keep_1 : decode cX8_keep 1 = .ok (.invokestatic 202, 3) := by decide +kernel
theorem dX8_keep_4 : decode cX8_keep 4 = .ok (.ifCond .ne 6, 3) := by decide +kernel
theorem dX8_keep_7 : decode cX8_keep 7 = .ok (.ldc 114, 2) := by decide +kernel
theorem dX8_keep_9 : decode cX8_keep 9 = .ok (.ireturn, 1) := by decide +kernel
theorem dX8_keep_10 : decode cX8_keep 10 = .ok (.aload_n 0, 1) := by decide +kernel
theorem dX8_keep_11 : decode cX8_keep 11 = .ok (.getfield 35, 3) := by decide +kernel
theorem dX8_keep_14 : decode cX8_keep 14 = .ok (.iload_n 1, 1) := by decide +kernel
theorem dX8_keep_15 : decode cX8_keep 15 = .ok (.aaload, 1) := by decide +kernel
theorem dX8_keep_16 : decode cX8_keep 16 = .ok (.getfield 212, 3) := by decide +kernel
theorem dX8_keep_19 : decode cX8_keep 19 = .ok (.aload_n 0, 1) := by decide +kernel
theorem dX8_keep_20 : decode cX8_keep 20 = .ok (.getfield 10, 3) := by decide +kernel
theorem dX8_keep_23 : decode cX8_keep 23 = .ok (.invokevirtual 192, 3) := by decide +kernel
theorem dX8_keep_26 : decode cX8_keep 26 = .ok (.aload_n 0, 1) := by decide +kernel
theorem dX8_keep_27 : decode cX8_keep 27 = .ok (.getfield 35, 3) := by decide +kernel
theorem dX8_keep_30 : decode cX8_keep 30 = .ok (.iload_n 1, 1) := by decide +kernel
theorem dX8_keep_31 : decode cX8_keep 31 = .ok (.aaload, 1) := by decide +kernel
theorem dX8_keep_32 : decode cX8_keep 32 = .ok (.aload_n 0, 1) := by decide +kernel
theorem dX8_keep_33 : decode cX8_keep 33 = .ok (.getfield 29, 3) := by decide +kernel
theorem dX8_keep_36 : decode cX8_keep 36 = .ok (.getfield 238, 3) := by decide +kernel
theorem dX8_keep_39 : decode cX8_keep 39 = .ok (.putfield 241, 3) := by decide +kernel
theorem dX8_keep_42 : decode cX8_keep 42 = .ok (.aload_n 0, 1) := by decide +kernel
theorem dX8_keep_43 : decode cX8_keep 43 = .ok (.getfield 35, 3) := by decide +kernel
theorem dX8_keep_46 : decode cX8_keep 46 = .ok (.iload_n 1, 1) := by decide +kernel
theorem dX8_keep_47 : decode cX8_keep 47 = .ok (.aaload, 1) := by decide +kernel
theorem dX8_keep_48 : decode cX8_keep 48 = .ok (.iconst 1, 1) := by decide +kernel
theorem dX8_keep_49 : decode cX8_keep 49 = .ok (.putfield 205, 3) := by decide +kernel
theorem dX8_keep_52 : decode cX8_keep 52 = .ok (.aload_n 0, 1) := by decide +kernel
theorem dX8_keep_53 : decode cX8_keep 53 = .ok (.getfield 22, 3) := by decide +kernel
theorem dX8_keep_56 : decode cX8_keep 56 = .ok (.invokevirtual 244, 3) := by decide +kernel
theorem dX8_keep_59 : decode cX8_keep 59 = .ok (.iconst 1, 1) := by decide +kernel
theorem dX8_keep_60 : decode cX8_keep 60 = .ok (.ireturn, 1) := by decide +kernel
theorem dX8_goBack_0 : decode cX8_goBack 0 = .ok (.iload_n 1, 1) := by decide +kernel
theorem dX8_goBack_1 : decode cX8_goBack 1 = .ok (.invokestatic 202, 3) := by decide +kernel
theorem dX8_goBack_4 : decode cX8_goBack 4 = .ok (.ifCond .ne 6, 3) := by decide +kernel
theorem dX8_goBack_7 : decode cX8_goBack 7 = .ok (.ldc 114, 2) := by decide +kernel
theorem dX8_goBack_9 : decode cX8_goBack 9 = .ok (.ireturn, 1) := by decide +kernel
theorem dX8_goBack_10 : decode cX8_goBack 10 = .ok (.aload_n 0, 1) := by decide +kernel
theorem dX8_goBack_11 : decode cX8_goBack 11 = .ok (.getfield 35, 3) := by decide +kernel
theorem dX8_goBack_14 : decode cX8_goBack 14 = .ok (.iload_n 1, 1) := by decide +kernel
theorem dX8_goBack_15 : decode cX8_goBack 15 = .ok (.aaload, 1) := by decide +kernel
theorem dX8_goBack_16 : decode cX8_goBack 16 = .ok (.getfield 205, 3) := by decide +kernel
theorem dX8_goBack_19 : decode cX8_goBack 19 = .ok (.ifCond .ne 6, 3) := by decide +kernel
theorem dX8_goBack_22 : decode cX8_goBack 22 = .ok (.ldc 163, 2) := by decide +kernel
theorem dX8_goBack_24 : decode cX8_goBack 24 = .ok (.ireturn, 1) := by decide +kernel
theorem dX8_goBack_25 : decode cX8_goBack 25 = .ok (.aload_n 0, 1) := by decide +kernel
theorem dX8_goBack_26 : decode cX8_goBack 26 = .ok (.getfield 10, 3) := by decide +kernel
theorem dX8_goBack_29 : decode cX8_goBack 29 = .ok (.aload_n 0, 1) := by decide +kernel
theorem dX8_goBack_30 : decode cX8_goBack 30 = .ok (.getfield 35, 3) := by decide +kernel
theorem dX8_goBack_33 : decode cX8_goBack 33 = .ok (.iload_n 1, 1) := by decide +kernel
theorem dX8_goBack_34 : decode cX8_goBack 34 = .ok (.aaload, 1) := by decide +kernel
theorem dX8_goBack_35 : decode cX8_goBack 35 = .ok (.getfield 212, 3) := by decide +kernel
theorem dX8_goBack_38 : decode cX8_goBack 38 = .ok (.invokevirtual 192, 3) := by decide +kernel
theorem dX8_goBack_41 : decode cX8_goBack 41 = .ok (.aload_n 0, 1) := by decide +kernel
theorem dX8_goBack_42 : decode cX8_goBack 42 = .ok (.getfield 29, 3) := by decide +kernel
theorem dX8_goBack_45 : decode cX8_goBack 45 = .ok (.aload_n 0, 1) := by decide +kernel
theorem dX8_goBack_46 : decode cX8_goBack 46 = .ok (.getfield 35, 3) := by decide +kernel
theorem dX8_goBack_49 : decode cX8_goBack 49 = .ok (.iload_n 1, 1) := by decide +kernel
theorem dX8_goBack_50 : decode cX8_goBack 50 = .ok (.aaload, 1) := by decide +kernel
theorem dX8_goBack_51 : decode cX8_goBack 51 = .ok (.getfield 241, 3) := by decide +kernel
theorem dX8_goBack_54 : decode cX8_goBack 54 = .ok (.putfield 238, 3) := by decide +kernel
theorem dX8_goBack_57 : decode cX8_goBack 57 = .ok (.aload_n 0, 1) := by decide +kernel
theorem dX8_goBack_58 : decode cX8_goBack 58 = .ok (.getfield 22, 3) := by decide +kernel
theorem dX8_goBack_61 : decode cX8_goBack 61 = .ok (.invokevirtual 244, 3) := by decide +kernel
theorem dX8_goBack_64 : decode cX8_goBack 64 = .ok (.iconst 1, 1) := by decide +kernel
theorem dX8_goBack_65 : decode cX8_goBack 65 = .ok (.ireturn, 1) := by decide +kernel
theorem dX8_isWithin_0 : decode cX8_isWithin 0 = .ok (.iload_n 0, 1) := by decide +kernel
theorem dX8_isWithin_1 : decode cX8_isWithin 1 = .ok (.iload_n 1, 1) := by decide +kernel
theorem dX8_isWithin_2 : decode cX8_isWithin 2 = .ok (.if_icmp .lt 12, 3) := by decide +kernel
theorem dX8_isWithin_5 : decode cX8_isWithin 5 = .ok (.iload_n 0, 1) := by decide +kernel
theorem dX8_isWithin_6 : decode cX8_isWithin 6 = .ok (.iload_n 2, 1) := by decide +kernel
theorem dX8_isWithin_7 : decode cX8_isWithin 7 = .ok (.if_icmp .gt 7, 3) := by decide +kernel
theorem dX8_isWithin_10 : decode cX8_isWithin 10 = .ok (.iconst 1, 1) := by decide +kernel
theorem dX8_isWithin_11 : decode cX8_isWithin 11 = .ok (.goto 4, 3) := by decide +kernel
theorem dX8_isWithin_14 : decode cX8_isWithin 14 = .ok (.iconst 0, 1) := by decide +kernel
theorem dX8_isWithin_15 : decode cX8_isWithin 15 = .ok (.ireturn, 1) := by decide +kernel
theorem dX8_isKey_0 : decode cX8_isKey 0 = .ok (.iload_n 0, 1) := by decide +kernel
theorem dX8_isKey_1 : decode cX8_isKey 1 = .ok (.iconst 0, 1) := by decide +kernel
theorem dX8_isKey_2 : decode cX8_isKey 2 = .ok (.ldc 66, 2) := by decide +kernel
theorem dX8_isKey_4 : decode cX8_isKey 4 = .ok (.invokestatic 185, 3) := by decide +kernel
theorem dX8_isKey_7 : decode cX8_isKey 7 = .ok (.ireturn, 1) := by decide +kernel
theorem dX8_isWorth_0 : decode cX8_isWorth 0 = .ok (.iload_n 0, 1) := by decide +kernel
theorem dX8_isWorth_1 : decode cX8_isWorth 1 = .ok (.iconst 0, 1) := by decide +kernel
theorem dX8_isWorth_2 : decode cX8_isWorth 2 = .ok (.sipush 9999, 3) := by decide +kernel
theorem dX8_isWorth_5 : decode cX8_isWorth 5 = .ok (.invokestatic 185, 3) := by decide +kernel
theorem dX8_isWorth_8 : decode cX8_isWorth 8 = .ok (.ireturn, 1) := by decide +kernel
theorem dX8_isImage_0 : decode cX8_isImage 0 = .ok (.iload_n 0, 1) := by decide +kernel
theorem dX8_isImage_1 : decode cX8_isImage 1 = .ok (.ifCond .lt 12, 3) := by decide +kernel
theorem dX8_isImage_4 : decode cX8_isImage 4 = .ok (.iload_n 0, 1) := by decide +kernel
theorem dX8_isImage_5 : decode cX8_isImage 5 = .ok (.iconst 2, 1) := by decide +kernel
theorem dX8_isImage_6 : decode cX8_isImage 6 = .ok (.if_icmp .ge 7, 3) := by decide +kernel
theorem dX8_isImage_9 : decode cX8_isImage 9 = .ok (.iconst 1, 1) := by decide +kernel
theorem dX8_isImage_10 : decode cX8_isImage 10 = .ok (.goto 4, 3) := by decide +kernel
theorem dX8_isImage_13 : decode cX8_isImage 13 = .ok (.iconst 0, 1) := by decide +kernel
theorem dX8_isImage_14 : decode cX8_isImage 14 = .ok (.ireturn, 1) := by decide +kernel
theorem dX8_isThere_0 : decode cX8_isThere 0 = .ok (.aload_n 0, 1) := by decide +kernel
theorem dX8_isThere_1 : decode cX8_isThere 1 = .ok (.getfield 10, 3) := by decide +kernel
theorem dX8_isThere_4 : decode cX8_isThere 4 = .ok (.getfield 40, 3) := by decide +kernel
theorem dX8_isThere_7 : decode cX8_isThere 7 = .ok (.iload_n 1, 1) := by decide +kernel
theorem dX8_isThere_8 : decode cX8_isThere 8 = .ok (.invokevirtual 138, 3) := by decide +kernel
theorem dX8_isThere_11 : decode cX8_isThere 11 = .ok (.iconst (-1), 1) := by decide +kernel
theorem dX8_isThere_12 : decode cX8_isThere 12 = .ok (.if_icmp .eq 7, 3) := by decide +kernel
theorem dX8_isThere_15 : decode cX8_isThere 15 = .ok (.iconst 1, 1) := by decide +kernel
theorem dX8_isThere_16 : decode cX8_isThere 16 = .ok (.goto 4, 3) := by decide +kernel
theorem dX8_isThere_19 : decode cX8_isThere 19 = .ok (.iconst 0, 1) := by decide +kernel
theorem dX8_isThere_20 : decode cX8_isThere 20 = .ok (.ireturn, 1) := by decide +kernel
theorem dX8_hasRoom_0 : decode cX8_hasRoom 0 = .ok (.aload_n 0, 1) := by decide +kernel
theorem dX8_hasRoom_1 : decode cX8_hasRoom 1 = .ok (.getfield 10, 3) := by decide +kernel
theorem dX8_hasRoom_4 : decode cX8_hasRoom 4 = .ok (.getfield 40, 3) := by decide +kernel
theorem dX8_hasRoom_7 : decode cX8_hasRoom 7 = .ok (.getfield 44, 3) := by decide +kernel
theorem dX8_hasRoom_10 : decode cX8_hasRoom 10 = .ok (.bipush 60, 2) := by decide +kernel
theorem dX8_hasRoom_12 : decode cX8_hasRoom 12 = .ok (.if_icmp .ge 7, 3) := by decide +kernel
theorem dX8_hasRoom_15 : decode cX8_hasRoom 15 = .ok (.iconst 1, 1) := by decide +kernel
theorem dX8_hasRoom_16 : decode cX8_hasRoom 16 = .ok (.goto 4, 3) := by decide +kernel
theorem dX8_hasRoom_19 : decode cX8_hasRoom 19 = .ok (.iconst 0, 1) := by decide +kernel
theorem dX8_hasRoom_20 : decode cX8_hasRoom 20 = .ok (.ireturn, 1) := by decide +kernel
theorem dX8_addIfItCan_0 : decode cX8_addIfItCan 0 = .ok (.iload_n 1, 1) := by decide +kernel
theorem dX8_addIfItCan_1 : decode cX8_addIfItCan 1 = .ok (.invokestatic 153, 3) := by decide +kernel
theorem dX8_addIfItCan_4 : decode cX8_addIfItCan 4 = .ok (.ifCond .eq 27, 3) := by decide +kernel
theorem dX8_addIfItCan_7 : decode cX8_addIfItCan 7 = .ok (.aload_n 0, 1) := by decide +kernel
theorem dX8_addIfItCan_8 : decode cX8_addIfItCan 8 = .ok (.iload_n 1, 1) := by decide +kernel
theorem dX8_addIfItCan_9 : decode cX8_addIfItCan 9 = .ok (.invokevirtual 160, 3) := by decide +kernel
theorem dX8_addIfItCan_12 : decode cX8_addIfItCan 12 = .ok (.ifCond .ne 19, 3) := by decide +kernel
theorem dX8_addIfItCan_15 : decode cX8_addIfItCan 15 = .ok (.aload_n 0, 1) := by decide +kernel
theorem dX8_addIfItCan_16 : decode cX8_addIfItCan 16 = .ok (.invokevirtual 164, 3) := by decide +kernel
theorem dX8_addIfItCan_19 : decode cX8_addIfItCan 19 = .ok (.ifCond .eq 12, 3) := by decide +kernel
theorem dX8_addIfItCan_22 : decode cX8_addIfItCan 22 = .ok (.aload_n 0, 1) := by decide +kernel
theorem dX8_addIfItCan_23 : decode cX8_addIfItCan 23 = .ok (.getfield 10, 3) := by decide +kernel
theorem dX8_addIfItCan_26 : decode cX8_addIfItCan 26 = .ok (.iload_n 1, 1) := by decide +kernel
theorem dX8_addIfItCan_27 : decode cX8_addIfItCan 27 = .ok (.iload_n 2, 1) := by decide +kernel
theorem dX8_addIfItCan_28 : decode cX8_addIfItCan 28 = .ok (.invokevirtual 173, 3) := by decide +kernel
theorem dX8_addIfItCan_31 : decode cX8_addIfItCan 31 = .ok (.return_, 1) := by decide +kernel
theorem dX8_addRising_0 : decode cX8_addRising 0 = .ok (.aload_n 1, 1) := by decide +kernel
theorem dX8_addRising_1 : decode cX8_addRising 1 = .ok (.aload_n 1, 1) := by decide +kernel
theorem dX8_addRising_2 : decode cX8_addRising 2 = .ok (.getfield 50, 3) := by decide +kernel
theorem dX8_addRising_5 : decode cX8_addRising 5 = .ok (.invokevirtual 147, 3) := by decide +kernel
theorem dX8_addRising_8 : decode cX8_addRising 8 = .ok (.istore_n 3, 1) := by decide +kernel
theorem dX8_addRising_9 : decode cX8_addRising 9 = .ok (.iconst 0, 1) := by decide +kernel
theorem dX8_addRising_10 : decode cX8_addRising 10 = .ok (.istore 4, 2) := by decide +kernel
theorem dX8_addRising_12 : decode cX8_addRising 12 = .ok (.iload 4, 2) := by decide +kernel
theorem dX8_addRising_14 : decode cX8_addRising 14 = .ok (.bipush 60, 2) := by decide +kernel
theorem dX8_addRising_16 : decode cX8_addRising 16 = .ok (.if_icmp .ge 53, 3) := by decide +kernel
theorem dX8_addRising_19 : decode cX8_addRising 19 = .ok (.iload_n 3, 1) := by decide +kernel
theorem dX8_addRising_20 : decode cX8_addRising 20 = .ok (.iconst (-1), 1) := by decide +kernel
theorem dX8_addRising_21 : decode cX8_addRising 21 = .ok (.if_icmp .eq 48, 3) := by decide +kernel
theorem dX8_addRising_24 : decode cX8_addRising 24 = .ok (.aload_n 1, 1) := by decide +kernel
theorem dX8_addRising_25 : decode cX8_addRising 25 = .ok (.iload_n 3, 1) := by decide +kernel
theorem dX8_addRising_26 : decode cX8_addRising 26 = .ok (.invokevirtual 53, 3) := by decide +kernel
theorem dX8_addRising_29 : decode cX8_addRising 29 = .ok (.iload_n 2, 1) := by decide +kernel
theorem dX8_addRising_30 : decode cX8_addRising 30 = .ok (.if_icmp .le 27, 3) := by decide +kernel
theorem dX8_addRising_33 : decode cX8_addRising 33 = .ok (.aload_n 0, 1) := by decide +kernel
theorem dX8_addRising_34 : decode cX8_addRising 34 = .ok (.invokevirtual 164, 3) := by decide +kernel
theorem dX8_addRising_37 : decode cX8_addRising 37 = .ok (.ifCond .eq 20, 3) := by decide +kernel
theorem dX8_addRising_40 : decode cX8_addRising 40 = .ok (.aload_n 0, 1) := by decide +kernel
theorem dX8_addRising_41 : decode cX8_addRising 41 = .ok (.getfield 10, 3) := by decide +kernel
theorem dX8_addRising_44 : decode cX8_addRising 44 = .ok (.aload_n 1, 1) := by decide +kernel
theorem dX8_addRising_45 : decode cX8_addRising 45 = .ok (.iload_n 3, 1) := by decide +kernel
theorem dX8_addRising_46 : decode cX8_addRising 46 = .ok (.invokevirtual 53, 3) := by decide +kernel
theorem dX8_addRising_49 : decode cX8_addRising 49 = .ok (.aload_n 1, 1) := by decide +kernel
theorem dX8_addRising_50 : decode cX8_addRising 50 = .ok (.iload_n 3, 1) := by decide +kernel
theorem dX8_addRising_51 : decode cX8_addRising 51 = .ok (.invokevirtual 141, 3) := by decide +kernel
theorem dX8_addRising_54 : decode cX8_addRising 54 = .ok (.invokevirtual 173, 3) := by decide +kernel
theorem dX8_addRising_57 : decode cX8_addRising 57 = .ok (.aload_n 1, 1) := by decide +kernel
theorem dX8_addRising_58 : decode cX8_addRising 58 = .ok (.iload_n 3, 1) := by decide +kernel
theorem dX8_addRising_59 : decode cX8_addRising 59 = .ok (.invokevirtual 150, 3) := by decide +kernel
theorem dX8_addRising_62 : decode cX8_addRising 62 = .ok (.istore_n 3, 1) := by decide +kernel
theorem dX8_addRising_63 : decode cX8_addRising 63 = .ok (.iinc 4 1, 3) := by decide +kernel
theorem dX8_addRising_66 : decode cX8_addRising 66 = .ok (.goto (-54), 3) := by decide +kernel
theorem dX8_addRising_69 : decode cX8_addRising 69 = .ok (.return_, 1) := by decide +kernel
theorem dX8_driftOnce_0 : decode cX8_driftOnce 0 = .ok (.aload_n 0, 1) := by decide +kernel
theorem dX8_driftOnce_1 : decode cX8_driftOnce 1 = .ok (.getfield 29, 3) := by decide +kernel
theorem dX8_driftOnce_4 : decode cX8_driftOnce 4 = .ok (.iconst 3, 1) := by decide +kernel
theorem dX8_driftOnce_5 : decode cX8_driftOnce 5 = .ok (.invokevirtual 247, 3) := by decide +kernel
theorem dX8_driftOnce_8 : decode cX8_driftOnce 8 = .ok (.istore_n 1, 1) := by decide +kernel
theorem dX8_driftOnce_9 : decode cX8_driftOnce 9 = .ok (.aload_n 0, 1) := by decide +kernel
theorem dX8_driftOnce_10 : decode cX8_driftOnce 10 = .ok (.getfield 29, 3) := by decide +kernel
theorem dX8_driftOnce_13 : decode cX8_driftOnce 13 = .ok (.sipush 200, 3) := by decide +kernel
theorem dX8_driftOnce_16 : decode cX8_driftOnce 16 = .ok (.invokevirtual 247, 3) := by decide +kernel
theorem dX8_driftOnce_19 : decode cX8_driftOnce 19 = .ok (.istore_n 2, 1) := by decide +kernel
theorem dX8_driftOnce_20 : decode cX8_driftOnce 20 = .ok (.aload_n 0, 1) := by decide +kernel
theorem dX8_driftOnce_21 : decode cX8_driftOnce 21 = .ok (.getfield 10, 3) := by decide +kernel
theorem dX8_driftOnce_24 : decode cX8_driftOnce 24 = .ok (.getfield 40, 3) := by decide +kernel
theorem dX8_driftOnce_27 : decode cX8_driftOnce 27 = .ok (.iload_n 2, 1) := by decide +kernel
theorem dX8_driftOnce_28 : decode cX8_driftOnce 28 = .ok (.invokevirtual 138, 3) := by decide +kernel
theorem dX8_driftOnce_31 : decode cX8_driftOnce 31 = .ok (.istore_n 3, 1) := by decide +kernel
theorem dX8_driftOnce_32 : decode cX8_driftOnce 32 = .ok (.iload_n 1, 1) := by decide +kernel
theorem dX8_driftOnce_33 : decode cX8_driftOnce 33 = .ok (.iconst 2, 1) := by decide +kernel
theorem dX8_driftOnce_34 : decode cX8_driftOnce 34 = .ok (.if_icmp .ne 14, 3) := by decide +kernel
theorem dX8_driftOnce_37 : decode cX8_driftOnce 37 = .ok (.aload_n 0, 1) := by decide +kernel
theorem dX8_driftOnce_38 : decode cX8_driftOnce 38 = .ok (.getfield 10, 3) := by decide +kernel
theorem dX8_driftOnce_41 : decode cX8_driftOnce 41 = .ok (.iload_n 3, 1) := by decide +kernel
theorem dX8_driftOnce_42 : decode cX8_driftOnce 42 = .ok (.invokevirtual 177, 3) := by decide +kernel
theorem dX8_driftOnce_45 : decode cX8_driftOnce 45 = .ok (.goto 32, 3) := by decide +kernel
theorem dX8_driftOnce_48 : decode cX8_driftOnce 48 = .ok (.iload_n 3, 1) := by decide +kernel
theorem dX8_driftOnce_49 : decode cX8_driftOnce 49 = .ok (.iconst (-1), 1) := by decide +kernel
theorem dX8_driftOnce_50 : decode cX8_driftOnce 50 = .ok (.if_icmp .ne 27, 3) := by decide +kernel
theorem dX8_driftOnce_53 : decode cX8_driftOnce 53 = .ok (.aload_n 0, 1) := by decide +kernel
theorem dX8_driftOnce_54 : decode cX8_driftOnce 54 = .ok (.invokevirtual 164, 3) := by decide +kernel
theorem dX8_driftOnce_57 : decode cX8_driftOnce 57 = .ok (.ifCond .eq 20, 3) := by decide +kernel
theorem dX8_driftOnce_60 : decode cX8_driftOnce 60 = .ok (.aload_n 0, 1) := by decide +kernel
theorem dX8_driftOnce_61 : decode cX8_driftOnce 61 = .ok (.getfield 10, 3) := by decide +kernel
theorem dX8_driftOnce_64 : decode cX8_driftOnce 64 = .ok (.iload_n 2, 1) := by decide +kernel
theorem dX8_driftOnce_65 : decode cX8_driftOnce 65 = .ok (.aload_n 0, 1) := by decide +kernel
theorem dX8_driftOnce_66 : decode cX8_driftOnce 66 = .ok (.getfield 29, 3) := by decide +kernel
theorem dX8_driftOnce_69 : decode cX8_driftOnce 69 = .ok (.bipush 100, 2) := by decide +kernel
theorem dX8_driftOnce_71 : decode cX8_driftOnce 71 = .ok (.invokevirtual 247, 3) := by decide +kernel
theorem dX8_driftOnce_74 : decode cX8_driftOnce 74 = .ok (.invokevirtual 173, 3) := by decide +kernel
theorem dX8_driftOnce_77 : decode cX8_driftOnce 77 = .ok (.return_, 1) := by decide +kernel
theorem dX8_costliestKey_0 : decode cX8_costliestKey 0 = .ok (.iconst (-1), 1) := by decide +kernel
theorem dX8_costliestKey_1 : decode cX8_costliestKey 1 = .ok (.istore_n 1, 1) := by decide +kernel
theorem dX8_costliestKey_2 : decode cX8_costliestKey 2 = .ok (.iconst (-1), 1) := by decide +kernel
theorem dX8_costliestKey_3 : decode cX8_costliestKey 3 = .ok (.istore_n 2, 1) := by decide +kernel
theorem dX8_costliestKey_4 : decode cX8_costliestKey 4 = .ok (.aload_n 0, 1) := by decide +kernel
theorem dX8_costliestKey_5 : decode cX8_costliestKey 5 = .ok (.getfield 10, 3) := by decide +kernel
theorem dX8_costliestKey_8 : decode cX8_costliestKey 8 = .ok (.getfield 40, 3) := by decide +kernel
theorem dX8_costliestKey_11 : decode cX8_costliestKey 11 = .ok (.aload_n 0, 1) := by decide +kernel
theorem dX8_costliestKey_12 : decode cX8_costliestKey 12 = .ok (.getfield 10, 3) := by decide +kernel
theorem dX8_costliestKey_15 : decode cX8_costliestKey 15 = .ok (.getfield 40, 3) := by decide +kernel
theorem dX8_costliestKey_18 : decode cX8_costliestKey 18 = .ok (.getfield 50, 3) := by decide +kernel
theorem dX8_costliestKey_21 : decode cX8_costliestKey 21 = .ok (.invokevirtual 147, 3) := by decide +kernel
theorem dX8_costliestKey_24 : decode cX8_costliestKey 24 = .ok (.istore_n 3, 1) := by decide +kernel
theorem dX8_costliestKey_25 : decode cX8_costliestKey 25 = .ok (.iconst 0, 1) := by decide +kernel
theorem dX8_costliestKey_26 : decode cX8_costliestKey 26 = .ok (.istore 4, 2) := by decide +kernel
theorem dX8_costliestKey_28 : decode cX8_costliestKey 28 = .ok (.iload 4, 2) := by decide +kernel
theorem dX8_costliestKey_30 : decode cX8_costliestKey 30 = .ok (.bipush 60, 2) := by decide +kernel
theorem dX8_costliestKey_32 : decode cX8_costliestKey 32 = .ok (.if_icmp .ge 82, 3) := by decide +kernel
theorem dX8_costliestKey_35 : decode cX8_costliestKey 35 = .ok (.iload_n 3, 1) := by decide +kernel
theorem dX8_costliestKey_36 : decode cX8_costliestKey 36 = .ok (.iconst (-1), 1) := by decide +kernel
theorem dX8_costliestKey_37 : decode cX8_costliestKey 37 = .ok (.if_icmp .eq 77, 3) := by decide +kernel
theorem dX8_costliestKey_40 : decode cX8_costliestKey 40 = .ok (.aload_n 0, 1) := by decide +kernel
theorem dX8_costliestKey_41 : decode cX8_costliestKey 41 = .ok (.getfield 16, 3) := by decide +kernel
theorem dX8_costliestKey_44 : decode cX8_costliestKey 44 = .ok (.aload_n 0, 1) := by decide +kernel
theorem dX8_costliestKey_45 : decode cX8_costliestKey 45 = .ok (.getfield 10, 3) := by decide +kernel
theorem dX8_costliestKey_48 : decode cX8_costliestKey 48 = .ok (.invokevirtual 192, 3) := by decide +kernel
theorem dX8_costliestKey_51 : decode cX8_costliestKey 51 = .ok (.aload_n 0, 1) := by decide +kernel
theorem dX8_costliestKey_52 : decode cX8_costliestKey 52 = .ok (.getfield 16, 3) := by decide +kernel
theorem dX8_costliestKey_55 : decode cX8_costliestKey 55 = .ok (.iload_n 3, 1) := by decide +kernel
theorem dX8_costliestKey_56 : decode cX8_costliestKey 56 = .ok (.invokevirtual 177, 3) := by decide +kernel
theorem dX8_costliestKey_59 : decode cX8_costliestKey 59 = .ok (.aload_n 0, 1) := by decide +kernel
theorem dX8_costliestKey_60 : decode cX8_costliestKey 60 = .ok (.getfield 16, 3) := by decide +kernel
end
section
theorem dX8_costliestKey_63 : decode cX8_costliestKey 63 = .ok (.getfield 86, 3) := by decide +kernel
theorem dX8_costliestKey_66 : decode cX8_costliestKey 66 = .ok (.invokevirtual 250, 3) := by decide +kernel
theorem dX8_costliestKey_69 : decode cX8_costliestKey 69 = .ok (.iload_n 2, 1) := by decide +kernel
theorem dX8_costliestKey_70 : decode cX8_costliestKey 70 = .ok (.if_icmp .le 26, 3) := by decide +kernel
theorem dX8_costliestKey_73 : decode cX8_costliestKey 73 = .ok (.aload_n 0, 1) := by decide +kernel
theorem dX8_costliestKey_74 : decode cX8_costliestKey 74 = .ok (.getfield 16, 3) := by decide +kernel
theorem dX8_costliestKey_77 : decode cX8_costliestKey 77 = .ok (.getfield 86, 3) := by decide +kernel
theorem dX8_costliestKey_80 : decode cX8_costliestKey 80 = .ok (.invokevirtual 250, 3) := by decide +kernel
theorem dX8_costliestKey_83 : decode cX8_costliestKey 83 = .ok (.istore_n 2, 1) := by decide +kernel
theorem dX8_costliestKey_84 : decode cX8_costliestKey 84 = .ok (.aload_n 0, 1) := by decide +kernel
theorem dX8_costliestKey_85 : decode cX8_costliestKey 85 = .ok (.getfield 10, 3) := by decide +kernel
theorem dX8_costliestKey_88 : decode cX8_costliestKey 88 = .ok (.getfield 40, 3) := by decide +kernel
theorem dX8_costliestKey_91 : decode cX8_costliestKey 91 = .ok (.iload_n 3, 1) := by decide +kernel
theorem dX8_costliestKey_92 : decode cX8_costliestKey 92 = .ok (.invokevirtual 53, 3) := by decide +kernel
theorem dX8_costliestKey_95 : decode cX8_costliestKey 95 = .ok (.istore_n 1, 1) := by decide +kernel
theorem dX8_costliestKey_96 : decode cX8_costliestKey 96 = .ok (.aload_n 0, 1) := by decide +kernel
theorem dX8_costliestKey_97 : decode cX8_costliestKey 97 = .ok (.getfield 10, 3) := by decide +kernel
theorem dX8_costliestKey_100 : decode cX8_costliestKey 100 = .ok (.getfield 40, 3) := by decide +kernel
theorem dX8_costliestKey_103 : decode cX8_costliestKey 103 = .ok (.iload_n 3, 1) := by decide +kernel
theorem dX8_costliestKey_104 : decode cX8_costliestKey 104 = .ok (.invokevirtual 150, 3) := by decide +kernel
theorem dX8_costliestKey_107 : decode cX8_costliestKey 107 = .ok (.istore_n 3, 1) := by decide +kernel
theorem dX8_costliestKey_108 : decode cX8_costliestKey 108 = .ok (.iinc 4 1, 3) := by decide +kernel
theorem dX8_costliestKey_111 : decode cX8_costliestKey 111 = .ok (.goto (-83), 3) := by decide +kernel
theorem dX8_costliestKey_114 : decode cX8_costliestKey 114 = .ok (.iload_n 1, 1) := by decide +kernel
theorem dX8_costliestKey_115 : decode cX8_costliestKey 115 = .ok (.ireturn, 1) := by decide +kernel
theorem dX9_init_0 : decode cX9_init 0 = .ok (.aload_n 0, 1) := by decide +kernel
theorem dX9_init_1 : decode cX9_init 1 = .ok (.invokespecial 1, 3) := by decide +kernel
theorem dX9_init_4 : decode cX9_init 4 = .ok (.aload_n 0, 1) := by decide +kernel
theorem dX9_init_5 : decode cX9_init 5 = .ok (.sipush 368, 3) := by decide +kernel
theorem dX9_init_8 : decode cX9_init 8 = .ok (.newarray .int, 2) := by decide +kernel
theorem dX9_init_10 : decode cX9_init 10 = .ok (.putfield 7, 3) := by decide +kernel
theorem dX9_init_13 : decode cX9_init 13 = .ok (.aload_n 0, 1) := by decide +kernel
theorem dX9_init_14 : decode cX9_init 14 = .ok (.sipush 4416, 3) := by decide +kernel
theorem dX9_init_17 : decode cX9_init 17 = .ok (.newarray .int, 2) := by decide +kernel
theorem dX9_init_19 : decode cX9_init 19 = .ok (.putfield 13, 3) := by decide +kernel
theorem dX9_init_22 : decode cX9_init 22 = .ok (.aload_n 0, 1) := by decide +kernel
theorem dX9_init_23 : decode cX9_init 23 = .ok (.sipush 736, 3) := by decide +kernel
theorem dX9_init_26 : decode cX9_init 26 = .ok (.newarray .int, 2) := by decide +kernel
theorem dX9_init_28 : decode cX9_init 28 = .ok (.putfield 16, 3) := by decide +kernel
theorem dX9_init_31 : decode cX9_init 31 = .ok (.aload_n 0, 1) := by decide +kernel
theorem dX9_init_32 : decode cX9_init 32 = .ok (.iconst 2, 1) := by decide +kernel
theorem dX9_init_33 : decode cX9_init 33 = .ok (.newarray .int, 2) := by decide +kernel
theorem dX9_init_35 : decode cX9_init 35 = .ok (.putfield 19, 3) := by decide +kernel
theorem dX9_init_38 : decode cX9_init 38 = .ok (.aload_n 0, 1) := by decide +kernel
theorem dX9_init_39 : decode cX9_init 39 = .ok (.iconst 2, 1) := by decide +kernel
theorem dX9_init_40 : decode cX9_init 40 = .ok (.newarray .boolean, 2) := by decide +kernel
theorem dX9_init_42 : decode cX9_init 42 = .ok (.putfield 22, 3) := by decide +kernel
theorem dX9_init_45 : decode cX9_init 45 = .ok (.aload_n 0, 1) := by decide +kernel
theorem dX9_init_46 : decode cX9_init 46 = .ok (.bipush 60, 2) := by decide +kernel
theorem dX9_init_48 : decode cX9_init 48 = .ok (.newarray .int, 2) := by decide +kernel
theorem dX9_init_50 : decode cX9_init 50 = .ok (.putfield 26, 3) := by decide +kernel
theorem dX9_init_53 : decode cX9_init 53 = .ok (.aload_n 0, 1) := by decide +kernel
theorem dX9_init_54 : decode cX9_init 54 = .ok (.bipush 60, 2) := by decide +kernel
theorem dX9_init_56 : decode cX9_init 56 = .ok (.newarray .int, 2) := by decide +kernel
theorem dX9_init_58 : decode cX9_init 58 = .ok (.putfield 29, 3) := by decide +kernel
theorem dX9_init_61 : decode cX9_init 61 = .ok (.aload_n 0, 1) := by decide +kernel
theorem dX9_init_62 : decode cX9_init 62 = .ok (.bipush 60, 2) := by decide +kernel
theorem dX9_init_64 : decode cX9_init 64 = .ok (.newarray .int, 2) := by decide +kernel
theorem dX9_init_66 : decode cX9_init 66 = .ok (.putfield 32, 3) := by decide +kernel
theorem dX9_init_69 : decode cX9_init 69 = .ok (.aload_n 0, 1) := by decide +kernel
theorem dX9_init_70 : decode cX9_init 70 = .ok (.bipush 61, 2) := by decide +kernel
theorem dX9_init_72 : decode cX9_init 72 = .ok (.newarray .int, 2) := by decide +kernel
theorem dX9_init_74 : decode cX9_init 74 = .ok (.putfield 35, 3) := by decide +kernel
theorem dX9_init_77 : decode cX9_init 77 = .ok (.aload_n 0, 1) := by decide +kernel
theorem dX9_init_78 : decode cX9_init 78 = .ok (.sipush 368, 3) := by decide +kernel
theorem dX9_init_81 : decode cX9_init 81 = .ok (.newarray .int, 2) := by decide +kernel
theorem dX9_init_83 : decode cX9_init 83 = .ok (.putfield 38, 3) := by decide +kernel
theorem dX9_init_86 : decode cX9_init 86 = .ok (.aload_n 0, 1) := by decide +kernel
theorem dX9_init_87 : decode cX9_init 87 = .ok (.bipush 32, 2) := by decide +kernel
theorem dX9_init_89 : decode cX9_init 89 = .ok (.newarray .int, 2) := by decide +kernel
theorem dX9_init_91 : decode cX9_init 91 = .ok (.putfield 41, 3) := by decide +kernel
theorem dX9_init_94 : decode cX9_init 94 = .ok (.aload_n 0, 1) := by decide +kernel
theorem dX9_init_95 : decode cX9_init 95 = .ok (.sipush 640, 3) := by decide +kernel
theorem dX9_init_98 : decode cX9_init 98 = .ok (.newarray .int, 2) := by decide +kernel
theorem dX9_init_100 : decode cX9_init 100 = .ok (.putfield 44, 3) := by decide +kernel
theorem dX9_init_103 : decode cX9_init 103 = .ok (.aload_n 0, 1) := by decide +kernel
theorem dX9_init_104 : decode cX9_init 104 = .ok (.bipush 60, 2) := by decide +kernel
theorem dX9_init_106 : decode cX9_init 106 = .ok (.newarray .int, 2) := by decide +kernel
theorem dX9_init_108 : decode cX9_init 108 = .ok (.putfield 47, 3) := by decide +kernel
theorem dX9_init_111 : decode cX9_init 111 = .ok (.aload_n 0, 1) := by decide +kernel
theorem dX9_init_112 : decode cX9_init 112 = .ok (.bipush 60, 2) := by decide +kernel
theorem dX9_init_114 : decode cX9_init 114 = .ok (.newarray .int, 2) := by decide +kernel
theorem dX9_init_116 : decode cX9_init 116 = .ok (.putfield 50, 3) := by decide +kernel
theorem dX9_init_119 : decode cX9_init 119 = .ok (.aload_n 0, 1) := by decide +kernel
theorem dX9_init_120 : decode cX9_init 120 = .ok (.invokevirtual 53, 3) := by decide +kernel
theorem dX9_init_123 : decode cX9_init 123 = .ok (.return_, 1) := by decide +kernel
theorem dX9_in_0 : decode cX9_in 0 = .ok (.lload_n 0, 1) := by decide +kernel
theorem dX9_in_1 : decode cX9_in 1 = .ok (.lload_n 2, 1) := by decide +kernel
theorem dX9_in_2 : decode cX9_in 2 = .ok (.lcmp, 1) := by decide +kernel
theorem dX9_in_3 : decode cX9_in 3 = .ok (.ifCond .lt 14, 3) := by decide +kernel
theorem dX9_in_6 : decode cX9_in 6 = .ok (.lload_n 0, 1) := by decide +kernel
theorem dX9_in_7 : decode cX9_in 7 = .ok (.lload 4, 2) := by decide +kernel
theorem dX9_in_9 : decode cX9_in 9 = .ok (.lcmp, 1) := by decide +kernel
theorem dX9_in_10 : decode cX9_in 10 = .ok (.ifCond .gt 7, 3) := by decide +kernel
theorem dX9_in_13 : decode cX9_in 13 = .ok (.iconst 1, 1) := by decide +kernel
theorem dX9_in_14 : decode cX9_in 14 = .ok (.goto 4, 3) := by decide +kernel
theorem dX9_in_17 : decode cX9_in 17 = .ok (.iconst 0, 1) := by decide +kernel
theorem dX9_in_18 : decode cX9_in 18 = .ok (.ireturn, 1) := by decide +kernel
theorem dX9_of_0 : decode cX9_of 0 = .ok (.aload_n 0, 1) := by decide +kernel
theorem dX9_of_1 : decode cX9_of 1 = .ok (.getfield 7, 3) := by decide +kernel
theorem dX9_of_4 : decode cX9_of 4 = .ok (.bipush 6, 2) := by decide +kernel
theorem dX9_of_6 : decode cX9_of 6 = .ok (.iload_n 1, 1) := by decide +kernel
theorem dX9_of_7 : decode cX9_of 7 = .ok (.imul, 1) := by decide +kernel
theorem dX9_of_8 : decode cX9_of 8 = .ok (.iload_n 2, 1) := by decide +kernel
theorem dX9_of_9 : decode cX9_of 9 = .ok (.iadd, 1) := by decide +kernel
theorem dX9_of_10 : decode cX9_of 10 = .ok (.iaload, 1) := by decide +kernel
theorem dX9_of_11 : decode cX9_of 11 = .ok (.ireturn, 1) := by decide +kernel
theorem dX9_lays_0 : decode cX9_lays 0 = .ok (.aload_n 0, 1) := by decide +kernel
theorem dX9_lays_1 : decode cX9_lays 1 = .ok (.getfield 7, 3) := by decide +kernel
theorem dX9_lays_4 : decode cX9_lays 4 = .ok (.bipush 6, 2) := by decide +kernel
theorem dX9_lays_6 : decode cX9_lays 6 = .ok (.iload_n 1, 1) := by decide +kernel
theorem dX9_lays_7 : decode cX9_lays 7 = .ok (.imul, 1) := by decide +kernel
theorem dX9_lays_8 : decode cX9_lays 8 = .ok (.iload_n 2, 1) := by decide +kernel
theorem dX9_lays_9 : decode cX9_lays 9 = .ok (.iadd, 1) := by decide +kernel
theorem dX9_lays_10 : decode cX9_lays 10 = .ok (.iload_n 3, 1) := by decide +kernel
theorem dX9_lays_11 : decode cX9_lays 11 = .ok (.iastore, 1) := by decide +kernel
theorem dX9_lays_12 : decode cX9_lays 12 = .ok (.return_, 1) := by decide +kernel
theorem dX9_goesEmpty_0 : decode cX9_goesEmpty 0 = .ok (.iconst 0, 1) := by decide +kernel
theorem dX9_goesEmpty_1 : decode cX9_goesEmpty 1 = .ok (.istore_n 1, 1) := by decide +kernel
theorem dX9_goesEmpty_2 : decode cX9_goesEmpty 2 = .ok (.iload_n 1, 1) := by decide +kernel
theorem dX9_goesEmpty_3 : decode cX9_goesEmpty 3 = .ok (.bipush 60, 2) := by decide +kernel
theorem dX9_goesEmpty_5 : decode cX9_goesEmpty 5 = .ok (.if_icmp .ge 16, 3) := by decide +kernel
theorem dX9_goesEmpty_8 : decode cX9_goesEmpty 8 = .ok (.aload_n 0, 1) := by decide +kernel
theorem dX9_goesEmpty_9 : decode cX9_goesEmpty 9 = .ok (.iload_n 1, 1) := by decide +kernel
theorem dX9_goesEmpty_10 : decode cX9_goesEmpty 10 = .ok (.iconst 0, 1) := by decide +kernel
theorem dX9_goesEmpty_11 : decode cX9_goesEmpty 11 = .ok (.iconst (-1), 1) := by decide +kernel
theorem dX9_goesEmpty_12 : decode cX9_goesEmpty 12 = .ok (.invokevirtual 56, 3) := by decide +kernel
theorem dX9_goesEmpty_15 : decode cX9_goesEmpty 15 = .ok (.iinc 1 1, 3) := by decide +kernel
theorem dX9_goesEmpty_18 : decode cX9_goesEmpty 18 = .ok (.goto (-16), 3) := by decide +kernel
theorem dX9_goesEmpty_21 : decode cX9_goesEmpty 21 = .ok (.aload_n 0, 1) := by decide +kernel
theorem dX9_goesEmpty_22 : decode cX9_goesEmpty 22 = .ok (.getfield 7, 3) := by decide +kernel
theorem dX9_goesEmpty_25 : decode cX9_goesEmpty 25 = .ok (.sipush 360, 3) := by decide +kernel
theorem dX9_goesEmpty_28 : decode cX9_goesEmpty 28 = .ok (.iconst (-1), 1) := by decide +kernel
theorem dX9_goesEmpty_29 : decode cX9_goesEmpty 29 = .ok (.iastore, 1) := by decide +kernel
theorem dX9_goesEmpty_30 : decode cX9_goesEmpty 30 = .ok (.aload_n 0, 1) := by decide +kernel
theorem dX9_goesEmpty_31 : decode cX9_goesEmpty 31 = .ok (.getfield 7, 3) := by decide +kernel
theorem dX9_goesEmpty_34 : decode cX9_goesEmpty 34 = .ok (.sipush 361, 3) := by decide +kernel
theorem dX9_goesEmpty_37 : decode cX9_goesEmpty 37 = .ok (.iconst 0, 1) := by decide +kernel
theorem dX9_goesEmpty_38 : decode cX9_goesEmpty 38 = .ok (.iastore, 1) := by decide +kernel
theorem dX9_goesEmpty_39 : decode cX9_goesEmpty 39 = .ok (.return_, 1) := by decide +kernel
theorem dX9_empties_0 : decode cX9_empties 0 = .ok (.iconst 0, 1) := by decide +kernel
theorem dX9_empties_1 : decode cX9_empties 1 = .ok (.istore_n 1, 1) := by decide +kernel
theorem dX9_empties_2 : decode cX9_empties 2 = .ok (.iload_n 1, 1) := by decide +kernel
theorem dX9_empties_3 : decode cX9_empties 3 = .ok (.sipush 368, 3) := by decide +kernel
theorem dX9_empties_6 : decode cX9_empties 6 = .ok (.if_icmp .ge 16, 3) := by decide +kernel
theorem dX9_empties_9 : decode cX9_empties 9 = .ok (.aload_n 0, 1) := by decide +kernel
theorem dX9_empties_10 : decode cX9_empties 10 = .ok (.getfield 7, 3) := by decide +kernel
theorem dX9_empties_13 : decode cX9_empties 13 = .ok (.iload_n 1, 1) := by decide +kernel
theorem dX9_empties_14 : decode cX9_empties 14 = .ok (.iconst 0, 1) := by decide +kernel
theorem dX9_empties_15 : decode cX9_empties 15 = .ok (.iastore, 1) := by decide +kernel
theorem dX9_empties_16 : decode cX9_empties 16 = .ok (.iinc 1 1, 3) := by decide +kernel
theorem dX9_empties_19 : decode cX9_empties 19 = .ok (.goto (-17), 3) := by decide +kernel
theorem dX9_empties_22 : decode cX9_empties 22 = .ok (.aload_n 0, 1) := by decide +kernel
theorem dX9_empties_23 : decode cX9_empties 23 = .ok (.invokevirtual 60, 3) := by decide +kernel
theorem dX9_empties_26 : decode cX9_empties 26 = .ok (.return_, 1) := by decide +kernel
theorem dX9_top_0 : decode cX9_top 0 = .ok (.aload_n 0, 1) := by decide +kernel
theorem dX9_top_1 : decode cX9_top 1 = .ok (.getfield 7, 3) := by decide +kernel
theorem dX9_top_4 : decode cX9_top 4 = .ok (.sipush 360, 3) := by decide +kernel
theorem dX9_top_7 : decode cX9_top 7 = .ok (.iaload, 1) := by decide +kernel
theorem dX9_top_8 : decode cX9_top 8 = .ok (.ireturn, 1) := by decide +kernel
theorem dX9_many_0 : decode cX9_many 0 = .ok (.aload_n 0, 1) := by decide +kernel
theorem dX9_many_1 : decode cX9_many 1 = .ok (.getfield 7, 3) := by decide +kernel
theorem dX9_many_4 : decode cX9_many 4 = .ok (.sipush 361, 3) := by decide +kernel
theorem dX9_many_7 : decode cX9_many 7 = .ok (.iaload, 1) := by decide +kernel
theorem dX9_many_8 : decode cX9_many 8 = .ok (.ireturn, 1) := by decide +kernel
theorem dX9_rankOf_0 : decode cX9_rankOf 0 = .ok (.iload_n 1, 1) := by decide +kernel
theorem dX9_rankOf_1 : decode cX9_rankOf 1 = .ok (.iconst (-1), 1) := by decide +kernel
theorem dX9_rankOf_2 : decode cX9_rankOf 2 = .ok (.if_icmp .ne 7, 3) := by decide +kernel
theorem dX9_rankOf_5 : decode cX9_rankOf 5 = .ok (.iconst (-1), 1) := by decide +kernel
theorem dX9_rankOf_6 : decode cX9_rankOf 6 = .ok (.goto 9, 3) := by decide +kernel
theorem dX9_rankOf_9 : decode cX9_rankOf 9 = .ok (.aload_n 0, 1) := by decide +kernel
theorem dX9_rankOf_10 : decode cX9_rankOf 10 = .ok (.iload_n 1, 1) := by decide +kernel
theorem dX9_rankOf_11 : decode cX9_rankOf 11 = .ok (.iconst 2, 1) := by decide +kernel
theorem dX9_rankOf_12 : decode cX9_rankOf 12 = .ok (.invokevirtual 63, 3) := by decide +kernel
theorem dX9_rankOf_15 : decode cX9_rankOf 15 = .ok (.ireturn, 1) := by decide +kernel
theorem dX9_child_0 : decode cX9_child 0 = .ok (.aload_n 0, 1) := by decide +kernel
theorem dX9_child_1 : decode cX9_child 1 = .ok (.iload_n 1, 1) := by decide +kernel
theorem dX9_child_2 : decode cX9_child 2 = .ok (.iload_n 2, 1) := by decide +kernel
theorem dX9_child_3 : decode cX9_child 3 = .ok (.ifCond .eq 7, 3) := by decide +kernel
theorem dX9_child_6 : decode cX9_child 6 = .ok (.iconst 3, 1) := by decide +kernel
theorem dX9_child_7 : decode cX9_child 7 = .ok (.goto 4, 3) := by decide +kernel
theorem dX9_child_10 : decode cX9_child 10 = .ok (.iconst 4, 1) := by decide +kernel
theorem dX9_child_11 : decode cX9_child 11 = .ok (.invokevirtual 63, 3) := by decide +kernel
theorem dX9_child_14 : decode cX9_child 14 = .ok (.ireturn, 1) := by decide +kernel
theorem dX9_isLeftOf_0 : decode cX9_isLeftOf 0 = .ok (.aload_n 0, 1) := by decide +kernel
theorem dX9_isLeftOf_1 : decode cX9_isLeftOf 1 = .ok (.iload_n 1, 1) := by decide +kernel
theorem dX9_isLeftOf_2 : decode cX9_isLeftOf 2 = .ok (.iconst 3, 1) := by decide +kernel
theorem dX9_isLeftOf_3 : decode cX9_isLeftOf 3 = .ok (.invokevirtual 63, 3) := by decide +kernel
theorem dX9_isLeftOf_6 : decode cX9_isLeftOf 6 = .ok (.iload_n 2, 1) := by decide +kernel
theorem dX9_isLeftOf_7 : decode cX9_isLeftOf 7 = .ok (.if_icmp .ne 7, 3) := by decide +kernel
theorem dX9_isLeftOf_10 : decode cX9_isLeftOf 10 = .ok (.iconst 1, 1) := by decide +kernel
theorem dX9_isLeftOf_11 : decode cX9_isLeftOf 11 = .ok (.goto 4, 3) := by decide +kernel
theorem dX9_isLeftOf_14 : decode cX9_isLeftOf 14 = .ok (.iconst 0, 1) := by decide +kernel
theorem dX9_isLeftOf_15 : decode cX9_isLeftOf 15 = .ok (.ireturn, 1) := by decide +kernel
theorem dX9_hasNoChildren_0 : decode cX9_hasNoChildren 0 = .ok (.aload_n 0, 1) := by decide +kernel
theorem dX9_hasNoChildren_1 : decode cX9_hasNoChildren 1 = .ok (.iload_n 1, 1) := by decide +kernel
theorem dX9_hasNoChildren_2 : decode cX9_hasNoChildren 2 = .ok (.iconst 3, 1) := by decide +kernel
theorem dX9_hasNoChildren_3 : decode cX9_hasNoChildren 3 = .ok (.invokevirtual 63, 3) := by decide +kernel
theorem dX9_hasNoChildren_6 : decode cX9_hasNoChildren 6 = .ok (.iconst (-1), 1) := by decide +kernel
theorem dX9_hasNoChildren_7 : decode cX9_hasNoChildren 7 = .ok (.if_icmp .ne 17, 3) := by decide +kernel
theorem dX9_hasNoChildren_10 : decode cX9_hasNoChildren 10 = .ok (.aload_n 0, 1) := by decide +kernel
theorem dX9_hasNoChildren_11 : decode cX9_hasNoChildren 11 = .ok (.iload_n 1, 1) := by decide +kernel
theorem dX9_hasNoChildren_12 : decode cX9_hasNoChildren 12 = .ok (.iconst 4, 1) := by decide +kernel
theorem dX9_hasNoChildren_13 : decode cX9_hasNoChildren 13 = .ok (.invokevirtual 63, 3) := by decide +kernel
theorem dX9_hasNoChildren_16 : decode cX9_hasNoChildren 16 = .ok (.iconst (-1), 1) := by decide +kernel
theorem dX9_hasNoChildren_17 : decode cX9_hasNoChildren 17 = .ok (.if_icmp .ne 7, 3) := by decide +kernel
theorem dX9_hasNoChildren_20 : decode cX9_hasNoChildren 20 = .ok (.iconst 1, 1) := by decide +kernel
theorem dX9_hasNoChildren_21 : decode cX9_hasNoChildren 21 = .ok (.goto 4, 3) := by decide +kernel
theorem dX9_hasNoChildren_24 : decode cX9_hasNoChildren 24 = .ok (.iconst 0, 1) := by decide +kernel
theorem dX9_hasNoChildren_25 : decode cX9_hasNoChildren 25 = .ok (.ireturn, 1) := by decide +kernel
theorem dX9_counts_0 : decode cX9_counts 0 = .ok (.aload_n 0, 1) := by decide +kernel
theorem dX9_counts_1 : decode cX9_counts 1 = .ok (.getfield 7, 3) := by decide +kernel
theorem dX9_counts_4 : decode cX9_counts 4 = .ok (.sipush 362, 3) := by decide +kernel
theorem dX9_counts_7 : decode cX9_counts 7 = .ok (.iload_n 1, 1) := by decide +kernel
theorem dX9_counts_8 : decode cX9_counts 8 = .ok (.iadd, 1) := by decide +kernel
theorem dX9_counts_9 : decode cX9_counts 9 = .ok (.dup2, 1) := by decide +kernel
theorem dX9_counts_10 : decode cX9_counts 10 = .ok (.iaload, 1) := by decide +kernel
theorem dX9_counts_11 : decode cX9_counts 11 = .ok (.iconst 1, 1) := by decide +kernel
theorem dX9_counts_12 : decode cX9_counts 12 = .ok (.iadd, 1) := by decide +kernel
theorem dX9_counts_13 : decode cX9_counts 13 = .ok (.iastore, 1) := by decide +kernel
theorem dX9_counts_14 : decode cX9_counts 14 = .ok (.aload_n 0, 1) := by decide +kernel
theorem dX9_counts_15 : decode cX9_counts 15 = .ok (.getfield 7, 3) := by decide +kernel
theorem dX9_counts_18 : decode cX9_counts 18 = .ok (.sipush 365, 3) := by decide +kernel
theorem dX9_counts_21 : decode cX9_counts 21 = .ok (.iload_n 1, 1) := by decide +kernel
theorem dX9_counts_22 : decode cX9_counts 22 = .ok (.iadd, 1) := by decide +kernel
theorem dX9_counts_23 : decode cX9_counts 23 = .ok (.dup2, 1) := by decide +kernel
theorem dX9_counts_24 : decode cX9_counts 24 = .ok (.iaload, 1) := by decide +kernel
theorem dX9_counts_25 : decode cX9_counts 25 = .ok (.iconst 1, 1) := by decide +kernel
theorem dX9_counts_26 : decode cX9_counts 26 = .ok (.iadd, 1) := by decide +kernel
theorem dX9_counts_27 : decode cX9_counts 27 = .ok (.iastore, 1) := by decide +kernel
theorem dX9_counts_28 : decode cX9_counts 28 = .ok (.return_, 1) := by decide +kernel
theorem dX9_begins_0 : decode cX9_begins 0 = .ok (.iconst 0, 1) := by decide +kernel
theorem dX9_begins_1 : decode cX9_begins 1 = .ok (.istore_n 1, 1) := by decide +kernel
theorem dX9_begins_2 : decode cX9_begins 2 = .ok (.iload_n 1, 1) := by decide +kernel
theorem dX9_begins_3 : decode cX9_begins 3 = .ok (.iconst 3, 1) := by decide +kernel
theorem dX9_begins_4 : decode cX9_begins 4 = .ok (.if_icmp .ge 20, 3) := by decide +kernel
theorem dX9_begins_7 : decode cX9_begins 7 = .ok (.aload_n 0, 1) := by decide +kernel
theorem dX9_begins_8 : decode cX9_begins 8 = .ok (.getfield 7, 3) := by decide +kernel
theorem dX9_begins_11 : decode cX9_begins 11 = .ok (.sipush 365, 3) := by decide +kernel
theorem dX9_begins_14 : decode cX9_begins 14 = .ok (.iload_n 1, 1) := by decide +kernel
theorem dX9_begins_15 : decode cX9_begins 15 = .ok (.iadd, 1) := by decide +kernel
theorem dX9_begins_16 : decode cX9_begins 16 = .ok (.iconst 0, 1) := by decide +kernel
theorem dX9_begins_17 : decode cX9_begins 17 = .ok (.iastore, 1) := by decide +kernel
theorem dX9_begins_18 : decode cX9_begins 18 = .ok (.iinc 1 1, 3) := by decide +kernel
theorem dX9_begins_21 : decode cX9_begins 21 = .ok (.goto (-19), 3) := by decide +kernel
theorem dX9_begins_24 : decode cX9_begins 24 = .ok (.return_, 1) := by decide +kernel
theorem dX9_hangs_0 : decode cX9_hangs 0 = .ok (.iload_n 1, 1) := by decide +kernel
theorem dX9_hangs_1 : decode cX9_hangs 1 = .ok (.iconst (-1), 1) := by decide +kernel
theorem dX9_hangs_2 : decode cX9_hangs 2 = .ok (.if_icmp .ne 15, 3) := by decide +kernel
theorem dX9_hangs_5 : decode cX9_hangs 5 = .ok (.aload_n 0, 1) := by decide +kernel
theorem dX9_hangs_6 : decode cX9_hangs 6 = .ok (.getfield 7, 3) := by decide +kernel
theorem dX9_hangs_9 : decode cX9_hangs 9 = .ok (.sipush 360, 3) := by decide +kernel
theorem dX9_hangs_12 : decode cX9_hangs 12 = .ok (.iload_n 3, 1) := by decide +kernel
theorem dX9_hangs_13 : decode cX9_hangs 13 = .ok (.iastore, 1) := by decide +kernel
theorem dX9_hangs_14 : decode cX9_hangs 14 = .ok (.goto 18, 3) := by decide +kernel
theorem dX9_hangs_17 : decode cX9_hangs 17 = .ok (.aload_n 0, 1) := by decide +kernel
theorem dX9_hangs_18 : decode cX9_hangs 18 = .ok (.iload_n 1, 1) := by decide +kernel
theorem dX9_hangs_19 : decode cX9_hangs 19 = .ok (.iload_n 2, 1) := by decide +kernel
theorem dX9_hangs_20 : decode cX9_hangs 20 = .ok (.ifCond .eq 7, 3) := by decide +kernel
theorem dX9_hangs_23 : decode cX9_hangs 23 = .ok (.iconst 3, 1) := by decide +kernel
theorem dX9_hangs_24 : decode cX9_hangs 24 = .ok (.goto 4, 3) := by decide +kernel
theorem dX9_hangs_27 : decode cX9_hangs 27 = .ok (.iconst 4, 1) := by decide +kernel
theorem dX9_hangs_28 : decode cX9_hangs 28 = .ok (.iload_n 3, 1) := by decide +kernel
theorem dX9_hangs_29 : decode cX9_hangs 29 = .ok (.invokevirtual 56, 3) := by decide +kernel
theorem dX9_hangs_32 : decode cX9_hangs 32 = .ok (.iload_n 3, 1) := by decide +kernel
theorem dX9_hangs_33 : decode cX9_hangs 33 = .ok (.iconst (-1), 1) := by decide +kernel
theorem dX9_hangs_34 : decode cX9_hangs 34 = .ok (.if_icmp .eq 10, 3) := by decide +kernel
theorem dX9_hangs_37 : decode cX9_hangs 37 = .ok (.aload_n 0, 1) := by decide +kernel
theorem dX9_hangs_38 : decode cX9_hangs 38 = .ok (.iload_n 3, 1) := by decide +kernel
theorem dX9_hangs_39 : decode cX9_hangs 39 = .ok (.iconst 5, 1) := by decide +kernel
theorem dX9_hangs_40 : decode cX9_hangs 40 = .ok (.iload_n 1, 1) := by decide +kernel
theorem dX9_hangs_41 : decode cX9_hangs 41 = .ok (.invokevirtual 56, 3) := by decide +kernel
theorem dX9_hangs_44 : decode cX9_hangs 44 = .ok (.return_, 1) := by decide +kernel
theorem dX9_turns_0 : decode cX9_turns 0 = .ok (.aload_n 0, 1) := by decide +kernel
theorem dX9_turns_1 : decode cX9_turns 1 = .ok (.iload_n 1, 1) := by decide +kernel
theorem dX9_turns_2 : decode cX9_turns 2 = .ok (.iconst 5, 1) := by decide +kernel
theorem dX9_turns_3 : decode cX9_turns 3 = .ok (.invokevirtual 63, 3) := by decide +kernel
theorem dX9_turns_6 : decode cX9_turns 6 = .ok (.istore_n 2, 1) := by decide +kernel
theorem dX9_turns_7 : decode cX9_turns 7 = .ok (.aload_n 0, 1) := by decide +kernel
theorem dX9_turns_8 : decode cX9_turns 8 = .ok (.iload_n 2, 1) := by decide +kernel
theorem dX9_turns_9 : decode cX9_turns 9 = .ok (.iconst 5, 1) := by decide +kernel
theorem dX9_turns_10 : decode cX9_turns 10 = .ok (.invokevirtual 63, 3) := by decide +kernel
theorem dX9_turns_13 : decode cX9_turns 13 = .ok (.istore_n 3, 1) := by decide +kernel
theorem dX9_turns_14 : decode cX9_turns 14 = .ok (.aload_n 0, 1) := by decide +kernel
theorem dX9_turns_15 : decode cX9_turns 15 = .ok (.iload_n 2, 1) := by decide +kernel
theorem dX9_turns_16 : decode cX9_turns 16 = .ok (.iload_n 1, 1) := by decide +kernel
theorem dX9_turns_17 : decode cX9_turns 17 = .ok (.invokevirtual 67, 3) := by decide +kernel
theorem dX9_turns_20 : decode cX9_turns 20 = .ok (.istore 4, 2) := by decide +kernel
theorem dX9_turns_22 : decode cX9_turns 22 = .ok (.iload_n 3, 1) := by decide +kernel
theorem dX9_turns_23 : decode cX9_turns 23 = .ok (.iconst (-1), 1) := by decide +kernel
theorem dX9_turns_24 : decode cX9_turns 24 = .ok (.if_icmp .eq 16, 3) := by decide +kernel
theorem dX9_turns_27 : decode cX9_turns 27 = .ok (.aload_n 0, 1) := by decide +kernel
theorem dX9_turns_28 : decode cX9_turns 28 = .ok (.iload_n 3, 1) := by decide +kernel
theorem dX9_turns_29 : decode cX9_turns 29 = .ok (.iload_n 2, 1) := by decide +kernel
theorem dX9_turns_30 : decode cX9_turns 30 = .ok (.invokevirtual 67, 3) := by decide +kernel
theorem dX9_turns_33 : decode cX9_turns 33 = .ok (.ifCond .eq 7, 3) := by decide +kernel
theorem dX9_turns_36 : decode cX9_turns 36 = .ok (.iconst 1, 1) := by decide +kernel
theorem dX9_turns_37 : decode cX9_turns 37 = .ok (.goto 4, 3) := by decide +kernel
theorem dX9_turns_40 : decode cX9_turns 40 = .ok (.iconst 0, 1) := by decide +kernel
theorem dX9_turns_41 : decode cX9_turns 41 = .ok (.istore 5, 2) := by decide +kernel
theorem dX9_turns_43 : decode cX9_turns 43 = .ok (.aload_n 0, 1) := by decide +kernel
theorem dX9_turns_44 : decode cX9_turns 44 = .ok (.iload_n 1, 1) := by decide +kernel
theorem dX9_turns_45 : decode cX9_turns 45 = .ok (.iload 4, 2) := by decide +kernel
theorem dX9_turns_47 : decode cX9_turns 47 = .ok (.ifCond .ne 7, 3) := by decide +kernel
theorem dX9_turns_50 : decode cX9_turns 50 = .ok (.iconst 1, 1) := by decide +kernel
theorem dX9_turns_51 : decode cX9_turns 51 = .ok (.goto 4, 3) := by decide +kernel
theorem dX9_turns_54 : decode cX9_turns 54 = .ok (.iconst 0, 1) := by decide +kernel
theorem dX9_turns_55 : decode cX9_turns 55 = .ok (.invokevirtual 71, 3) := by decide +kernel
theorem dX9_turns_58 : decode cX9_turns 58 = .ok (.istore 6, 2) := by decide +kernel
theorem dX9_turns_60 : decode cX9_turns 60 = .ok (.aload_n 0, 1) := by decide +kernel
theorem dX9_turns_61 : decode cX9_turns 61 = .ok (.iload_n 2, 1) := by decide +kernel
theorem dX9_turns_62 : decode cX9_turns 62 = .ok (.iload 4, 2) := by decide +kernel
theorem dX9_turns_64 : decode cX9_turns 64 = .ok (.iload 6, 2) := by decide +kernel
theorem dX9_turns_66 : decode cX9_turns 66 = .ok (.invokevirtual 75, 3) := by decide +kernel
theorem dX9_turns_69 : decode cX9_turns 69 = .ok (.aload_n 0, 1) := by decide +kernel
theorem dX9_turns_70 : decode cX9_turns 70 = .ok (.iload_n 1, 1) := by decide +kernel
theorem dX9_turns_71 : decode cX9_turns 71 = .ok (.iload 4, 2) := by decide +kernel
theorem dX9_turns_73 : decode cX9_turns 73 = .ok (.ifCond .ne 7, 3) := by decide +kernel
theorem dX9_turns_76 : decode cX9_turns 76 = .ok (.iconst 1, 1) := by decide +kernel
theorem dX9_turns_77 : decode cX9_turns 77 = .ok (.goto 4, 3) := by decide +kernel
theorem dX9_turns_80 : decode cX9_turns 80 = .ok (.iconst 0, 1) := by decide +kernel
theorem dX9_turns_81 : decode cX9_turns 81 = .ok (.iload_n 2, 1) := by decide +kernel
theorem dX9_turns_82 : decode cX9_turns 82 = .ok (.invokevirtual 75, 3) := by decide +kernel
theorem dX9_turns_85 : decode cX9_turns 85 = .ok (.aload_n 0, 1) := by decide +kernel
theorem dX9_turns_86 : decode cX9_turns 86 = .ok (.iload_n 3, 1) := by decide +kernel
theorem dX9_turns_87 : decode cX9_turns 87 = .ok (.iload 5, 2) := by decide +kernel
theorem dX9_turns_89 : decode cX9_turns 89 = .ok (.iload_n 1, 1) := by decide +kernel
theorem dX9_turns_90 : decode cX9_turns 90 = .ok (.invokevirtual 75, 3) := by decide +kernel
theorem dX9_turns_93 : decode cX9_turns 93 = .ok (.aload_n 0, 1) := by decide +kernel
theorem dX9_turns_94 : decode cX9_turns 94 = .ok (.iconst 2, 1) := by decide +kernel
theorem dX9_turns_95 : decode cX9_turns 95 = .ok (.invokevirtual 79, 3) := by decide +kernel
theorem dX9_turns_98 : decode cX9_turns 98 = .ok (.return_, 1) := by decide +kernel
theorem dX9_ranks_0 : decode cX9_ranks 0 = .ok (.aload_n 0, 1) := by decide +kernel
theorem dX9_ranks_1 : decode cX9_ranks 1 = .ok (.iload_n 1, 1) := by decide +kernel
theorem dX9_ranks_2 : decode cX9_ranks 2 = .ok (.iconst 2, 1) := by decide +kernel
theorem dX9_ranks_3 : decode cX9_ranks 3 = .ok (.aload_n 0, 1) := by decide +kernel
theorem dX9_ranks_4 : decode cX9_ranks 4 = .ok (.iload_n 1, 1) := by decide +kernel
theorem dX9_ranks_5 : decode cX9_ranks 5 = .ok (.iconst 2, 1) := by decide +kernel
theorem dX9_ranks_6 : decode cX9_ranks 6 = .ok (.invokevirtual 63, 3) := by decide +kernel
theorem dX9_ranks_9 : decode cX9_ranks 9 = .ok (.iload_n 2, 1) := by decide +kernel
theorem dX9_ranks_10 : decode cX9_ranks 10 = .ok (.iadd, 1) := by decide +kernel
theorem dX9_ranks_11 : decode cX9_ranks 11 = .ok (.invokevirtual 56, 3) := by decide +kernel
theorem dX9_ranks_14 : decode cX9_ranks 14 = .ok (.return_, 1) := by decide +kernel
theorem dX9_step_0 : decode cX9_step 0 = .ok (.aload_n 0, 1) := by decide +kernel
theorem dX9_step_1 : decode cX9_step 1 = .ok (.iload_n 1, 1) := by decide +kernel
theorem dX9_step_2 : decode cX9_step 2 = .ok (.iconst 2, 1) := by decide +kernel
theorem dX9_step_3 : decode cX9_step 3 = .ok (.invokevirtual 63, 3) := by decide +kernel
theorem dX9_step_6 : decode cX9_step 6 = .ok (.aload_n 0, 1) := by decide +kernel
theorem dX9_step_7 : decode cX9_step 7 = .ok (.iload_n 2, 1) := by decide +kernel
theorem dX9_step_8 : decode cX9_step 8 = .ok (.invokevirtual 83, 3) := by decide +kernel
theorem dX9_step_11 : decode cX9_step 11 = .ok (.isub, 1) := by decide +kernel
theorem dX9_step_12 : decode cX9_step 12 = .ok (.ireturn, 1) := by decide +kernel
theorem dX9_find_0 : decode cX9_find 0 = .ok (.aload_n 0, 1) := by decide +kernel
theorem dX9_find_1 : decode cX9_find 1 = .ok (.invokevirtual 87, 3) := by decide +kernel
theorem dX9_find_4 : decode cX9_find 4 = .ok (.istore_n 2, 1) := by decide +kernel
theorem dX9_find_5 : decode cX9_find 5 = .ok (.iload_n 2, 1) := by decide +kernel
theorem dX9_find_6 : decode cX9_find 6 = .ok (.iconst (-1), 1) := by decide +kernel
theorem dX9_find_7 : decode cX9_find 7 = .ok (.if_icmp .eq 37, 3) := by decide +kernel
theorem dX9_find_10 : decode cX9_find 10 = .ok (.aload_n 0, 1) := by decide +kernel
theorem dX9_find_11 : decode cX9_find 11 = .ok (.iload_n 2, 1) := by decide +kernel
theorem dX9_find_12 : decode cX9_find 12 = .ok (.iconst 0, 1) := by decide +kernel
theorem dX9_find_13 : decode cX9_find 13 = .ok (.invokevirtual 63, 3) := by decide +kernel
theorem dX9_find_16 : decode cX9_find 16 = .ok (.iload_n 1, 1) := by decide +kernel
theorem dX9_find_17 : decode cX9_find 17 = .ok (.if_icmp .eq 27, 3) := by decide +kernel
theorem dX9_find_20 : decode cX9_find 20 = .ok (.aload_n 0, 1) := by decide +kernel
theorem dX9_find_21 : decode cX9_find 21 = .ok (.iload_n 2, 1) := by decide +kernel
theorem dX9_find_22 : decode cX9_find 22 = .ok (.iload_n 1, 1) := by decide +kernel
theorem dX9_find_23 : decode cX9_find 23 = .ok (.aload_n 0, 1) := by decide +kernel
theorem dX9_find_24 : decode cX9_find 24 = .ok (.iload_n 2, 1) := by decide +kernel
theorem dX9_find_25 : decode cX9_find 25 = .ok (.iconst 0, 1) := by decide +kernel
theorem dX9_find_26 : decode cX9_find 26 = .ok (.invokevirtual 63, 3) := by decide +kernel
theorem dX9_find_29 : decode cX9_find 29 = .ok (.if_icmp .ge 7, 3) := by decide +kernel
theorem dX9_find_32 : decode cX9_find 32 = .ok (.iconst 1, 1) := by decide +kernel
theorem dX9_find_33 : decode cX9_find 33 = .ok (.goto 4, 3) := by decide +kernel
theorem dX9_find_36 : decode cX9_find 36 = .ok (.iconst 0, 1) := by decide +kernel
theorem dX9_find_37 : decode cX9_find 37 = .ok (.invokevirtual 71, 3) := by decide +kernel
theorem dX9_find_40 : decode cX9_find 40 = .ok (.istore_n 2, 1) := by decide +kernel
theorem dX9_find_41 : decode cX9_find 41 = .ok (.goto (-36), 3) := by decide +kernel
theorem dX9_find_44 : decode cX9_find 44 = .ok (.iload_n 2, 1) := by decide +kernel
theorem dX9_find_45 : decode cX9_find 45 = .ok (.ireturn, 1) := by decide +kernel
theorem dX9_freeOne_0 : decode cX9_freeOne 0 = .ok (.iconst 0, 1) := by decide +kernel
theorem dX9_freeOne_1 : decode cX9_freeOne 1 = .ok (.istore_n 1, 1) := by decide +kernel
theorem dX9_freeOne_2 : decode cX9_freeOne 2 = .ok (.aload_n 0, 1) := by decide +kernel
theorem dX9_freeOne_3 : decode cX9_freeOne 3 = .ok (.iload_n 1, 1) := by decide +kernel
theorem dX9_freeOne_4 : decode cX9_freeOne 4 = .ok (.iconst 0, 1) := by decide +kernel
theorem dX9_freeOne_5 : decode cX9_freeOne 5 = .ok (.invokevirtual 63, 3) := by decide +kernel
theorem dX9_freeOne_8 : decode cX9_freeOne 8 = .ok (.iconst (-1), 1) := by decide +kernel
theorem dX9_freeOne_9 : decode cX9_freeOne 9 = .ok (.if_icmp .eq 9, 3) := by decide +kernel
theorem dX9_freeOne_12 : decode cX9_freeOne 12 = .ok (.iinc 1 1, 3) := by decide +kernel
theorem dX9_freeOne_15 : decode cX9_freeOne 15 = .ok (.goto (-13), 3) := by decide +kernel
theorem dX9_freeOne_18 : decode cX9_freeOne 18 = .ok (.iload_n 1, 1) := by decide +kernel
theorem dX9_freeOne_19 : decode cX9_freeOne 19 = .ok (.ireturn, 1) := by decide +kernel
theorem dX9_puts_0 : decode cX9_puts 0 = .ok (.aload_n 0, 1) := by decide +kernel
theorem dX9_puts_1 : decode cX9_puts 1 = .ok (.invokevirtual 91, 3) := by decide +kernel
theorem dX9_puts_4 : decode cX9_puts 4 = .ok (.istore_n 3, 1) := by decide +kernel
theorem dX9_puts_5 : decode cX9_puts 5 = .ok (.iconst (-1), 1) := by decide +kernel
theorem dX9_puts_6 : decode cX9_puts 6 = .ok (.istore 4, 2) := by decide +kernel
theorem dX9_puts_8 : decode cX9_puts 8 = .ok (.aload_n 0, 1) := by decide +kernel
theorem dX9_puts_9 : decode cX9_puts 9 = .ok (.invokevirtual 87, 3) := by decide +kernel
theorem dX9_puts_12 : decode cX9_puts 12 = .ok (.istore 5, 2) := by decide +kernel
theorem dX9_puts_14 : decode cX9_puts 14 = .ok (.aload_n 0, 1) := by decide +kernel
theorem dX9_puts_15 : decode cX9_puts 15 = .ok (.invokevirtual 94, 3) := by decide +kernel
theorem dX9_puts_18 : decode cX9_puts 18 = .ok (.iload 5, 2) := by decide +kernel
theorem dX9_puts_20 : decode cX9_puts 20 = .ok (.iconst (-1), 1) := by decide +kernel
theorem dX9_puts_21 : decode cX9_puts 21 = .ok (.if_icmp .eq 34, 3) := by decide +kernel
theorem dX9_puts_24 : decode cX9_puts 24 = .ok (.iload 5, 2) := by decide +kernel
theorem dX9_puts_26 : decode cX9_puts 26 = .ok (.istore 4, 2) := by decide +kernel
theorem dX9_puts_28 : decode cX9_puts 28 = .ok (.aload_n 0, 1) := by decide +kernel
theorem dX9_puts_29 : decode cX9_puts 29 = .ok (.iload 5, 2) := by decide +kernel
theorem dX9_puts_31 : decode cX9_puts 31 = .ok (.iload_n 1, 1) := by decide +kernel
theorem dX9_puts_32 : decode cX9_puts 32 = .ok (.aload_n 0, 1) := by decide +kernel
theorem dX9_puts_33 : decode cX9_puts 33 = .ok (.iload 5, 2) := by decide +kernel
theorem dX9_puts_35 : decode cX9_puts 35 = .ok (.iconst 0, 1) := by decide +kernel
theorem dX9_puts_36 : decode cX9_puts 36 = .ok (.invokevirtual 63, 3) := by decide +kernel
theorem dX9_puts_39 : decode cX9_puts 39 = .ok (.if_icmp .ge 7, 3) := by decide +kernel
theorem dX9_puts_42 : decode cX9_puts 42 = .ok (.iconst 1, 1) := by decide +kernel
theorem dX9_puts_43 : decode cX9_puts 43 = .ok (.goto 4, 3) := by decide +kernel
theorem dX9_puts_46 : decode cX9_puts 46 = .ok (.iconst 0, 1) := by decide +kernel
theorem dX9_puts_47 : decode cX9_puts 47 = .ok (.invokevirtual 71, 3) := by decide +kernel
theorem dX9_puts_50 : decode cX9_puts 50 = .ok (.istore 5, 2) := by decide +kernel
theorem dX9_puts_52 : decode cX9_puts 52 = .ok (.goto (-34), 3) := by decide +kernel
theorem dX9_puts_55 : decode cX9_puts 55 = .ok (.aload_n 0, 1) := by decide +kernel
theorem dX9_puts_56 : decode cX9_puts 56 = .ok (.iload_n 3, 1) := by decide +kernel
theorem dX9_puts_57 : decode cX9_puts 57 = .ok (.iconst 0, 1) := by decide +kernel
theorem dX9_puts_58 : decode cX9_puts 58 = .ok (.iload_n 1, 1) := by decide +kernel
theorem dX9_puts_59 : decode cX9_puts 59 = .ok (.invokevirtual 56, 3) := by decide +kernel
theorem dX9_puts_62 : decode cX9_puts 62 = .ok (.aload_n 0, 1) := by decide +kernel
theorem dX9_puts_63 : decode cX9_puts 63 = .ok (.iload_n 3, 1) := by decide +kernel
theorem dX9_puts_64 : decode cX9_puts 64 = .ok (.iconst 1, 1) := by decide +kernel
theorem dX9_puts_65 : decode cX9_puts 65 = .ok (.iload_n 2, 1) := by decide +kernel
theorem dX9_puts_66 : decode cX9_puts 66 = .ok (.invokevirtual 56, 3) := by decide +kernel
theorem dX9_puts_69 : decode cX9_puts 69 = .ok (.aload_n 0, 1) := by decide +kernel
theorem dX9_puts_70 : decode cX9_puts 70 = .ok (.iload_n 3, 1) := by decide +kernel
theorem dX9_puts_71 : decode cX9_puts 71 = .ok (.iconst 2, 1) := by decide +kernel
theorem dX9_puts_72 : decode cX9_puts 72 = .ok (.iconst 0, 1) := by decide +kernel
theorem dX9_puts_73 : decode cX9_puts 73 = .ok (.invokevirtual 56, 3) := by decide +kernel
theorem dX9_puts_76 : decode cX9_puts 76 = .ok (.aload_n 0, 1) := by decide +kernel
theorem dX9_puts_77 : decode cX9_puts 77 = .ok (.iload_n 3, 1) := by decide +kernel
theorem dX9_puts_78 : decode cX9_puts 78 = .ok (.iconst 3, 1) := by decide +kernel
theorem dX9_puts_79 : decode cX9_puts 79 = .ok (.iconst (-1), 1) := by decide +kernel
theorem dX9_puts_80 : decode cX9_puts 80 = .ok (.invokevirtual 56, 3) := by decide +kernel
theorem dX9_puts_83 : decode cX9_puts 83 = .ok (.aload_n 0, 1) := by decide +kernel
theorem dX9_puts_84 : decode cX9_puts 84 = .ok (.iload_n 3, 1) := by decide +kernel
theorem dX9_puts_85 : decode cX9_puts 85 = .ok (.iconst 4, 1) := by decide +kernel
theorem dX9_puts_86 : decode cX9_puts 86 = .ok (.iconst (-1), 1) := by decide +kernel
theorem dX9_puts_87 : decode cX9_puts 87 = .ok (.invokevirtual 56, 3) := by decide +kernel
theorem dX9_puts_90 : decode cX9_puts 90 = .ok (.aload_n 0, 1) := by decide +kernel
theorem dX9_puts_91 : decode cX9_puts 91 = .ok (.iload 4, 2) := by decide +kernel
theorem dX9_puts_93 : decode cX9_puts 93 = .ok (.iload 4, 2) := by decide +kernel
theorem dX9_puts_95 : decode cX9_puts 95 = .ok (.iconst (-1), 1) := by decide +kernel
theorem dX9_puts_96 : decode cX9_puts 96 = .ok (.if_icmp .eq 18, 3) := by decide +kernel
theorem dX9_puts_99 : decode cX9_puts 99 = .ok (.iload_n 1, 1) := by decide +kernel
theorem dX9_puts_100 : decode cX9_puts 100 = .ok (.aload_n 0, 1) := by decide +kernel
theorem dX9_puts_101 : decode cX9_puts 101 = .ok (.iload 4, 2) := by decide +kernel
theorem dX9_puts_103 : decode cX9_puts 103 = .ok (.iconst 0, 1) := by decide +kernel
theorem dX9_puts_104 : decode cX9_puts 104 = .ok (.invokevirtual 63, 3) := by decide +kernel
theorem dX9_puts_107 : decode cX9_puts 107 = .ok (.if_icmp .ge 7, 3) := by decide +kernel
theorem dX9_puts_110 : decode cX9_puts 110 = .ok (.iconst 1, 1) := by decide +kernel
theorem dX9_puts_111 : decode cX9_puts 111 = .ok (.goto 4, 3) := by decide +kernel
theorem dX9_puts_114 : decode cX9_puts 114 = .ok (.iconst 0, 1) := by decide +kernel
theorem dX9_puts_115 : decode cX9_puts 115 = .ok (.iload_n 3, 1) := by decide +kernel
theorem dX9_puts_116 : decode cX9_puts 116 = .ok (.invokevirtual 75, 3) := by decide +kernel
theorem dX9_puts_119 : decode cX9_puts 119 = .ok (.aload_n 0, 1) := by decide +kernel
theorem dX9_puts_120 : decode cX9_puts 120 = .ok (.getfield 7, 3) := by decide +kernel
theorem dX9_puts_123 : decode cX9_puts 123 = .ok (.sipush 361, 3) := by decide +kernel
theorem dX9_puts_126 : decode cX9_puts 126 = .ok (.dup2, 1) := by decide +kernel
theorem dX9_puts_127 : decode cX9_puts 127 = .ok (.iaload, 1) := by decide +kernel
theorem dX9_puts_128 : decode cX9_puts 128 = .ok (.iconst 1, 1) := by decide +kernel
theorem dX9_puts_129 : decode cX9_puts 129 = .ok (.iadd, 1) := by decide +kernel
theorem dX9_puts_130 : decode cX9_puts 130 = .ok (.iastore, 1) := by decide +kernel
theorem dX9_puts_131 : decode cX9_puts 131 = .ok (.aload_n 0, 1) := by decide +kernel
theorem dX9_puts_132 : decode cX9_puts 132 = .ok (.iload_n 3, 1) := by decide +kernel
theorem dX9_puts_133 : decode cX9_puts 133 = .ok (.invokevirtual 97, 3) := by decide +kernel
theorem dX9_puts_136 : decode cX9_puts 136 = .ok (.return_, 1) := by decide +kernel
theorem dX9_rises_0 : decode cX9_rises 0 = .ok (.iload_n 1, 1) := by decide +kernel
theorem dX9_rises_1 : decode cX9_rises 1 = .ok (.istore_n 2, 1) := by decide +kernel
theorem dX9_rises_2 : decode cX9_rises 2 = .ok (.iconst 1, 1) := by decide +kernel
theorem dX9_rises_3 : decode cX9_rises 3 = .ok (.istore_n 3, 1) := by decide +kernel
theorem dX9_rises_4 : decode cX9_rises 4 = .ok (.iload_n 3, 1) := by decide +kernel
theorem dX9_rises_5 : decode cX9_rises 5 = .ok (.ifCond .eq 117, 3) := by decide +kernel
theorem dX9_rises_8 : decode cX9_rises 8 = .ok (.aload_n 0, 1) := by decide +kernel
theorem dX9_rises_9 : decode cX9_rises 9 = .ok (.iload_n 2, 1) := by decide +kernel
theorem dX9_rises_10 : decode cX9_rises 10 = .ok (.iconst 5, 1) := by decide +kernel
theorem dX9_rises_11 : decode cX9_rises 11 = .ok (.invokevirtual 63, 3) := by decide +kernel
theorem dX9_rises_14 : decode cX9_rises 14 = .ok (.istore 4, 2) := by decide +kernel
theorem dX9_rises_16 : decode cX9_rises 16 = .ok (.iload 4, 2) := by decide +kernel
theorem dX9_rises_18 : decode cX9_rises 18 = .ok (.iconst (-1), 1) := by decide +kernel
theorem dX9_rises_19 : decode cX9_rises 19 = .ok (.if_icmp .eq 17, 3) := by decide +kernel
theorem dX9_rises_22 : decode cX9_rises 22 = .ok (.aload_n 0, 1) := by decide +kernel
theorem dX9_rises_23 : decode cX9_rises 23 = .ok (.iload 4, 2) := by decide +kernel
theorem dX9_rises_25 : decode cX9_rises 25 = .ok (.iload_n 2, 1) := by decide +kernel
theorem dX9_rises_26 : decode cX9_rises 26 = .ok (.invokevirtual 100, 3) := by decide +kernel
theorem dX9_rises_29 : decode cX9_rises 29 = .ok (.ifCond .ne 7, 3) := by decide +kernel
theorem dX9_rises_32 : decode cX9_rises 32 = .ok (.iconst 1, 1) := by decide +kernel
theorem dX9_rises_33 : decode cX9_rises 33 = .ok (.goto 4, 3) := by decide +kernel
theorem dX9_rises_36 : decode cX9_rises 36 = .ok (.iconst 0, 1) := by decide +kernel
theorem dX9_rises_37 : decode cX9_rises 37 = .ok (.istore_n 3, 1) := by decide +kernel
theorem dX9_rises_38 : decode cX9_rises 38 = .ok (.iload_n 3, 1) := by decide +kernel
theorem dX9_rises_39 : decode cX9_rises 39 = .ok (.ifCond .eq 80, 3) := by decide +kernel
theorem dX9_rises_42 : decode cX9_rises 42 = .ok (.aload_n 0, 1) := by decide +kernel
theorem dX9_rises_43 : decode cX9_rises 43 = .ok (.iload 4, 2) := by decide +kernel
theorem dX9_rises_45 : decode cX9_rises 45 = .ok (.iload_n 2, 1) := by decide +kernel
theorem dX9_rises_46 : decode cX9_rises 46 = .ok (.invokevirtual 67, 3) := by decide +kernel
theorem dX9_rises_49 : decode cX9_rises 49 = .ok (.istore 5, 2) := by decide +kernel
theorem dX9_rises_51 : decode cX9_rises 51 = .ok (.aload_n 0, 1) := by decide +kernel
theorem dX9_rises_52 : decode cX9_rises 52 = .ok (.iload 4, 2) := by decide +kernel
theorem dX9_rises_54 : decode cX9_rises 54 = .ok (.aload_n 0, 1) := by decide +kernel
theorem dX9_rises_55 : decode cX9_rises 55 = .ok (.iload 4, 2) := by decide +kernel
theorem dX9_rises_57 : decode cX9_rises 57 = .ok (.iload 5, 2) := by decide +kernel
theorem dX9_rises_59 : decode cX9_rises 59 = .ok (.ifCond .ne 7, 3) := by decide +kernel
theorem dX9_rises_62 : decode cX9_rises 62 = .ok (.iconst 1, 1) := by decide +kernel
theorem dX9_rises_63 : decode cX9_rises 63 = .ok (.goto 4, 3) := by decide +kernel
theorem dX9_rises_66 : decode cX9_rises 66 = .ok (.iconst 0, 1) := by decide +kernel
theorem dX9_rises_67 : decode cX9_rises 67 = .ok (.invokevirtual 71, 3) := by decide +kernel
theorem dX9_rises_70 : decode cX9_rises 70 = .ok (.invokevirtual 100, 3) := by decide +kernel
theorem dX9_rises_73 : decode cX9_rises 73 = .ok (.iconst 1, 1) := by decide +kernel
theorem dX9_rises_74 : decode cX9_rises 74 = .ok (.if_icmp .ne 21, 3) := by decide +kernel
theorem dX9_rises_77 : decode cX9_rises 77 = .ok (.aload_n 0, 1) := by decide +kernel
theorem dX9_rises_78 : decode cX9_rises 78 = .ok (.iload 4, 2) := by decide +kernel
theorem dX9_rises_80 : decode cX9_rises 80 = .ok (.iconst 1, 1) := by decide +kernel
theorem dX9_rises_81 : decode cX9_rises 81 = .ok (.invokevirtual 103, 3) := by decide +kernel
theorem dX9_rises_84 : decode cX9_rises 84 = .ok (.aload_n 0, 1) := by decide +kernel
theorem dX9_rises_85 : decode cX9_rises 85 = .ok (.iconst 0, 1) := by decide +kernel
theorem dX9_rises_86 : decode cX9_rises 86 = .ok (.invokevirtual 79, 3) := by decide +kernel
theorem dX9_rises_89 : decode cX9_rises 89 = .ok (.iload 4, 2) := by decide +kernel
theorem dX9_rises_91 : decode cX9_rises 91 = .ok (.istore_n 2, 1) := by decide +kernel
theorem dX9_rises_92 : decode cX9_rises 92 = .ok (.goto 27, 3) := by decide +kernel
theorem dX9_rises_95 : decode cX9_rises 95 = .ok (.aload_n 0, 1) := by decide +kernel
theorem dX9_rises_96 : decode cX9_rises 96 = .ok (.iload_n 2, 1) := by decide +kernel
theorem dX9_rises_97 : decode cX9_rises 97 = .ok (.iload 4, 2) := by decide +kernel
theorem dX9_rises_99 : decode cX9_rises 99 = .ok (.aload_n 0, 1) := by decide +kernel
theorem dX9_rises_100 : decode cX9_rises 100 = .ok (.iload_n 2, 1) := by decide +kernel
theorem dX9_rises_101 : decode cX9_rises 101 = .ok (.iload 5, 2) := by decide +kernel
theorem dX9_rises_103 : decode cX9_rises 103 = .ok (.ifCond .ne 7, 3) := by decide +kernel
theorem dX9_rises_106 : decode cX9_rises 106 = .ok (.iconst 1, 1) := by decide +kernel
theorem dX9_rises_107 : decode cX9_rises 107 = .ok (.goto 4, 3) := by decide +kernel
theorem dX9_rises_110 : decode cX9_rises 110 = .ok (.iconst 0, 1) := by decide +kernel
theorem dX9_rises_111 : decode cX9_rises 111 = .ok (.invokevirtual 71, 3) := by decide +kernel
theorem dX9_rises_114 : decode cX9_rises 114 = .ok (.invokevirtual 107, 3) := by decide +kernel
theorem dX9_rises_117 : decode cX9_rises 117 = .ok (.iconst 0, 1) := by decide +kernel
theorem dX9_rises_118 : decode cX9_rises 118 = .ok (.istore_n 3, 1) := by decide +kernel
theorem dX9_rises_119 : decode cX9_rises 119 = .ok (.goto (-115), 3) := by decide +kernel
theorem dX9_rises_122 : decode cX9_rises 122 = .ok (.return_, 1) := by decide +kernel
theorem dX9_turnsUp_0 : decode cX9_turnsUp 0 = .ok (.aload_n 0, 1) := by decide +kernel
theorem dX9_turnsUp_1 : decode cX9_turnsUp 1 = .ok (.iload_n 1, 1) := by decide +kernel
theorem dX9_turnsUp_2 : decode cX9_turnsUp 2 = .ok (.iload_n 3, 1) := by decide +kernel
theorem dX9_turnsUp_3 : decode cX9_turnsUp 3 = .ok (.invokevirtual 100, 3) := by decide +kernel
theorem dX9_turnsUp_6 : decode cX9_turnsUp 6 = .ok (.iconst 2, 1) := by decide +kernel
theorem dX9_turnsUp_7 : decode cX9_turnsUp 7 = .ok (.if_icmp .ne 17, 3) := by decide +kernel
theorem dX9_turnsUp_10 : decode cX9_turnsUp 10 = .ok (.aload_n 0, 1) := by decide +kernel
theorem dX9_turnsUp_11 : decode cX9_turnsUp 11 = .ok (.iload_n 1, 1) := by decide +kernel
theorem dX9_turnsUp_12 : decode cX9_turnsUp 12 = .ok (.invokevirtual 110, 3) := by decide +kernel
theorem dX9_turnsUp_15 : decode cX9_turnsUp 15 = .ok (.aload_n 0, 1) := by decide +kernel
theorem dX9_turnsUp_16 : decode cX9_turnsUp 16 = .ok (.iload_n 2, 1) := by decide +kernel
theorem dX9_turnsUp_17 : decode cX9_turnsUp 17 = .ok (.iconst (-1), 1) := by decide +kernel
theorem dX9_turnsUp_18 : decode cX9_turnsUp 18 = .ok (.invokevirtual 103, 3) := by decide +kernel
theorem dX9_turnsUp_21 : decode cX9_turnsUp 21 = .ok (.goto 31, 3) := by decide +kernel
theorem dX9_turnsUp_24 : decode cX9_turnsUp 24 = .ok (.aload_n 0, 1) := by decide +kernel
theorem dX9_turnsUp_25 : decode cX9_turnsUp 25 = .ok (.iload_n 3, 1) := by decide +kernel
theorem dX9_turnsUp_26 : decode cX9_turnsUp 26 = .ok (.invokevirtual 110, 3) := by decide +kernel
theorem dX9_turnsUp_29 : decode cX9_turnsUp 29 = .ok (.aload_n 0, 1) := by decide +kernel
theorem dX9_turnsUp_30 : decode cX9_turnsUp 30 = .ok (.iload_n 3, 1) := by decide +kernel
theorem dX9_turnsUp_31 : decode cX9_turnsUp 31 = .ok (.invokevirtual 110, 3) := by decide +kernel
theorem dX9_turnsUp_34 : decode cX9_turnsUp 34 = .ok (.aload_n 0, 1) := by decide +kernel
theorem dX9_turnsUp_35 : decode cX9_turnsUp 35 = .ok (.iload_n 3, 1) := by decide +kernel
theorem dX9_turnsUp_36 : decode cX9_turnsUp 36 = .ok (.iconst 1, 1) := by decide +kernel
theorem dX9_turnsUp_37 : decode cX9_turnsUp 37 = .ok (.invokevirtual 103, 3) := by decide +kernel
theorem dX9_turnsUp_40 : decode cX9_turnsUp 40 = .ok (.aload_n 0, 1) := by decide +kernel
theorem dX9_turnsUp_41 : decode cX9_turnsUp 41 = .ok (.iload_n 1, 1) := by decide +kernel
theorem dX9_turnsUp_42 : decode cX9_turnsUp 42 = .ok (.iconst (-1), 1) := by decide +kernel
theorem dX9_turnsUp_43 : decode cX9_turnsUp 43 = .ok (.invokevirtual 103, 3) := by decide +kernel
theorem dX9_turnsUp_46 : decode cX9_turnsUp 46 = .ok (.aload_n 0, 1) := by decide +kernel
theorem dX9_turnsUp_47 : decode cX9_turnsUp 47 = .ok (.iload_n 2, 1) := by decide +kernel
theorem dX9_turnsUp_48 : decode cX9_turnsUp 48 = .ok (.iconst (-1), 1) := by decide +kernel
theorem dX9_turnsUp_49 : decode cX9_turnsUp 49 = .ok (.invokevirtual 103, 3) := by decide +kernel
theorem dX9_turnsUp_52 : decode cX9_turnsUp 52 = .ok (.return_, 1) := by decide +kernel
theorem dX9_leastBelow_0 : decode cX9_leastBelow 0 = .ok (.iload_n 1, 1) := by decide +kernel
theorem dX9_leastBelow_1 : decode cX9_leastBelow 1 = .ok (.istore_n 2, 1) := by decide +kernel
theorem dX9_leastBelow_2 : decode cX9_leastBelow 2 = .ok (.aload_n 0, 1) := by decide +kernel
theorem dX9_leastBelow_3 : decode cX9_leastBelow 3 = .ok (.iload_n 2, 1) := by decide +kernel
theorem dX9_leastBelow_4 : decode cX9_leastBelow 4 = .ok (.iconst 3, 1) := by decide +kernel
theorem dX9_leastBelow_5 : decode cX9_leastBelow 5 = .ok (.invokevirtual 63, 3) := by decide +kernel
theorem dX9_leastBelow_8 : decode cX9_leastBelow 8 = .ok (.iconst (-1), 1) := by decide +kernel
theorem dX9_leastBelow_9 : decode cX9_leastBelow 9 = .ok (.if_icmp .eq 13, 3) := by decide +kernel
theorem dX9_leastBelow_12 : decode cX9_leastBelow 12 = .ok (.aload_n 0, 1) := by decide +kernel
theorem dX9_leastBelow_13 : decode cX9_leastBelow 13 = .ok (.iload_n 2, 1) := by decide +kernel
theorem dX9_leastBelow_14 : decode cX9_leastBelow 14 = .ok (.iconst 3, 1) := by decide +kernel
theorem dX9_leastBelow_15 : decode cX9_leastBelow 15 = .ok (.invokevirtual 63, 3) := by decide +kernel
theorem dX9_leastBelow_18 : decode cX9_leastBelow 18 = .ok (.istore_n 2, 1) := by decide +kernel
theorem dX9_leastBelow_19 : decode cX9_leastBelow 19 = .ok (.goto (-17), 3) := by decide +kernel
theorem dX9_leastBelow_22 : decode cX9_leastBelow 22 = .ok (.iload_n 2, 1) := by decide +kernel
theorem dX9_leastBelow_23 : decode cX9_leastBelow 23 = .ok (.ireturn, 1) := by decide +kernel
theorem dX9_takes_0 : decode cX9_takes 0 = .ok (.iload_n 1, 1) := by decide +kernel
theorem dX9_takes_1 : decode cX9_takes 1 = .ok (.istore_n 2, 1) := by decide +kernel
theorem dX9_takes_2 : decode cX9_takes 2 = .ok (.aload_n 0, 1) := by decide +kernel
theorem dX9_takes_3 : decode cX9_takes 3 = .ok (.invokevirtual 94, 3) := by decide +kernel
theorem dX9_takes_6 : decode cX9_takes 6 = .ok (.aload_n 0, 1) := by decide +kernel
theorem dX9_takes_7 : decode cX9_takes 7 = .ok (.iload_n 1, 1) := by decide +kernel
theorem dX9_takes_8 : decode cX9_takes 8 = .ok (.iconst 3, 1) := by decide +kernel
theorem dX9_takes_9 : decode cX9_takes 9 = .ok (.invokevirtual 63, 3) := by decide +kernel
theorem dX9_takes_12 : decode cX9_takes 12 = .ok (.iconst (-1), 1) := by decide +kernel
theorem dX9_takes_13 : decode cX9_takes 13 = .ok (.if_icmp .eq 48, 3) := by decide +kernel
theorem dX9_takes_16 : decode cX9_takes 16 = .ok (.aload_n 0, 1) := by decide +kernel
theorem dX9_takes_17 : decode cX9_takes 17 = .ok (.iload_n 1, 1) := by decide +kernel
theorem dX9_takes_18 : decode cX9_takes 18 = .ok (.iconst 4, 1) := by decide +kernel
theorem dX9_takes_19 : decode cX9_takes 19 = .ok (.invokevirtual 63, 3) := by decide +kernel
theorem dX9_takes_22 : decode cX9_takes 22 = .ok (.iconst (-1), 1) := by decide +kernel
theorem dX9_takes_23 : decode cX9_takes 23 = .ok (.if_icmp .eq 38, 3) := by decide +kernel
theorem dX9_takes_26 : decode cX9_takes 26 = .ok (.aload_n 0, 1) := by decide +kernel
theorem dX9_takes_27 : decode cX9_takes 27 = .ok (.aload_n 0, 1) := by decide +kernel
theorem dX9_takes_28 : decode cX9_takes 28 = .ok (.iload_n 1, 1) := by decide +kernel
theorem dX9_takes_29 : decode cX9_takes 29 = .ok (.iconst 4, 1) := by decide +kernel
theorem dX9_takes_30 : decode cX9_takes 30 = .ok (.invokevirtual 63, 3) := by decide +kernel
theorem dX9_takes_33 : decode cX9_takes 33 = .ok (.invokevirtual 113, 3) := by decide +kernel
theorem dX9_takes_36 : decode cX9_takes 36 = .ok (.istore_n 2, 1) := by decide +kernel
theorem dX9_takes_37 : decode cX9_takes 37 = .ok (.aload_n 0, 1) := by decide +kernel
theorem dX9_takes_38 : decode cX9_takes 38 = .ok (.iload_n 1, 1) := by decide +kernel
theorem dX9_takes_39 : decode cX9_takes 39 = .ok (.iconst 0, 1) := by decide +kernel
theorem dX9_takes_40 : decode cX9_takes 40 = .ok (.aload_n 0, 1) := by decide +kernel
theorem dX9_takes_41 : decode cX9_takes 41 = .ok (.iload_n 2, 1) := by decide +kernel
theorem dX9_takes_42 : decode cX9_takes 42 = .ok (.iconst 0, 1) := by decide +kernel
theorem dX9_takes_43 : decode cX9_takes 43 = .ok (.invokevirtual 63, 3) := by decide +kernel
theorem dX9_takes_46 : decode cX9_takes 46 = .ok (.invokevirtual 56, 3) := by decide +kernel
theorem dX9_takes_49 : decode cX9_takes 49 = .ok (.aload_n 0, 1) := by decide +kernel
theorem dX9_takes_50 : decode cX9_takes 50 = .ok (.iload_n 1, 1) := by decide +kernel
theorem dX9_takes_51 : decode cX9_takes 51 = .ok (.iconst 1, 1) := by decide +kernel
theorem dX9_takes_52 : decode cX9_takes 52 = .ok (.aload_n 0, 1) := by decide +kernel
theorem dX9_takes_53 : decode cX9_takes 53 = .ok (.iload_n 2, 1) := by decide +kernel
theorem dX9_takes_54 : decode cX9_takes 54 = .ok (.iconst 1, 1) := by decide +kernel
theorem dX9_takes_55 : decode cX9_takes 55 = .ok (.invokevirtual 63, 3) := by decide +kernel
theorem dX9_takes_58 : decode cX9_takes 58 = .ok (.invokevirtual 56, 3) := by decide +kernel
theorem dX9_takes_61 : decode cX9_takes 61 = .ok (.aload_n 0, 1) := by decide +kernel
theorem dX9_takes_62 : decode cX9_takes 62 = .ok (.iload_n 2, 1) := by decide +kernel
theorem dX9_takes_63 : decode cX9_takes 63 = .ok (.iconst 3, 1) := by decide +kernel
theorem dX9_takes_64 : decode cX9_takes 64 = .ok (.invokevirtual 63, 3) := by decide +kernel
theorem dX9_takes_67 : decode cX9_takes 67 = .ok (.iconst (-1), 1) := by decide +kernel
theorem dX9_takes_68 : decode cX9_takes 68 = .ok (.if_icmp .ne 12, 3) := by decide +kernel
theorem dX9_takes_71 : decode cX9_takes 71 = .ok (.aload_n 0, 1) := by decide +kernel
theorem dX9_takes_72 : decode cX9_takes 72 = .ok (.iload_n 2, 1) := by decide +kernel
theorem dX9_takes_73 : decode cX9_takes 73 = .ok (.iconst 4, 1) := by decide +kernel
theorem dX9_takes_74 : decode cX9_takes 74 = .ok (.invokevirtual 63, 3) := by decide +kernel
theorem dX9_takes_77 : decode cX9_takes 77 = .ok (.goto 9, 3) := by decide +kernel
theorem dX9_takes_80 : decode cX9_takes 80 = .ok (.aload_n 0, 1) := by decide +kernel
theorem dX9_takes_81 : decode cX9_takes 81 = .ok (.iload_n 2, 1) := by decide +kernel
theorem dX9_takes_82 : decode cX9_takes 82 = .ok (.iconst 3, 1) := by decide +kernel
theorem dX9_takes_83 : decode cX9_takes 83 = .ok (.invokevirtual 63, 3) := by decide +kernel
theorem dX9_takes_86 : decode cX9_takes 86 = .ok (.istore_n 3, 1) := by decide +kernel
theorem dX9_takes_87 : decode cX9_takes 87 = .ok (.aload_n 0, 1) := by decide +kernel
theorem dX9_takes_88 : decode cX9_takes 88 = .ok (.iload_n 2, 1) := by decide +kernel
theorem dX9_takes_89 : decode cX9_takes 89 = .ok (.iconst 5, 1) := by decide +kernel
theorem dX9_takes_90 : decode cX9_takes 90 = .ok (.invokevirtual 63, 3) := by decide +kernel
theorem dX9_takes_93 : decode cX9_takes 93 = .ok (.istore 4, 2) := by decide +kernel
theorem dX9_takes_95 : decode cX9_takes 95 = .ok (.iload 4, 2) := by decide +kernel
theorem dX9_takes_97 : decode cX9_takes 97 = .ok (.iconst (-1), 1) := by decide +kernel
theorem dX9_takes_98 : decode cX9_takes 98 = .ok (.if_icmp .eq 17, 3) := by decide +kernel
theorem dX9_takes_101 : decode cX9_takes 101 = .ok (.aload_n 0, 1) := by decide +kernel
theorem dX9_takes_102 : decode cX9_takes 102 = .ok (.iload 4, 2) := by decide +kernel
theorem dX9_takes_104 : decode cX9_takes 104 = .ok (.iload_n 2, 1) := by decide +kernel
theorem dX9_takes_105 : decode cX9_takes 105 = .ok (.invokevirtual 67, 3) := by decide +kernel
theorem dX9_takes_108 : decode cX9_takes 108 = .ok (.ifCond .eq 7, 3) := by decide +kernel
theorem dX9_takes_111 : decode cX9_takes 111 = .ok (.iconst 1, 1) := by decide +kernel
theorem dX9_takes_112 : decode cX9_takes 112 = .ok (.goto 4, 3) := by decide +kernel
theorem dX9_takes_115 : decode cX9_takes 115 = .ok (.iconst 0, 1) := by decide +kernel
theorem dX9_takes_116 : decode cX9_takes 116 = .ok (.istore 5, 2) := by decide +kernel
theorem dX9_takes_118 : decode cX9_takes 118 = .ok (.aload_n 0, 1) := by decide +kernel
theorem dX9_takes_119 : decode cX9_takes 119 = .ok (.iload 4, 2) := by decide +kernel
theorem dX9_takes_121 : decode cX9_takes 121 = .ok (.iload 5, 2) := by decide +kernel
theorem dX9_takes_123 : decode cX9_takes 123 = .ok (.iload_n 3, 1) := by decide +kernel
theorem dX9_takes_124 : decode cX9_takes 124 = .ok (.invokevirtual 75, 3) := by decide +kernel
theorem dX9_takes_127 : decode cX9_takes 127 = .ok (.aload_n 0, 1) := by decide +kernel
theorem dX9_takes_128 : decode cX9_takes 128 = .ok (.iload_n 2, 1) := by decide +kernel
theorem dX9_takes_129 : decode cX9_takes 129 = .ok (.iconst 0, 1) := by decide +kernel
theorem dX9_takes_130 : decode cX9_takes 130 = .ok (.iconst (-1), 1) := by decide +kernel
theorem dX9_takes_131 : decode cX9_takes 131 = .ok (.invokevirtual 56, 3) := by decide +kernel
theorem dX9_takes_134 : decode cX9_takes 134 = .ok (.aload_n 0, 1) := by decide +kernel
theorem dX9_takes_135 : decode cX9_takes 135 = .ok (.getfield 7, 3) := by decide +kernel
theorem dX9_takes_138 : decode cX9_takes 138 = .ok (.sipush 361, 3) := by decide +kernel
theorem dX9_takes_141 : decode cX9_takes 141 = .ok (.dup2, 1) := by decide +kernel
theorem dX9_takes_142 : decode cX9_takes 142 = .ok (.iaload, 1) := by decide +kernel
theorem dX9_takes_143 : decode cX9_takes 143 = .ok (.iconst 1, 1) := by decide +kernel
theorem dX9_takes_144 : decode cX9_takes 144 = .ok (.isub, 1) := by decide +kernel
theorem dX9_takes_145 : decode cX9_takes 145 = .ok (.iastore, 1) := by decide +kernel
theorem dX9_takes_146 : decode cX9_takes 146 = .ok (.iload 4, 2) := by decide +kernel
theorem dX9_takes_148 : decode cX9_takes 148 = .ok (.iconst (-1), 1) := by decide +kernel
theorem dX9_takes_149 : decode cX9_takes 149 = .ok (.if_icmp .eq 69, 3) := by decide +kernel
theorem dX9_takes_152 : decode cX9_takes 152 = .ok (.aload_n 0, 1) := by decide +kernel
theorem dX9_takes_153 : decode cX9_takes 153 = .ok (.iload 4, 2) := by decide +kernel
theorem dX9_takes_155 : decode cX9_takes 155 = .ok (.invokevirtual 116, 3) := by decide +kernel
theorem dX9_takes_158 : decode cX9_takes 158 = .ok (.ifCond .eq 60, 3) := by decide +kernel
theorem dX9_takes_161 : decode cX9_takes 161 = .ok (.aload_n 0, 1) := by decide +kernel
theorem dX9_takes_162 : decode cX9_takes 162 = .ok (.iload 4, 2) := by decide +kernel
theorem dX9_takes_164 : decode cX9_takes 164 = .ok (.iconst 2, 1) := by decide +kernel
theorem dX9_takes_165 : decode cX9_takes 165 = .ok (.invokevirtual 63, 3) := by decide +kernel
theorem dX9_takes_168 : decode cX9_takes 168 = .ok (.iconst 1, 1) := by decide +kernel
theorem dX9_takes_169 : decode cX9_takes 169 = .ok (.if_icmp .ne 49, 3) := by decide +kernel
theorem dX9_takes_172 : decode cX9_takes 172 = .ok (.aload_n 0, 1) := by decide +kernel
theorem dX9_takes_173 : decode cX9_takes 173 = .ok (.iload 4, 2) := by decide +kernel
theorem dX9_takes_175 : decode cX9_takes 175 = .ok (.iconst (-1), 1) := by decide +kernel
theorem dX9_takes_176 : decode cX9_takes 176 = .ok (.invokevirtual 103, 3) := by decide +kernel
theorem dX9_takes_179 : decode cX9_takes 179 = .ok (.aload_n 0, 1) := by decide +kernel
end
section
theorem dX9_takes_180 : decode cX9_takes 180 = .ok (.iconst 1, 1) := by decide +kernel
theorem dX9_takes_181 : decode cX9_takes 181 = .ok (.invokevirtual 79, 3) := by decide +kernel
theorem dX9_takes_184 : decode cX9_takes 184 = .ok (.iload 4, 2) := by decide +kernel
theorem dX9_takes_186 : decode cX9_takes 186 = .ok (.istore_n 3, 1) := by decide +kernel
theorem dX9_takes_187 : decode cX9_takes 187 = .ok (.aload_n 0, 1) := by decide +kernel
theorem dX9_takes_188 : decode cX9_takes 188 = .ok (.iload_n 3, 1) := by decide +kernel
theorem dX9_takes_189 : decode cX9_takes 189 = .ok (.iconst 5, 1) := by decide +kernel
theorem dX9_takes_190 : decode cX9_takes 190 = .ok (.invokevirtual 63, 3) := by decide +kernel
theorem dX9_takes_193 : decode cX9_takes 193 = .ok (.istore 4, 2) := by decide +kernel
theorem dX9_takes_195 : decode cX9_takes 195 = .ok (.iload 4, 2) := by decide +kernel
theorem dX9_takes_197 : decode cX9_takes 197 = .ok (.iconst (-1), 1) := by decide +kernel
theorem dX9_takes_198 : decode cX9_takes 198 = .ok (.if_icmp .eq 17, 3) := by decide +kernel
theorem dX9_takes_201 : decode cX9_takes 201 = .ok (.aload_n 0, 1) := by decide +kernel
theorem dX9_takes_202 : decode cX9_takes 202 = .ok (.iload 4, 2) := by decide +kernel
theorem dX9_takes_204 : decode cX9_takes 204 = .ok (.iload_n 3, 1) := by decide +kernel
theorem dX9_takes_205 : decode cX9_takes 205 = .ok (.invokevirtual 67, 3) := by decide +kernel
theorem dX9_takes_208 : decode cX9_takes 208 = .ok (.ifCond .eq 7, 3) := by decide +kernel
theorem dX9_takes_211 : decode cX9_takes 211 = .ok (.iconst 1, 1) := by decide +kernel
theorem dX9_takes_212 : decode cX9_takes 212 = .ok (.goto 4, 3) := by decide +kernel
theorem dX9_takes_215 : decode cX9_takes 215 = .ok (.iconst 0, 1) := by decide +kernel
theorem dX9_takes_216 : decode cX9_takes 216 = .ok (.istore 5, 2) := by decide +kernel
theorem dX9_takes_218 : decode cX9_takes 218 = .ok (.aload_n 0, 1) := by decide +kernel
theorem dX9_takes_219 : decode cX9_takes 219 = .ok (.iload 4, 2) := by decide +kernel
theorem dX9_takes_221 : decode cX9_takes 221 = .ok (.iload 5, 2) := by decide +kernel
theorem dX9_takes_223 : decode cX9_takes 223 = .ok (.invokevirtual 120, 3) := by decide +kernel
theorem dX9_takes_226 : decode cX9_takes 226 = .ok (.return_, 1) := by decide +kernel
theorem dX9_falls_0 : decode cX9_falls 0 = .ok (.iload_n 1, 1) := by decide +kernel
theorem dX9_falls_1 : decode cX9_falls 1 = .ok (.istore_n 3, 1) := by decide +kernel
theorem dX9_falls_2 : decode cX9_falls 2 = .ok (.iload_n 2, 1) := by decide +kernel
theorem dX9_falls_3 : decode cX9_falls 3 = .ok (.istore 4, 2) := by decide +kernel
theorem dX9_falls_5 : decode cX9_falls 5 = .ok (.iload_n 3, 1) := by decide +kernel
theorem dX9_falls_6 : decode cX9_falls 6 = .ok (.iconst (-1), 1) := by decide +kernel
theorem dX9_falls_7 : decode cX9_falls 7 = .ok (.if_icmp .eq 183, 3) := by decide +kernel
theorem dX9_falls_10 : decode cX9_falls 10 = .ok (.aload_n 0, 1) := by decide +kernel
theorem dX9_falls_11 : decode cX9_falls 11 = .ok (.iload_n 3, 1) := by decide +kernel
theorem dX9_falls_12 : decode cX9_falls 12 = .ok (.aload_n 0, 1) := by decide +kernel
theorem dX9_falls_13 : decode cX9_falls 13 = .ok (.iload_n 3, 1) := by decide +kernel
theorem dX9_falls_14 : decode cX9_falls 14 = .ok (.iload 4, 2) := by decide +kernel
theorem dX9_falls_16 : decode cX9_falls 16 = .ok (.invokevirtual 71, 3) := by decide +kernel
theorem dX9_falls_19 : decode cX9_falls 19 = .ok (.invokevirtual 100, 3) := by decide +kernel
theorem dX9_falls_22 : decode cX9_falls 22 = .ok (.iconst 3, 1) := by decide +kernel
theorem dX9_falls_23 : decode cX9_falls 23 = .ok (.if_icmp .ne 167, 3) := by decide +kernel
theorem dX9_falls_26 : decode cX9_falls 26 = .ok (.aload_n 0, 1) := by decide +kernel
theorem dX9_falls_27 : decode cX9_falls 27 = .ok (.iload_n 3, 1) := by decide +kernel
theorem dX9_falls_28 : decode cX9_falls 28 = .ok (.iload 4, 2) := by decide +kernel
theorem dX9_falls_30 : decode cX9_falls 30 = .ok (.ifCond .ne 7, 3) := by decide +kernel
theorem dX9_falls_33 : decode cX9_falls 33 = .ok (.iconst 1, 1) := by decide +kernel
theorem dX9_falls_34 : decode cX9_falls 34 = .ok (.goto 4, 3) := by decide +kernel
theorem dX9_falls_37 : decode cX9_falls 37 = .ok (.iconst 0, 1) := by decide +kernel
theorem dX9_falls_38 : decode cX9_falls 38 = .ok (.invokevirtual 71, 3) := by decide +kernel
theorem dX9_falls_41 : decode cX9_falls 41 = .ok (.istore 5, 2) := by decide +kernel
theorem dX9_falls_43 : decode cX9_falls 43 = .ok (.aload_n 0, 1) := by decide +kernel
theorem dX9_falls_44 : decode cX9_falls 44 = .ok (.iload_n 3, 1) := by decide +kernel
theorem dX9_falls_45 : decode cX9_falls 45 = .ok (.iload 5, 2) := by decide +kernel
theorem dX9_falls_47 : decode cX9_falls 47 = .ok (.invokevirtual 100, 3) := by decide +kernel
theorem dX9_falls_50 : decode cX9_falls 50 = .ok (.iconst 1, 1) := by decide +kernel
theorem dX9_falls_51 : decode cX9_falls 51 = .ok (.if_icmp .ne 41, 3) := by decide +kernel
theorem dX9_falls_54 : decode cX9_falls 54 = .ok (.aload_n 0, 1) := by decide +kernel
theorem dX9_falls_55 : decode cX9_falls 55 = .ok (.iload 5, 2) := by decide +kernel
theorem dX9_falls_57 : decode cX9_falls 57 = .ok (.aload_n 0, 1) := by decide +kernel
theorem dX9_falls_58 : decode cX9_falls 58 = .ok (.iload 5, 2) := by decide +kernel
theorem dX9_falls_60 : decode cX9_falls 60 = .ok (.iconst 3, 1) := by decide +kernel
theorem dX9_falls_61 : decode cX9_falls 61 = .ok (.invokevirtual 63, 3) := by decide +kernel
theorem dX9_falls_64 : decode cX9_falls 64 = .ok (.invokevirtual 100, 3) := by decide +kernel
theorem dX9_falls_67 : decode cX9_falls 67 = .ok (.iconst 2, 1) := by decide +kernel
theorem dX9_falls_68 : decode cX9_falls 68 = .ok (.if_icmp .ne 24, 3) := by decide +kernel
theorem dX9_falls_71 : decode cX9_falls 71 = .ok (.aload_n 0, 1) := by decide +kernel
theorem dX9_falls_72 : decode cX9_falls 72 = .ok (.iload 5, 2) := by decide +kernel
theorem dX9_falls_74 : decode cX9_falls 74 = .ok (.aload_n 0, 1) := by decide +kernel
theorem dX9_falls_75 : decode cX9_falls 75 = .ok (.iload 5, 2) := by decide +kernel
theorem dX9_falls_77 : decode cX9_falls 77 = .ok (.iconst 4, 1) := by decide +kernel
theorem dX9_falls_78 : decode cX9_falls 78 = .ok (.invokevirtual 63, 3) := by decide +kernel
theorem dX9_falls_81 : decode cX9_falls 81 = .ok (.invokevirtual 100, 3) := by decide +kernel
theorem dX9_falls_84 : decode cX9_falls 84 = .ok (.iconst 2, 1) := by decide +kernel
theorem dX9_falls_85 : decode cX9_falls 85 = .ok (.if_icmp .ne 7, 3) := by decide +kernel
theorem dX9_falls_88 : decode cX9_falls 88 = .ok (.iconst 1, 1) := by decide +kernel
theorem dX9_falls_89 : decode cX9_falls 89 = .ok (.goto 4, 3) := by decide +kernel
theorem dX9_falls_92 : decode cX9_falls 92 = .ok (.iconst 0, 1) := by decide +kernel
theorem dX9_falls_93 : decode cX9_falls 93 = .ok (.istore 6, 2) := by decide +kernel
theorem dX9_falls_95 : decode cX9_falls 95 = .ok (.aload_n 0, 1) := by decide +kernel
theorem dX9_falls_96 : decode cX9_falls 96 = .ok (.iload_n 3, 1) := by decide +kernel
theorem dX9_falls_97 : decode cX9_falls 97 = .ok (.iconst 5, 1) := by decide +kernel
theorem dX9_falls_98 : decode cX9_falls 98 = .ok (.invokevirtual 63, 3) := by decide +kernel
theorem dX9_falls_101 : decode cX9_falls 101 = .ok (.istore 7, 2) := by decide +kernel
theorem dX9_falls_103 : decode cX9_falls 103 = .ok (.aload_n 0, 1) := by decide +kernel
theorem dX9_falls_104 : decode cX9_falls 104 = .ok (.iload_n 3, 1) := by decide +kernel
theorem dX9_falls_105 : decode cX9_falls 105 = .ok (.iload 5, 2) := by decide +kernel
theorem dX9_falls_107 : decode cX9_falls 107 = .ok (.invokevirtual 100, 3) := by decide +kernel
theorem dX9_falls_110 : decode cX9_falls 110 = .ok (.iconst 2, 1) := by decide +kernel
theorem dX9_falls_111 : decode cX9_falls 111 = .ok (.if_icmp .eq 8, 3) := by decide +kernel
theorem dX9_falls_114 : decode cX9_falls 114 = .ok (.iload 6, 2) := by decide +kernel
theorem dX9_falls_116 : decode cX9_falls 116 = .ok (.ifCond .eq 60, 3) := by decide +kernel
theorem dX9_falls_119 : decode cX9_falls 119 = .ok (.aload_n 0, 1) := by decide +kernel
theorem dX9_falls_120 : decode cX9_falls 120 = .ok (.iload_n 3, 1) := by decide +kernel
theorem dX9_falls_121 : decode cX9_falls 121 = .ok (.iconst (-1), 1) := by decide +kernel
theorem dX9_falls_122 : decode cX9_falls 122 = .ok (.invokevirtual 103, 3) := by decide +kernel
theorem dX9_falls_125 : decode cX9_falls 125 = .ok (.aload_n 0, 1) := by decide +kernel
theorem dX9_falls_126 : decode cX9_falls 126 = .ok (.iconst 1, 1) := by decide +kernel
theorem dX9_falls_127 : decode cX9_falls 127 = .ok (.invokevirtual 79, 3) := by decide +kernel
theorem dX9_falls_130 : decode cX9_falls 130 = .ok (.iload 6, 2) := by decide +kernel
theorem dX9_falls_132 : decode cX9_falls 132 = .ok (.ifCond .eq 15, 3) := by decide +kernel
theorem dX9_falls_135 : decode cX9_falls 135 = .ok (.aload_n 0, 1) := by decide +kernel
theorem dX9_falls_136 : decode cX9_falls 136 = .ok (.iload 5, 2) := by decide +kernel
theorem dX9_falls_138 : decode cX9_falls 138 = .ok (.iconst (-1), 1) := by decide +kernel
theorem dX9_falls_139 : decode cX9_falls 139 = .ok (.invokevirtual 103, 3) := by decide +kernel
theorem dX9_falls_142 : decode cX9_falls 142 = .ok (.aload_n 0, 1) := by decide +kernel
theorem dX9_falls_143 : decode cX9_falls 143 = .ok (.iconst 1, 1) := by decide +kernel
theorem dX9_falls_144 : decode cX9_falls 144 = .ok (.invokevirtual 79, 3) := by decide +kernel
theorem dX9_falls_147 : decode cX9_falls 147 = .ok (.iload 7, 2) := by decide +kernel
theorem dX9_falls_149 : decode cX9_falls 149 = .ok (.iconst (-1), 1) := by decide +kernel
theorem dX9_falls_150 : decode cX9_falls 150 = .ok (.if_icmp .eq 17, 3) := by decide +kernel
theorem dX9_falls_153 : decode cX9_falls 153 = .ok (.aload_n 0, 1) := by decide +kernel
theorem dX9_falls_154 : decode cX9_falls 154 = .ok (.iload 7, 2) := by decide +kernel
theorem dX9_falls_156 : decode cX9_falls 156 = .ok (.iload_n 3, 1) := by decide +kernel
theorem dX9_falls_157 : decode cX9_falls 157 = .ok (.invokevirtual 67, 3) := by decide +kernel
theorem dX9_falls_160 : decode cX9_falls 160 = .ok (.ifCond .eq 7, 3) := by decide +kernel
theorem dX9_falls_163 : decode cX9_falls 163 = .ok (.iconst 1, 1) := by decide +kernel
theorem dX9_falls_164 : decode cX9_falls 164 = .ok (.goto 4, 3) := by decide +kernel
theorem dX9_falls_167 : decode cX9_falls 167 = .ok (.iconst 0, 1) := by decide +kernel
theorem dX9_falls_168 : decode cX9_falls 168 = .ok (.istore 4, 2) := by decide +kernel
theorem dX9_falls_170 : decode cX9_falls 170 = .ok (.iload 7, 2) := by decide +kernel
theorem dX9_falls_172 : decode cX9_falls 172 = .ok (.istore_n 3, 1) := by decide +kernel
theorem dX9_falls_173 : decode cX9_falls 173 = .ok (.goto 14, 3) := by decide +kernel
theorem dX9_falls_176 : decode cX9_falls 176 = .ok (.aload_n 0, 1) := by decide +kernel
theorem dX9_falls_177 : decode cX9_falls 177 = .ok (.iload_n 3, 1) := by decide +kernel
theorem dX9_falls_178 : decode cX9_falls 178 = .ok (.iload 5, 2) := by decide +kernel
theorem dX9_falls_180 : decode cX9_falls 180 = .ok (.iload 4, 2) := by decide +kernel
theorem dX9_falls_182 : decode cX9_falls 182 = .ok (.invokevirtual 124, 3) := by decide +kernel
theorem dX9_falls_185 : decode cX9_falls 185 = .ok (.iconst (-1), 1) := by decide +kernel
theorem dX9_falls_186 : decode cX9_falls 186 = .ok (.istore_n 3, 1) := by decide +kernel
theorem dX9_falls_187 : decode cX9_falls 187 = .ok (.goto (-182), 3) := by decide +kernel
theorem dX9_falls_190 : decode cX9_falls 190 = .ok (.return_, 1) := by decide +kernel
theorem dX9_turnsDown_0 : decode cX9_turnsDown 0 = .ok (.aload_n 0, 1) := by decide +kernel
theorem dX9_turnsDown_1 : decode cX9_turnsDown 1 = .ok (.iload_n 2, 1) := by decide +kernel
theorem dX9_turnsDown_2 : decode cX9_turnsDown 2 = .ok (.iload_n 3, 1) := by decide +kernel
theorem dX9_turnsDown_3 : decode cX9_turnsDown 3 = .ok (.invokevirtual 71, 3) := by decide +kernel
theorem dX9_turnsDown_6 : decode cX9_turnsDown 6 = .ok (.istore 4, 2) := by decide +kernel
theorem dX9_turnsDown_8 : decode cX9_turnsDown 8 = .ok (.aload_n 0, 1) := by decide +kernel
theorem dX9_turnsDown_9 : decode cX9_turnsDown 9 = .ok (.iload_n 2, 1) := by decide +kernel
theorem dX9_turnsDown_10 : decode cX9_turnsDown 10 = .ok (.aload_n 0, 1) := by decide +kernel
theorem dX9_turnsDown_11 : decode cX9_turnsDown 11 = .ok (.iload_n 2, 1) := by decide +kernel
theorem dX9_turnsDown_12 : decode cX9_turnsDown 12 = .ok (.iload_n 3, 1) := by decide +kernel
theorem dX9_turnsDown_13 : decode cX9_turnsDown 13 = .ok (.ifCond .ne 7, 3) := by decide +kernel
theorem dX9_turnsDown_16 : decode cX9_turnsDown 16 = .ok (.iconst 1, 1) := by decide +kernel
theorem dX9_turnsDown_17 : decode cX9_turnsDown 17 = .ok (.goto 4, 3) := by decide +kernel
theorem dX9_turnsDown_20 : decode cX9_turnsDown 20 = .ok (.iconst 0, 1) := by decide +kernel
theorem dX9_turnsDown_21 : decode cX9_turnsDown 21 = .ok (.invokevirtual 71, 3) := by decide +kernel
theorem dX9_turnsDown_24 : decode cX9_turnsDown 24 = .ok (.invokevirtual 100, 3) := by decide +kernel
theorem dX9_turnsDown_27 : decode cX9_turnsDown 27 = .ok (.iconst 1, 1) := by decide +kernel
theorem dX9_turnsDown_28 : decode cX9_turnsDown 28 = .ok (.if_icmp .ne 37, 3) := by decide +kernel
theorem dX9_turnsDown_31 : decode cX9_turnsDown 31 = .ok (.aload_n 0, 1) := by decide +kernel
theorem dX9_turnsDown_32 : decode cX9_turnsDown 32 = .ok (.iload_n 2, 1) := by decide +kernel
theorem dX9_turnsDown_33 : decode cX9_turnsDown 33 = .ok (.invokevirtual 110, 3) := by decide +kernel
theorem dX9_turnsDown_36 : decode cX9_turnsDown 36 = .ok (.aload_n 0, 1) := by decide +kernel
theorem dX9_turnsDown_37 : decode cX9_turnsDown 37 = .ok (.iload_n 2, 1) := by decide +kernel
theorem dX9_turnsDown_38 : decode cX9_turnsDown 38 = .ok (.iconst 1, 1) := by decide +kernel
theorem dX9_turnsDown_39 : decode cX9_turnsDown 39 = .ok (.invokevirtual 103, 3) := by decide +kernel
theorem dX9_turnsDown_42 : decode cX9_turnsDown 42 = .ok (.aload_n 0, 1) := by decide +kernel
theorem dX9_turnsDown_43 : decode cX9_turnsDown 43 = .ok (.iload_n 1, 1) := by decide +kernel
theorem dX9_turnsDown_44 : decode cX9_turnsDown 44 = .ok (.iconst (-1), 1) := by decide +kernel
theorem dX9_turnsDown_45 : decode cX9_turnsDown 45 = .ok (.invokevirtual 103, 3) := by decide +kernel
theorem dX9_turnsDown_48 : decode cX9_turnsDown 48 = .ok (.aload_n 0, 1) := by decide +kernel
theorem dX9_turnsDown_49 : decode cX9_turnsDown 49 = .ok (.iload_n 1, 1) := by decide +kernel
theorem dX9_turnsDown_50 : decode cX9_turnsDown 50 = .ok (.invokevirtual 116, 3) := by decide +kernel
theorem dX9_turnsDown_53 : decode cX9_turnsDown 53 = .ok (.ifCond .eq 44, 3) := by decide +kernel
theorem dX9_turnsDown_56 : decode cX9_turnsDown 56 = .ok (.aload_n 0, 1) := by decide +kernel
theorem dX9_turnsDown_57 : decode cX9_turnsDown 57 = .ok (.iload_n 1, 1) := by decide +kernel
theorem dX9_turnsDown_58 : decode cX9_turnsDown 58 = .ok (.iconst (-1), 1) := by decide +kernel
theorem dX9_turnsDown_59 : decode cX9_turnsDown 59 = .ok (.invokevirtual 103, 3) := by decide +kernel
theorem dX9_turnsDown_62 : decode cX9_turnsDown 62 = .ok (.goto 35, 3) := by decide +kernel
theorem dX9_turnsDown_65 : decode cX9_turnsDown 65 = .ok (.aload_n 0, 1) := by decide +kernel
theorem dX9_turnsDown_66 : decode cX9_turnsDown 66 = .ok (.iload 4, 2) := by decide +kernel
theorem dX9_turnsDown_68 : decode cX9_turnsDown 68 = .ok (.invokevirtual 110, 3) := by decide +kernel
theorem dX9_turnsDown_71 : decode cX9_turnsDown 71 = .ok (.aload_n 0, 1) := by decide +kernel
theorem dX9_turnsDown_72 : decode cX9_turnsDown 72 = .ok (.iload 4, 2) := by decide +kernel
theorem dX9_turnsDown_74 : decode cX9_turnsDown 74 = .ok (.invokevirtual 110, 3) := by decide +kernel
theorem dX9_turnsDown_77 : decode cX9_turnsDown 77 = .ok (.aload_n 0, 1) := by decide +kernel
theorem dX9_turnsDown_78 : decode cX9_turnsDown 78 = .ok (.iload 4, 2) := by decide +kernel
theorem dX9_turnsDown_80 : decode cX9_turnsDown 80 = .ok (.iconst 2, 1) := by decide +kernel
theorem dX9_turnsDown_81 : decode cX9_turnsDown 81 = .ok (.invokevirtual 103, 3) := by decide +kernel
theorem dX9_turnsDown_84 : decode cX9_turnsDown 84 = .ok (.aload_n 0, 1) := by decide +kernel
theorem dX9_turnsDown_85 : decode cX9_turnsDown 85 = .ok (.iload_n 2, 1) := by decide +kernel
theorem dX9_turnsDown_86 : decode cX9_turnsDown 86 = .ok (.iconst (-1), 1) := by decide +kernel
theorem dX9_turnsDown_87 : decode cX9_turnsDown 87 = .ok (.invokevirtual 103, 3) := by decide +kernel
theorem dX9_turnsDown_90 : decode cX9_turnsDown 90 = .ok (.aload_n 0, 1) := by decide +kernel
theorem dX9_turnsDown_91 : decode cX9_turnsDown 91 = .ok (.iload_n 1, 1) := by decide +kernel
theorem dX9_turnsDown_92 : decode cX9_turnsDown 92 = .ok (.bipush (-2), 2) := by decide +kernel
theorem dX9_turnsDown_94 : decode cX9_turnsDown 94 = .ok (.invokevirtual 103, 3) := by decide +kernel
theorem dX9_turnsDown_97 : decode cX9_turnsDown 97 = .ok (.return_, 1) := by decide +kernel
theorem dX9_numbers_0 : decode cX9_numbers 0 = .ok (.iconst 0, 1) := by decide +kernel
theorem dX9_numbers_1 : decode cX9_numbers 1 = .ok (.istore_n 1, 1) := by decide +kernel
theorem dX9_numbers_2 : decode cX9_numbers 2 = .ok (.iconst 0, 1) := by decide +kernel
theorem dX9_numbers_3 : decode cX9_numbers 3 = .ok (.istore_n 2, 1) := by decide +kernel
theorem dX9_numbers_4 : decode cX9_numbers 4 = .ok (.aload_n 0, 1) := by decide +kernel
theorem dX9_numbers_5 : decode cX9_numbers 5 = .ok (.invokevirtual 87, 3) := by decide +kernel
theorem dX9_numbers_8 : decode cX9_numbers 8 = .ok (.iconst (-1), 1) := by decide +kernel
theorem dX9_numbers_9 : decode cX9_numbers 9 = .ok (.if_icmp .eq 25, 3) := by decide +kernel
theorem dX9_numbers_12 : decode cX9_numbers 12 = .ok (.aload_n 0, 1) := by decide +kernel
theorem dX9_numbers_13 : decode cX9_numbers 13 = .ok (.getfield 35, 3) := by decide +kernel
theorem dX9_numbers_16 : decode cX9_numbers 16 = .ok (.iconst 0, 1) := by decide +kernel
theorem dX9_numbers_17 : decode cX9_numbers 17 = .ok (.aload_n 0, 1) := by decide +kernel
theorem dX9_numbers_18 : decode cX9_numbers 18 = .ok (.invokevirtual 87, 3) := by decide +kernel
theorem dX9_numbers_21 : decode cX9_numbers 21 = .ok (.iastore, 1) := by decide +kernel
theorem dX9_numbers_22 : decode cX9_numbers 22 = .ok (.aload_n 0, 1) := by decide +kernel
theorem dX9_numbers_23 : decode cX9_numbers 23 = .ok (.getfield 32, 3) := by decide +kernel
theorem dX9_numbers_26 : decode cX9_numbers 26 = .ok (.aload_n 0, 1) := by decide +kernel
theorem dX9_numbers_27 : decode cX9_numbers 27 = .ok (.invokevirtual 87, 3) := by decide +kernel
theorem dX9_numbers_30 : decode cX9_numbers 30 = .ok (.iconst 0, 1) := by decide +kernel
theorem dX9_numbers_31 : decode cX9_numbers 31 = .ok (.iastore, 1) := by decide +kernel
theorem dX9_numbers_32 : decode cX9_numbers 32 = .ok (.iconst 1, 1) := by decide +kernel
theorem dX9_numbers_33 : decode cX9_numbers 33 = .ok (.istore_n 2, 1) := by decide +kernel
theorem dX9_numbers_34 : decode cX9_numbers 34 = .ok (.iload_n 2, 1) := by decide +kernel
theorem dX9_numbers_35 : decode cX9_numbers 35 = .ok (.ifCond .le 98, 3) := by decide +kernel
theorem dX9_numbers_38 : decode cX9_numbers 38 = .ok (.iinc 2 (-1), 3) := by decide +kernel
theorem dX9_numbers_41 : decode cX9_numbers 41 = .ok (.aload_n 0, 1) := by decide +kernel
theorem dX9_numbers_42 : decode cX9_numbers 42 = .ok (.getfield 35, 3) := by decide +kernel
theorem dX9_numbers_45 : decode cX9_numbers 45 = .ok (.iload_n 2, 1) := by decide +kernel
theorem dX9_numbers_46 : decode cX9_numbers 46 = .ok (.iaload, 1) := by decide +kernel
theorem dX9_numbers_47 : decode cX9_numbers 47 = .ok (.istore_n 3, 1) := by decide +kernel
theorem dX9_numbers_48 : decode cX9_numbers 48 = .ok (.aload_n 0, 1) := by decide +kernel
theorem dX9_numbers_49 : decode cX9_numbers 49 = .ok (.getfield 26, 3) := by decide +kernel
theorem dX9_numbers_52 : decode cX9_numbers 52 = .ok (.iload_n 1, 1) := by decide +kernel
theorem dX9_numbers_53 : decode cX9_numbers 53 = .ok (.iload_n 3, 1) := by decide +kernel
theorem dX9_numbers_54 : decode cX9_numbers 54 = .ok (.iastore, 1) := by decide +kernel
theorem dX9_numbers_55 : decode cX9_numbers 55 = .ok (.aload_n 0, 1) := by decide +kernel
theorem dX9_numbers_56 : decode cX9_numbers 56 = .ok (.getfield 29, 3) := by decide +kernel
theorem dX9_numbers_59 : decode cX9_numbers 59 = .ok (.iload_n 3, 1) := by decide +kernel
theorem dX9_numbers_60 : decode cX9_numbers 60 = .ok (.iload_n 1, 1) := by decide +kernel
theorem dX9_numbers_61 : decode cX9_numbers 61 = .ok (.iastore, 1) := by decide +kernel
theorem dX9_numbers_62 : decode cX9_numbers 62 = .ok (.iinc 1 1, 3) := by decide +kernel
theorem dX9_numbers_65 : decode cX9_numbers 65 = .ok (.iconst 0, 1) := by decide +kernel
theorem dX9_numbers_66 : decode cX9_numbers 66 = .ok (.istore 4, 2) := by decide +kernel
theorem dX9_numbers_68 : decode cX9_numbers 68 = .ok (.iload 4, 2) := by decide +kernel
theorem dX9_numbers_70 : decode cX9_numbers 70 = .ok (.iconst 2, 1) := by decide +kernel
theorem dX9_numbers_71 : decode cX9_numbers 71 = .ok (.if_icmp .ge 59, 3) := by decide +kernel
theorem dX9_numbers_74 : decode cX9_numbers 74 = .ok (.aload_n 0, 1) := by decide +kernel
theorem dX9_numbers_75 : decode cX9_numbers 75 = .ok (.iload_n 3, 1) := by decide +kernel
theorem dX9_numbers_76 : decode cX9_numbers 76 = .ok (.iload 4, 2) := by decide +kernel
theorem dX9_numbers_78 : decode cX9_numbers 78 = .ok (.iconst 1, 1) := by decide +kernel
theorem dX9_numbers_79 : decode cX9_numbers 79 = .ok (.if_icmp .ne 7, 3) := by decide +kernel
theorem dX9_numbers_82 : decode cX9_numbers 82 = .ok (.iconst 1, 1) := by decide +kernel
theorem dX9_numbers_83 : decode cX9_numbers 83 = .ok (.goto 4, 3) := by decide +kernel
theorem dX9_numbers_86 : decode cX9_numbers 86 = .ok (.iconst 0, 1) := by decide +kernel
theorem dX9_numbers_87 : decode cX9_numbers 87 = .ok (.invokevirtual 71, 3) := by decide +kernel
theorem dX9_numbers_90 : decode cX9_numbers 90 = .ok (.istore 5, 2) := by decide +kernel
theorem dX9_numbers_92 : decode cX9_numbers 92 = .ok (.iload 5, 2) := by decide +kernel
theorem dX9_numbers_94 : decode cX9_numbers 94 = .ok (.iconst (-1), 1) := by decide +kernel
theorem dX9_numbers_95 : decode cX9_numbers 95 = .ok (.if_icmp .eq 29, 3) := by decide +kernel
theorem dX9_numbers_98 : decode cX9_numbers 98 = .ok (.aload_n 0, 1) := by decide +kernel
theorem dX9_numbers_99 : decode cX9_numbers 99 = .ok (.getfield 35, 3) := by decide +kernel
theorem dX9_numbers_102 : decode cX9_numbers 102 = .ok (.iload_n 2, 1) := by decide +kernel
theorem dX9_numbers_103 : decode cX9_numbers 103 = .ok (.iload 5, 2) := by decide +kernel
theorem dX9_numbers_105 : decode cX9_numbers 105 = .ok (.iastore, 1) := by decide +kernel
theorem dX9_numbers_106 : decode cX9_numbers 106 = .ok (.aload_n 0, 1) := by decide +kernel
theorem dX9_numbers_107 : decode cX9_numbers 107 = .ok (.getfield 32, 3) := by decide +kernel
theorem dX9_numbers_110 : decode cX9_numbers 110 = .ok (.iload 5, 2) := by decide +kernel
theorem dX9_numbers_112 : decode cX9_numbers 112 = .ok (.aload_n 0, 1) := by decide +kernel
theorem dX9_numbers_113 : decode cX9_numbers 113 = .ok (.getfield 32, 3) := by decide +kernel
theorem dX9_numbers_116 : decode cX9_numbers 116 = .ok (.iload_n 3, 1) := by decide +kernel
theorem dX9_numbers_117 : decode cX9_numbers 117 = .ok (.iaload, 1) := by decide +kernel
theorem dX9_numbers_118 : decode cX9_numbers 118 = .ok (.iconst 1, 1) := by decide +kernel
theorem dX9_numbers_119 : decode cX9_numbers 119 = .ok (.iadd, 1) := by decide +kernel
theorem dX9_numbers_120 : decode cX9_numbers 120 = .ok (.iastore, 1) := by decide +kernel
theorem dX9_numbers_121 : decode cX9_numbers 121 = .ok (.iinc 2 1, 3) := by decide +kernel
theorem dX9_numbers_124 : decode cX9_numbers 124 = .ok (.iinc 4 1, 3) := by decide +kernel
theorem dX9_numbers_127 : decode cX9_numbers 127 = .ok (.goto (-59), 3) := by decide +kernel
theorem dX9_numbers_130 : decode cX9_numbers 130 = .ok (.goto (-96), 3) := by decide +kernel
theorem dX9_numbers_133 : decode cX9_numbers 133 = .ok (.return_, 1) := by decide +kernel
theorem dX9_sizeOf_0 : decode cX9_sizeOf 0 = .ok (.iconst 0, 1) := by decide +kernel
theorem dX9_sizeOf_1 : decode cX9_sizeOf 1 = .ok (.istore_n 2, 1) := by decide +kernel
theorem dX9_sizeOf_2 : decode cX9_sizeOf 2 = .ok (.aload_n 0, 1) := by decide +kernel
theorem dX9_sizeOf_3 : decode cX9_sizeOf 3 = .ok (.getfield 29, 3) := by decide +kernel
theorem dX9_sizeOf_6 : decode cX9_sizeOf 6 = .ok (.iload_n 1, 1) := by decide +kernel
theorem dX9_sizeOf_7 : decode cX9_sizeOf 7 = .ok (.iaload, 1) := by decide +kernel
theorem dX9_sizeOf_8 : decode cX9_sizeOf 8 = .ok (.istore_n 3, 1) := by decide +kernel
theorem dX9_sizeOf_9 : decode cX9_sizeOf 9 = .ok (.iload_n 3, 1) := by decide +kernel
theorem dX9_sizeOf_10 : decode cX9_sizeOf 10 = .ok (.iload_n 2, 1) := by decide +kernel
theorem dX9_sizeOf_11 : decode cX9_sizeOf 11 = .ok (.iadd, 1) := by decide +kernel
theorem dX9_sizeOf_12 : decode cX9_sizeOf 12 = .ok (.aload_n 0, 1) := by decide +kernel
theorem dX9_sizeOf_13 : decode cX9_sizeOf 13 = .ok (.invokevirtual 128, 3) := by decide +kernel
theorem dX9_sizeOf_16 : decode cX9_sizeOf 16 = .ok (.if_icmp .ge 35, 3) := by decide +kernel
theorem dX9_sizeOf_19 : decode cX9_sizeOf 19 = .ok (.iload_n 2, 1) := by decide +kernel
theorem dX9_sizeOf_20 : decode cX9_sizeOf 20 = .ok (.ifCond .eq 25, 3) := by decide +kernel
theorem dX9_sizeOf_23 : decode cX9_sizeOf 23 = .ok (.aload_n 0, 1) := by decide +kernel
theorem dX9_sizeOf_24 : decode cX9_sizeOf 24 = .ok (.getfield 32, 3) := by decide +kernel
theorem dX9_sizeOf_27 : decode cX9_sizeOf 27 = .ok (.aload_n 0, 1) := by decide +kernel
theorem dX9_sizeOf_28 : decode cX9_sizeOf 28 = .ok (.getfield 26, 3) := by decide +kernel
theorem dX9_sizeOf_31 : decode cX9_sizeOf 31 = .ok (.iload_n 3, 1) := by decide +kernel
theorem dX9_sizeOf_32 : decode cX9_sizeOf 32 = .ok (.iload_n 2, 1) := by decide +kernel
theorem dX9_sizeOf_33 : decode cX9_sizeOf 33 = .ok (.iadd, 1) := by decide +kernel
theorem dX9_sizeOf_34 : decode cX9_sizeOf 34 = .ok (.iaload, 1) := by decide +kernel
theorem dX9_sizeOf_35 : decode cX9_sizeOf 35 = .ok (.iaload, 1) := by decide +kernel
theorem dX9_sizeOf_36 : decode cX9_sizeOf 36 = .ok (.aload_n 0, 1) := by decide +kernel
theorem dX9_sizeOf_37 : decode cX9_sizeOf 37 = .ok (.getfield 32, 3) := by decide +kernel
theorem dX9_sizeOf_40 : decode cX9_sizeOf 40 = .ok (.iload_n 1, 1) := by decide +kernel
theorem dX9_sizeOf_41 : decode cX9_sizeOf 41 = .ok (.iaload, 1) := by decide +kernel
theorem dX9_sizeOf_42 : decode cX9_sizeOf 42 = .ok (.if_icmp .le 9, 3) := by decide +kernel
theorem dX9_sizeOf_45 : decode cX9_sizeOf 45 = .ok (.iinc 2 1, 3) := by decide +kernel
theorem dX9_sizeOf_48 : decode cX9_sizeOf 48 = .ok (.goto (-39), 3) := by decide +kernel
theorem dX9_sizeOf_51 : decode cX9_sizeOf 51 = .ok (.iload_n 2, 1) := by decide +kernel
theorem dX9_sizeOf_52 : decode cX9_sizeOf 52 = .ok (.ireturn, 1) := by decide +kernel
theorem dX9_depth_0 : decode cX9_depth 0 = .ok (.iconst 0, 1) := by decide +kernel
theorem dX9_depth_1 : decode cX9_depth 1 = .ok (.istore_n 1, 1) := by decide +kernel
theorem dX9_depth_2 : decode cX9_depth 2 = .ok (.aload_n 0, 1) := by decide +kernel
theorem dX9_depth_3 : decode cX9_depth 3 = .ok (.invokevirtual 131, 3) := by decide +kernel
theorem dX9_depth_6 : decode cX9_depth 6 = .ok (.iconst 0, 1) := by decide +kernel
theorem dX9_depth_7 : decode cX9_depth 7 = .ok (.istore_n 2, 1) := by decide +kernel
theorem dX9_depth_8 : decode cX9_depth 8 = .ok (.iload_n 2, 1) := by decide +kernel
theorem dX9_depth_9 : decode cX9_depth 9 = .ok (.aload_n 0, 1) := by decide +kernel
theorem dX9_depth_10 : decode cX9_depth 10 = .ok (.invokevirtual 128, 3) := by decide +kernel
theorem dX9_depth_13 : decode cX9_depth 13 = .ok (.if_icmp .ge 44, 3) := by decide +kernel
theorem dX9_depth_16 : decode cX9_depth 16 = .ok (.aload_n 0, 1) := by decide +kernel
theorem dX9_depth_17 : decode cX9_depth 17 = .ok (.getfield 32, 3) := by decide +kernel
theorem dX9_depth_20 : decode cX9_depth 20 = .ok (.aload_n 0, 1) := by decide +kernel
theorem dX9_depth_21 : decode cX9_depth 21 = .ok (.getfield 26, 3) := by decide +kernel
theorem dX9_depth_24 : decode cX9_depth 24 = .ok (.iload_n 2, 1) := by decide +kernel
theorem dX9_depth_25 : decode cX9_depth 25 = .ok (.iaload, 1) := by decide +kernel
theorem dX9_depth_26 : decode cX9_depth 26 = .ok (.iaload, 1) := by decide +kernel
theorem dX9_depth_27 : decode cX9_depth 27 = .ok (.iconst 1, 1) := by decide +kernel
theorem dX9_depth_28 : decode cX9_depth 28 = .ok (.iadd, 1) := by decide +kernel
theorem dX9_depth_29 : decode cX9_depth 29 = .ok (.iload_n 1, 1) := by decide +kernel
theorem dX9_depth_30 : decode cX9_depth 30 = .ok (.if_icmp .le 19, 3) := by decide +kernel
theorem dX9_depth_33 : decode cX9_depth 33 = .ok (.aload_n 0, 1) := by decide +kernel
theorem dX9_depth_34 : decode cX9_depth 34 = .ok (.getfield 32, 3) := by decide +kernel
theorem dX9_depth_37 : decode cX9_depth 37 = .ok (.aload_n 0, 1) := by decide +kernel
theorem dX9_depth_38 : decode cX9_depth 38 = .ok (.getfield 26, 3) := by decide +kernel
theorem dX9_depth_41 : decode cX9_depth 41 = .ok (.iload_n 2, 1) := by decide +kernel
theorem dX9_depth_42 : decode cX9_depth 42 = .ok (.iaload, 1) := by decide +kernel
theorem dX9_depth_43 : decode cX9_depth 43 = .ok (.iaload, 1) := by decide +kernel
theorem dX9_depth_44 : decode cX9_depth 44 = .ok (.iconst 1, 1) := by decide +kernel
theorem dX9_depth_45 : decode cX9_depth 45 = .ok (.iadd, 1) := by decide +kernel
theorem dX9_depth_46 : decode cX9_depth 46 = .ok (.goto 4, 3) := by decide +kernel
theorem dX9_depth_49 : decode cX9_depth 49 = .ok (.iload_n 1, 1) := by decide +kernel
theorem dX9_depth_50 : decode cX9_depth 50 = .ok (.istore_n 1, 1) := by decide +kernel
theorem dX9_depth_51 : decode cX9_depth 51 = .ok (.iinc 2 1, 3) := by decide +kernel
theorem dX9_depth_54 : decode cX9_depth 54 = .ok (.goto (-46), 3) := by decide +kernel
theorem dX9_depth_57 : decode cX9_depth 57 = .ok (.iload_n 1, 1) := by decide +kernel
theorem dX9_depth_58 : decode cX9_depth 58 = .ok (.ireturn, 1) := by decide +kernel
theorem dX9_lessThan_0 : decode cX9_lessThan 0 = .ok (.iconst 0, 1) := by decide +kernel
theorem dX9_lessThan_1 : decode cX9_lessThan 1 = .ok (.istore_n 2, 1) := by decide +kernel
theorem dX9_lessThan_2 : decode cX9_lessThan 2 = .ok (.iconst 0, 1) := by decide +kernel
theorem dX9_lessThan_3 : decode cX9_lessThan 3 = .ok (.istore_n 3, 1) := by decide +kernel
theorem dX9_lessThan_4 : decode cX9_lessThan 4 = .ok (.iload_n 3, 1) := by decide +kernel
theorem dX9_lessThan_5 : decode cX9_lessThan 5 = .ok (.bipush 60, 2) := by decide +kernel
theorem dX9_lessThan_7 : decode cX9_lessThan 7 = .ok (.if_icmp .ge 37, 3) := by decide +kernel
theorem dX9_lessThan_10 : decode cX9_lessThan 10 = .ok (.iload_n 2, 1) := by decide +kernel
theorem dX9_lessThan_11 : decode cX9_lessThan 11 = .ok (.aload_n 0, 1) := by decide +kernel
theorem dX9_lessThan_12 : decode cX9_lessThan 12 = .ok (.iload_n 3, 1) := by decide +kernel
theorem dX9_lessThan_13 : decode cX9_lessThan 13 = .ok (.iconst 0, 1) := by decide +kernel
theorem dX9_lessThan_14 : decode cX9_lessThan 14 = .ok (.invokevirtual 63, 3) := by decide +kernel
theorem dX9_lessThan_17 : decode cX9_lessThan 17 = .ok (.iconst (-1), 1) := by decide +kernel
theorem dX9_lessThan_18 : decode cX9_lessThan 18 = .ok (.if_icmp .eq 17, 3) := by decide +kernel
theorem dX9_lessThan_21 : decode cX9_lessThan 21 = .ok (.aload_n 0, 1) := by decide +kernel
theorem dX9_lessThan_22 : decode cX9_lessThan 22 = .ok (.iload_n 3, 1) := by decide +kernel
theorem dX9_lessThan_23 : decode cX9_lessThan 23 = .ok (.iconst 0, 1) := by decide +kernel
theorem dX9_lessThan_24 : decode cX9_lessThan 24 = .ok (.invokevirtual 63, 3) := by decide +kernel
theorem dX9_lessThan_27 : decode cX9_lessThan 27 = .ok (.iload_n 1, 1) := by decide +kernel
theorem dX9_lessThan_28 : decode cX9_lessThan 28 = .ok (.if_icmp .ge 7, 3) := by decide +kernel
theorem dX9_lessThan_31 : decode cX9_lessThan 31 = .ok (.iconst 1, 1) := by decide +kernel
theorem dX9_lessThan_32 : decode cX9_lessThan 32 = .ok (.goto 4, 3) := by decide +kernel
theorem dX9_lessThan_35 : decode cX9_lessThan 35 = .ok (.iconst 0, 1) := by decide +kernel
theorem dX9_lessThan_36 : decode cX9_lessThan 36 = .ok (.iadd, 1) := by decide +kernel
theorem dX9_lessThan_37 : decode cX9_lessThan 37 = .ok (.istore_n 2, 1) := by decide +kernel
theorem dX9_lessThan_38 : decode cX9_lessThan 38 = .ok (.iinc 3 1, 3) := by decide +kernel
theorem dX9_lessThan_41 : decode cX9_lessThan 41 = .ok (.goto (-37), 3) := by decide +kernel
theorem dX9_lessThan_44 : decode cX9_lessThan 44 = .ok (.iload_n 2, 1) := by decide +kernel
theorem dX9_lessThan_45 : decode cX9_lessThan 45 = .ok (.ireturn, 1) := by decide +kernel
theorem dX9_besideOf_0 : decode cX9_besideOf 0 = .ok (.iconst (-1), 1) := by decide +kernel
theorem dX9_besideOf_1 : decode cX9_besideOf 1 = .ok (.istore_n 3, 1) := by decide +kernel
theorem dX9_besideOf_2 : decode cX9_besideOf 2 = .ok (.iconst 0, 1) := by decide +kernel
theorem dX9_besideOf_3 : decode cX9_besideOf 3 = .ok (.istore 4, 2) := by decide +kernel
theorem dX9_besideOf_5 : decode cX9_besideOf 5 = .ok (.iload 4, 2) := by decide +kernel
theorem dX9_besideOf_7 : decode cX9_besideOf 7 = .ok (.bipush 60, 2) := by decide +kernel
theorem dX9_besideOf_9 : decode cX9_besideOf 9 = .ok (.if_icmp .ge 98, 3) := by decide +kernel
theorem dX9_besideOf_12 : decode cX9_besideOf 12 = .ok (.aload_n 0, 1) := by decide +kernel
theorem dX9_besideOf_13 : decode cX9_besideOf 13 = .ok (.iload 4, 2) := by decide +kernel
theorem dX9_besideOf_15 : decode cX9_besideOf 15 = .ok (.iconst 0, 1) := by decide +kernel
theorem dX9_besideOf_16 : decode cX9_besideOf 16 = .ok (.invokevirtual 63, 3) := by decide +kernel
theorem dX9_besideOf_19 : decode cX9_besideOf 19 = .ok (.istore 5, 2) := by decide +kernel
theorem dX9_besideOf_21 : decode cX9_besideOf 21 = .ok (.iload 5, 2) := by decide +kernel
theorem dX9_besideOf_23 : decode cX9_besideOf 23 = .ok (.iconst (-1), 1) := by decide +kernel
theorem dX9_besideOf_24 : decode cX9_besideOf 24 = .ok (.if_icmp .eq 26, 3) := by decide +kernel
theorem dX9_besideOf_27 : decode cX9_besideOf 27 = .ok (.iload_n 2, 1) := by decide +kernel
theorem dX9_besideOf_28 : decode cX9_besideOf 28 = .ok (.ifCond .eq 12, 3) := by decide +kernel
theorem dX9_besideOf_31 : decode cX9_besideOf 31 = .ok (.iload 5, 2) := by decide +kernel
theorem dX9_besideOf_33 : decode cX9_besideOf 33 = .ok (.iload_n 1, 1) := by decide +kernel
theorem dX9_besideOf_34 : decode cX9_besideOf 34 = .ok (.if_icmp .ge 16, 3) := by decide +kernel
theorem dX9_besideOf_37 : decode cX9_besideOf 37 = .ok (.goto 9, 3) := by decide +kernel
theorem dX9_besideOf_40 : decode cX9_besideOf 40 = .ok (.iload 5, 2) := by decide +kernel
theorem dX9_besideOf_42 : decode cX9_besideOf 42 = .ok (.iload_n 1, 1) := by decide +kernel
theorem dX9_besideOf_43 : decode cX9_besideOf 43 = .ok (.if_icmp .le 7, 3) := by decide +kernel
theorem dX9_besideOf_46 : decode cX9_besideOf 46 = .ok (.iconst 1, 1) := by decide +kernel
theorem dX9_besideOf_47 : decode cX9_besideOf 47 = .ok (.goto 4, 3) := by decide +kernel
theorem dX9_besideOf_50 : decode cX9_besideOf 50 = .ok (.iconst 0, 1) := by decide +kernel
theorem dX9_besideOf_51 : decode cX9_besideOf 51 = .ok (.istore 6, 2) := by decide +kernel
theorem dX9_besideOf_53 : decode cX9_besideOf 53 = .ok (.iload 6, 2) := by decide +kernel
theorem dX9_besideOf_55 : decode cX9_besideOf 55 = .ok (.ifCond .eq 31, 3) := by decide +kernel
theorem dX9_besideOf_58 : decode cX9_besideOf 58 = .ok (.iload_n 3, 1) := by decide +kernel
theorem dX9_besideOf_59 : decode cX9_besideOf 59 = .ok (.iconst (-1), 1) := by decide +kernel
theorem dX9_besideOf_60 : decode cX9_besideOf 60 = .ok (.if_icmp .eq 22, 3) := by decide +kernel
theorem dX9_besideOf_63 : decode cX9_besideOf 63 = .ok (.iload_n 2, 1) := by decide +kernel
theorem dX9_besideOf_64 : decode cX9_besideOf 64 = .ok (.ifCond .eq 12, 3) := by decide +kernel
theorem dX9_besideOf_67 : decode cX9_besideOf 67 = .ok (.iload 5, 2) := by decide +kernel
theorem dX9_besideOf_69 : decode cX9_besideOf 69 = .ok (.iload_n 3, 1) := by decide +kernel
theorem dX9_besideOf_70 : decode cX9_besideOf 70 = .ok (.if_icmp .le 16, 3) := by decide +kernel
theorem dX9_besideOf_73 : decode cX9_besideOf 73 = .ok (.goto 9, 3) := by decide +kernel
theorem dX9_besideOf_76 : decode cX9_besideOf 76 = .ok (.iload 5, 2) := by decide +kernel
theorem dX9_besideOf_78 : decode cX9_besideOf 78 = .ok (.iload_n 3, 1) := by decide +kernel
theorem dX9_besideOf_79 : decode cX9_besideOf 79 = .ok (.if_icmp .ge 7, 3) := by decide +kernel
theorem dX9_besideOf_82 : decode cX9_besideOf 82 = .ok (.iconst 1, 1) := by decide +kernel
theorem dX9_besideOf_83 : decode cX9_besideOf 83 = .ok (.goto 4, 3) := by decide +kernel
theorem dX9_besideOf_86 : decode cX9_besideOf 86 = .ok (.iconst 0, 1) := by decide +kernel
theorem dX9_besideOf_87 : decode cX9_besideOf 87 = .ok (.istore 7, 2) := by decide +kernel
theorem dX9_besideOf_89 : decode cX9_besideOf 89 = .ok (.iload 7, 2) := by decide +kernel
theorem dX9_besideOf_91 : decode cX9_besideOf 91 = .ok (.ifCond .eq 8, 3) := by decide +kernel
theorem dX9_besideOf_94 : decode cX9_besideOf 94 = .ok (.iload 5, 2) := by decide +kernel
theorem dX9_besideOf_96 : decode cX9_besideOf 96 = .ok (.goto 4, 3) := by decide +kernel
theorem dX9_besideOf_99 : decode cX9_besideOf 99 = .ok (.iload_n 3, 1) := by decide +kernel
theorem dX9_besideOf_100 : decode cX9_besideOf 100 = .ok (.istore_n 3, 1) := by decide +kernel
theorem dX9_besideOf_101 : decode cX9_besideOf 101 = .ok (.iinc 4 1, 3) := by decide +kernel
theorem dX9_besideOf_104 : decode cX9_besideOf 104 = .ok (.goto (-99), 3) := by decide +kernel
theorem dX9_besideOf_107 : decode cX9_besideOf 107 = .ok (.iload_n 3, 1) := by decide +kernel
theorem dX9_besideOf_108 : decode cX9_besideOf 108 = .ok (.ireturn, 1) := by decide +kernel
theorem dX9_sumOf_0 : decode cX9_sumOf 0 = .ok (.iconst 0, 1) := by decide +kernel
theorem dX9_sumOf_1 : decode cX9_sumOf 1 = .ok (.istore_n 2, 1) := by decide +kernel
theorem dX9_sumOf_2 : decode cX9_sumOf 2 = .ok (.iconst 0, 1) := by decide +kernel
theorem dX9_sumOf_3 : decode cX9_sumOf 3 = .ok (.istore_n 3, 1) := by decide +kernel
theorem dX9_sumOf_4 : decode cX9_sumOf 4 = .ok (.iload_n 3, 1) := by decide +kernel
theorem dX9_sumOf_5 : decode cX9_sumOf 5 = .ok (.bipush 60, 2) := by decide +kernel
theorem dX9_sumOf_7 : decode cX9_sumOf 7 = .ok (.if_icmp .ge 32, 3) := by decide +kernel
theorem dX9_sumOf_10 : decode cX9_sumOf 10 = .ok (.iload_n 2, 1) := by decide +kernel
theorem dX9_sumOf_11 : decode cX9_sumOf 11 = .ok (.aload_n 0, 1) := by decide +kernel
theorem dX9_sumOf_12 : decode cX9_sumOf 12 = .ok (.iload_n 3, 1) := by decide +kernel
theorem dX9_sumOf_13 : decode cX9_sumOf 13 = .ok (.iconst 0, 1) := by decide +kernel
theorem dX9_sumOf_14 : decode cX9_sumOf 14 = .ok (.invokevirtual 63, 3) := by decide +kernel
theorem dX9_sumOf_17 : decode cX9_sumOf 17 = .ok (.iconst (-1), 1) := by decide +kernel
theorem dX9_sumOf_18 : decode cX9_sumOf 18 = .ok (.if_icmp .ne 7, 3) := by decide +kernel
theorem dX9_sumOf_21 : decode cX9_sumOf 21 = .ok (.iconst 0, 1) := by decide +kernel
theorem dX9_sumOf_22 : decode cX9_sumOf 22 = .ok (.goto 9, 3) := by decide +kernel
theorem dX9_sumOf_25 : decode cX9_sumOf 25 = .ok (.aload_n 0, 1) := by decide +kernel
theorem dX9_sumOf_26 : decode cX9_sumOf 26 = .ok (.iload_n 3, 1) := by decide +kernel
theorem dX9_sumOf_27 : decode cX9_sumOf 27 = .ok (.iload_n 1, 1) := by decide +kernel
theorem dX9_sumOf_28 : decode cX9_sumOf 28 = .ok (.invokevirtual 63, 3) := by decide +kernel
theorem dX9_sumOf_31 : decode cX9_sumOf 31 = .ok (.iadd, 1) := by decide +kernel
theorem dX9_sumOf_32 : decode cX9_sumOf 32 = .ok (.istore_n 2, 1) := by decide +kernel
theorem dX9_sumOf_33 : decode cX9_sumOf 33 = .ok (.iinc 3 1, 3) := by decide +kernel
theorem dX9_sumOf_36 : decode cX9_sumOf 36 = .ok (.goto (-32), 3) := by decide +kernel
theorem dX9_sumOf_39 : decode cX9_sumOf 39 = .ok (.iload_n 2, 1) := by decide +kernel
theorem dX9_sumOf_40 : decode cX9_sumOf 40 = .ok (.ireturn, 1) := by decide +kernel
theorem dX9_twos_0 : decode cX9_twos 0 = .ok (.iconst 0, 1) := by decide +kernel
theorem dX9_twos_1 : decode cX9_twos 1 = .ok (.istore_n 1, 1) := by decide +kernel
theorem dX9_twos_2 : decode cX9_twos 2 = .ok (.iconst 0, 1) := by decide +kernel
theorem dX9_twos_3 : decode cX9_twos 3 = .ok (.istore_n 2, 1) := by decide +kernel
theorem dX9_twos_4 : decode cX9_twos 4 = .ok (.iload_n 2, 1) := by decide +kernel
theorem dX9_twos_5 : decode cX9_twos 5 = .ok (.bipush 60, 2) := by decide +kernel
theorem dX9_twos_7 : decode cX9_twos 7 = .ok (.if_icmp .ge 60, 3) := by decide +kernel
theorem dX9_twos_10 : decode cX9_twos 10 = .ok (.aload_n 0, 1) := by decide +kernel
theorem dX9_twos_11 : decode cX9_twos 11 = .ok (.iload_n 2, 1) := by decide +kernel
theorem dX9_twos_12 : decode cX9_twos 12 = .ok (.iconst 0, 1) := by decide +kernel
theorem dX9_twos_13 : decode cX9_twos 13 = .ok (.invokevirtual 63, 3) := by decide +kernel
theorem dX9_twos_16 : decode cX9_twos 16 = .ok (.iconst (-1), 1) := by decide +kernel
theorem dX9_twos_17 : decode cX9_twos 17 = .ok (.if_icmp .eq 15, 3) := by decide +kernel
theorem dX9_twos_20 : decode cX9_twos 20 = .ok (.iload_n 2, 1) := by decide +kernel
theorem dX9_twos_21 : decode cX9_twos 21 = .ok (.aload_n 0, 1) := by decide +kernel
theorem dX9_twos_22 : decode cX9_twos 22 = .ok (.invokevirtual 87, 3) := by decide +kernel
theorem dX9_twos_25 : decode cX9_twos 25 = .ok (.if_icmp .eq 7, 3) := by decide +kernel
theorem dX9_twos_28 : decode cX9_twos 28 = .ok (.iconst 1, 1) := by decide +kernel
theorem dX9_twos_29 : decode cX9_twos 29 = .ok (.goto 4, 3) := by decide +kernel
theorem dX9_twos_32 : decode cX9_twos 32 = .ok (.iconst 0, 1) := by decide +kernel
theorem dX9_twos_33 : decode cX9_twos 33 = .ok (.istore_n 3, 1) := by decide +kernel
theorem dX9_twos_34 : decode cX9_twos 34 = .ok (.iload_n 1, 1) := by decide +kernel
theorem dX9_twos_35 : decode cX9_twos 35 = .ok (.iload_n 3, 1) := by decide +kernel
theorem dX9_twos_36 : decode cX9_twos 36 = .ok (.ifCond .eq 22, 3) := by decide +kernel
theorem dX9_twos_39 : decode cX9_twos 39 = .ok (.aload_n 0, 1) := by decide +kernel
theorem dX9_twos_40 : decode cX9_twos 40 = .ok (.aload_n 0, 1) := by decide +kernel
theorem dX9_twos_41 : decode cX9_twos 41 = .ok (.iload_n 2, 1) := by decide +kernel
theorem dX9_twos_42 : decode cX9_twos 42 = .ok (.iconst 5, 1) := by decide +kernel
theorem dX9_twos_43 : decode cX9_twos 43 = .ok (.invokevirtual 63, 3) := by decide +kernel
theorem dX9_twos_46 : decode cX9_twos 46 = .ok (.iload_n 2, 1) := by decide +kernel
theorem dX9_twos_47 : decode cX9_twos 47 = .ok (.invokevirtual 100, 3) := by decide +kernel
theorem dX9_twos_50 : decode cX9_twos 50 = .ok (.iconst 2, 1) := by decide +kernel
theorem dX9_twos_51 : decode cX9_twos 51 = .ok (.if_icmp .ne 7, 3) := by decide +kernel
theorem dX9_twos_54 : decode cX9_twos 54 = .ok (.iconst 1, 1) := by decide +kernel
theorem dX9_twos_55 : decode cX9_twos 55 = .ok (.goto 4, 3) := by decide +kernel
theorem dX9_twos_58 : decode cX9_twos 58 = .ok (.iconst 0, 1) := by decide +kernel
theorem dX9_twos_59 : decode cX9_twos 59 = .ok (.iadd, 1) := by decide +kernel
theorem dX9_twos_60 : decode cX9_twos 60 = .ok (.istore_n 1, 1) := by decide +kernel
theorem dX9_twos_61 : decode cX9_twos 61 = .ok (.iinc 2 1, 3) := by decide +kernel
theorem dX9_twos_64 : decode cX9_twos 64 = .ok (.goto (-60), 3) := by decide +kernel
theorem dX9_twos_67 : decode cX9_twos 67 = .ok (.iload_n 1, 1) := by decide +kernel
theorem dX9_twos_68 : decode cX9_twos 68 = .ok (.ireturn, 1) := by decide +kernel
theorem dX9_costs_0 : decode cX9_costs 0 = .ok (.iconst 0, 1) := by decide +kernel
theorem dX9_costs_1 : decode cX9_costs 1 = .ok (.istore_n 2, 1) := by decide +kernel
theorem dX9_costs_2 : decode cX9_costs 2 = .ok (.iload_n 2, 1) := by decide +kernel
theorem dX9_costs_3 : decode cX9_costs 3 = .ok (.sipush 368, 3) := by decide +kernel
theorem dX9_costs_6 : decode cX9_costs 6 = .ok (.if_icmp .ge 21, 3) := by decide +kernel
theorem dX9_costs_9 : decode cX9_costs 9 = .ok (.aload_n 0, 1) := by decide +kernel
theorem dX9_costs_10 : decode cX9_costs 10 = .ok (.getfield 38, 3) := by decide +kernel
theorem dX9_costs_13 : decode cX9_costs 13 = .ok (.iload_n 2, 1) := by decide +kernel
theorem dX9_costs_14 : decode cX9_costs 14 = .ok (.aload_n 0, 1) := by decide +kernel
theorem dX9_costs_15 : decode cX9_costs 15 = .ok (.getfield 7, 3) := by decide +kernel
theorem dX9_costs_18 : decode cX9_costs 18 = .ok (.iload_n 2, 1) := by decide +kernel
theorem dX9_costs_19 : decode cX9_costs 19 = .ok (.iaload, 1) := by decide +kernel
theorem dX9_costs_20 : decode cX9_costs 20 = .ok (.iastore, 1) := by decide +kernel
theorem dX9_costs_21 : decode cX9_costs 21 = .ok (.iinc 2 1, 3) := by decide +kernel
theorem dX9_costs_24 : decode cX9_costs 24 = .ok (.goto (-22), 3) := by decide +kernel
theorem dX9_costs_27 : decode cX9_costs 27 = .ok (.aload_n 0, 1) := by decide +kernel
theorem dX9_costs_28 : decode cX9_costs 28 = .ok (.aload_n 0, 1) := by decide +kernel
theorem dX9_costs_29 : decode cX9_costs 29 = .ok (.iload_n 1, 1) := by decide +kernel
theorem dX9_costs_30 : decode cX9_costs 30 = .ok (.invokevirtual 134, 3) := by decide +kernel
theorem dX9_costs_33 : decode cX9_costs 33 = .ok (.invokevirtual 137, 3) := by decide +kernel
theorem dX9_costs_36 : decode cX9_costs 36 = .ok (.aload_n 0, 1) := by decide +kernel
theorem dX9_costs_37 : decode cX9_costs 37 = .ok (.getfield 7, 3) := by decide +kernel
theorem dX9_costs_40 : decode cX9_costs 40 = .ok (.sipush 365, 3) := by decide +kernel
theorem dX9_costs_43 : decode cX9_costs 43 = .ok (.iaload, 1) := by decide +kernel
theorem dX9_costs_44 : decode cX9_costs 44 = .ok (.aload_n 0, 1) := by decide +kernel
theorem dX9_costs_45 : decode cX9_costs 45 = .ok (.getfield 7, 3) := by decide +kernel
theorem dX9_costs_48 : decode cX9_costs 48 = .ok (.sipush 366, 3) := by decide +kernel
theorem dX9_costs_51 : decode cX9_costs 51 = .ok (.iaload, 1) := by decide +kernel
theorem dX9_costs_52 : decode cX9_costs 52 = .ok (.iadd, 1) := by decide +kernel
theorem dX9_costs_53 : decode cX9_costs 53 = .ok (.aload_n 0, 1) := by decide +kernel
theorem dX9_costs_54 : decode cX9_costs 54 = .ok (.getfield 7, 3) := by decide +kernel
theorem dX9_costs_57 : decode cX9_costs 57 = .ok (.sipush 367, 3) := by decide +kernel
theorem dX9_costs_60 : decode cX9_costs 60 = .ok (.iaload, 1) := by decide +kernel
theorem dX9_costs_61 : decode cX9_costs 61 = .ok (.iadd, 1) := by decide +kernel
theorem dX9_costs_62 : decode cX9_costs 62 = .ok (.istore_n 2, 1) := by decide +kernel
theorem dX9_costs_63 : decode cX9_costs 63 = .ok (.iconst 0, 1) := by decide +kernel
theorem dX9_costs_64 : decode cX9_costs 64 = .ok (.istore_n 3, 1) := by decide +kernel
theorem dX9_costs_65 : decode cX9_costs 65 = .ok (.iload_n 3, 1) := by decide +kernel
theorem dX9_costs_66 : decode cX9_costs 66 = .ok (.sipush 368, 3) := by decide +kernel
theorem dX9_costs_69 : decode cX9_costs 69 = .ok (.if_icmp .ge 21, 3) := by decide +kernel
theorem dX9_costs_72 : decode cX9_costs 72 = .ok (.aload_n 0, 1) := by decide +kernel
theorem dX9_costs_73 : decode cX9_costs 73 = .ok (.getfield 7, 3) := by decide +kernel
theorem dX9_costs_76 : decode cX9_costs 76 = .ok (.iload_n 3, 1) := by decide +kernel
theorem dX9_costs_77 : decode cX9_costs 77 = .ok (.aload_n 0, 1) := by decide +kernel
theorem dX9_costs_78 : decode cX9_costs 78 = .ok (.getfield 38, 3) := by decide +kernel
theorem dX9_costs_81 : decode cX9_costs 81 = .ok (.iload_n 3, 1) := by decide +kernel
theorem dX9_costs_82 : decode cX9_costs 82 = .ok (.iaload, 1) := by decide +kernel
theorem dX9_costs_83 : decode cX9_costs 83 = .ok (.iastore, 1) := by decide +kernel
theorem dX9_costs_84 : decode cX9_costs 84 = .ok (.iinc 3 1, 3) := by decide +kernel
theorem dX9_costs_87 : decode cX9_costs 87 = .ok (.goto (-22), 3) := by decide +kernel
theorem dX9_costs_90 : decode cX9_costs 90 = .ok (.iload_n 2, 1) := by decide +kernel
theorem dX9_costs_91 : decode cX9_costs 91 = .ok (.ireturn, 1) := by decide +kernel
theorem dX9_costly_0 : decode cX9_costly 0 = .ok (.iconst (-1), 1) := by decide +kernel
theorem dX9_costly_1 : decode cX9_costly 1 = .ok (.istore_n 1, 1) := by decide +kernel
theorem dX9_costly_2 : decode cX9_costly 2 = .ok (.iconst (-1), 1) := by decide +kernel
theorem dX9_costly_3 : decode cX9_costly 3 = .ok (.istore_n 2, 1) := by decide +kernel
theorem dX9_costly_4 : decode cX9_costly 4 = .ok (.aload_n 0, 1) := by decide +kernel
theorem dX9_costly_5 : decode cX9_costly 5 = .ok (.iconst (-1), 1) := by decide +kernel
theorem dX9_costly_6 : decode cX9_costly 6 = .ok (.iconst 0, 1) := by decide +kernel
theorem dX9_costly_7 : decode cX9_costly 7 = .ok (.invokevirtual 140, 3) := by decide +kernel
theorem dX9_costly_10 : decode cX9_costly 10 = .ok (.istore_n 3, 1) := by decide +kernel
theorem dX9_costly_11 : decode cX9_costly 11 = .ok (.iload_n 3, 1) := by decide +kernel
theorem dX9_costly_12 : decode cX9_costly 12 = .ok (.iconst (-1), 1) := by decide +kernel
theorem dX9_costly_13 : decode cX9_costly 13 = .ok (.if_icmp .eq 45, 3) := by decide +kernel
theorem dX9_costly_16 : decode cX9_costly 16 = .ok (.aload_n 0, 1) := by decide +kernel
theorem dX9_costly_17 : decode cX9_costly 17 = .ok (.iload_n 3, 1) := by decide +kernel
theorem dX9_costly_18 : decode cX9_costly 18 = .ok (.invokevirtual 143, 3) := by decide +kernel
theorem dX9_costly_21 : decode cX9_costly 21 = .ok (.istore 4, 2) := by decide +kernel
theorem dX9_costly_23 : decode cX9_costly 23 = .ok (.iload 4, 2) := by decide +kernel
theorem dX9_costly_25 : decode cX9_costly 25 = .ok (.iload_n 2, 1) := by decide +kernel
theorem dX9_costly_26 : decode cX9_costly 26 = .ok (.if_icmp .le 7, 3) := by decide +kernel
theorem dX9_costly_29 : decode cX9_costly 29 = .ok (.iload_n 3, 1) := by decide +kernel
theorem dX9_costly_30 : decode cX9_costly 30 = .ok (.goto 4, 3) := by decide +kernel
theorem dX9_costly_33 : decode cX9_costly 33 = .ok (.iload_n 1, 1) := by decide +kernel
theorem dX9_costly_34 : decode cX9_costly 34 = .ok (.istore_n 1, 1) := by decide +kernel
theorem dX9_costly_35 : decode cX9_costly 35 = .ok (.iload 4, 2) := by decide +kernel
theorem dX9_costly_37 : decode cX9_costly 37 = .ok (.iload_n 2, 1) := by decide +kernel
theorem dX9_costly_38 : decode cX9_costly 38 = .ok (.if_icmp .le 8, 3) := by decide +kernel
theorem dX9_costly_41 : decode cX9_costly 41 = .ok (.iload 4, 2) := by decide +kernel
theorem dX9_costly_43 : decode cX9_costly 43 = .ok (.goto 4, 3) := by decide +kernel
theorem dX9_costly_46 : decode cX9_costly 46 = .ok (.iload_n 2, 1) := by decide +kernel
theorem dX9_costly_47 : decode cX9_costly 47 = .ok (.istore_n 2, 1) := by decide +kernel
theorem dX9_costly_48 : decode cX9_costly 48 = .ok (.aload_n 0, 1) := by decide +kernel
theorem dX9_costly_49 : decode cX9_costly 49 = .ok (.iload_n 3, 1) := by decide +kernel
theorem dX9_costly_50 : decode cX9_costly 50 = .ok (.iconst 0, 1) := by decide +kernel
theorem dX9_costly_51 : decode cX9_costly 51 = .ok (.invokevirtual 140, 3) := by decide +kernel
theorem dX9_costly_54 : decode cX9_costly 54 = .ok (.istore_n 3, 1) := by decide +kernel
theorem dX9_costly_55 : decode cX9_costly 55 = .ok (.goto (-44), 3) := by decide +kernel
theorem dX9_costly_58 : decode cX9_costly 58 = .ok (.iload_n 1, 1) := by decide +kernel
theorem dX9_costly_59 : decode cX9_costly 59 = .ok (.ireturn, 1) := by decide +kernel
theorem dX9_flat_0 : decode cX9_flat 0 = .ok (.iconst 0, 1) := by decide +kernel
theorem dX9_flat_1 : decode cX9_flat 1 = .ok (.istore_n 1, 1) := by decide +kernel
theorem dX9_flat_2 : decode cX9_flat 2 = .ok (.iconst 1, 1) := by decide +kernel
theorem dX9_flat_3 : decode cX9_flat 3 = .ok (.iload_n 1, 1) := by decide +kernel
theorem dX9_flat_4 : decode cX9_flat 4 = .ok (.ishl, 1) := by decide +kernel
theorem dX9_flat_5 : decode cX9_flat 5 = .ok (.iconst 1, 1) := by decide +kernel
theorem dX9_flat_6 : decode cX9_flat 6 = .ok (.isub, 1) := by decide +kernel
theorem dX9_flat_7 : decode cX9_flat 7 = .ok (.aload_n 0, 1) := by decide +kernel
theorem dX9_flat_8 : decode cX9_flat 8 = .ok (.invokevirtual 128, 3) := by decide +kernel
theorem dX9_flat_11 : decode cX9_flat 11 = .ok (.if_icmp .ge 9, 3) := by decide +kernel
theorem dX9_flat_14 : decode cX9_flat 14 = .ok (.iinc 1 1, 3) := by decide +kernel
theorem dX9_flat_17 : decode cX9_flat 17 = .ok (.goto (-15), 3) := by decide +kernel
theorem dX9_flat_20 : decode cX9_flat 20 = .ok (.iload_n 1, 1) := by decide +kernel
theorem dX9_flat_21 : decode cX9_flat 21 = .ok (.ireturn, 1) := by decide +kernel
theorem dX9_lesser_0 : decode cX9_lesser 0 = .ok (.iload_n 0, 1) := by decide +kernel
theorem dX9_lesser_1 : decode cX9_lesser 1 = .ok (.iload_n 1, 1) := by decide +kernel
theorem dX9_lesser_2 : decode cX9_lesser 2 = .ok (.if_icmp .ge 7, 3) := by decide +kernel
theorem dX9_lesser_5 : decode cX9_lesser 5 = .ok (.iload_n 0, 1) := by decide +kernel
theorem dX9_lesser_6 : decode cX9_lesser 6 = .ok (.goto 4, 3) := by decide +kernel
theorem dX9_lesser_9 : decode cX9_lesser 9 = .ok (.iload_n 1, 1) := by decide +kernel
theorem dX9_lesser_10 : decode cX9_lesser 10 = .ok (.ireturn, 1) := by decide +kernel
theorem dX9_tall_0 : decode cX9_tall 0 = .ok (.aload_n 0, 1) := by decide +kernel
theorem dX9_tall_1 : decode cX9_tall 1 = .ok (.getfield 41, 3) := by decide +kernel
theorem dX9_tall_4 : decode cX9_tall 4 = .ok (.iconst 0, 1) := by decide +kernel
theorem dX9_tall_5 : decode cX9_tall 5 = .ok (.iconst 0, 1) := by decide +kernel
theorem dX9_tall_6 : decode cX9_tall 6 = .ok (.iastore, 1) := by decide +kernel
theorem dX9_tall_7 : decode cX9_tall 7 = .ok (.aload_n 0, 1) := by decide +kernel
theorem dX9_tall_8 : decode cX9_tall 8 = .ok (.getfield 41, 3) := by decide +kernel
theorem dX9_tall_11 : decode cX9_tall 11 = .ok (.iconst 1, 1) := by decide +kernel
theorem dX9_tall_12 : decode cX9_tall 12 = .ok (.iconst 1, 1) := by decide +kernel
theorem dX9_tall_13 : decode cX9_tall 13 = .ok (.iastore, 1) := by decide +kernel
theorem dX9_tall_14 : decode cX9_tall 14 = .ok (.aload_n 0, 1) := by decide +kernel
theorem dX9_tall_15 : decode cX9_tall 15 = .ok (.getfield 41, 3) := by decide +kernel
theorem dX9_tall_18 : decode cX9_tall 18 = .ok (.iconst 2, 1) := by decide +kernel
theorem dX9_tall_19 : decode cX9_tall 19 = .ok (.iconst 2, 1) := by decide +kernel
theorem dX9_tall_20 : decode cX9_tall 20 = .ok (.iastore, 1) := by decide +kernel
theorem dX9_tall_21 : decode cX9_tall 21 = .ok (.iconst 3, 1) := by decide +kernel
theorem dX9_tall_22 : decode cX9_tall 22 = .ok (.istore_n 1, 1) := by decide +kernel
theorem dX9_tall_23 : decode cX9_tall 23 = .ok (.iload_n 1, 1) := by decide +kernel
theorem dX9_tall_24 : decode cX9_tall 24 = .ok (.bipush 32, 2) := by decide +kernel
theorem dX9_tall_26 : decode cX9_tall 26 = .ok (.if_icmp .ge 57, 3) := by decide +kernel
theorem dX9_tall_29 : decode cX9_tall 29 = .ok (.aload_n 0, 1) := by decide +kernel
theorem dX9_tall_30 : decode cX9_tall 30 = .ok (.getfield 41, 3) := by decide +kernel
theorem dX9_tall_33 : decode cX9_tall 33 = .ok (.iload_n 1, 1) := by decide +kernel
theorem dX9_tall_34 : decode cX9_tall 34 = .ok (.iconst 1, 1) := by decide +kernel
theorem dX9_tall_35 : decode cX9_tall 35 = .ok (.iconst 2, 1) := by decide +kernel
theorem dX9_tall_36 : decode cX9_tall 36 = .ok (.aload_n 0, 1) := by decide +kernel
theorem dX9_tall_37 : decode cX9_tall 37 = .ok (.getfield 41, 3) := by decide +kernel
theorem dX9_tall_40 : decode cX9_tall 40 = .ok (.iload_n 1, 1) := by decide +kernel
theorem dX9_tall_41 : decode cX9_tall 41 = .ok (.iconst 2, 1) := by decide +kernel
theorem dX9_tall_42 : decode cX9_tall 42 = .ok (.isub, 1) := by decide +kernel
theorem dX9_tall_43 : decode cX9_tall 43 = .ok (.iaload, 1) := by decide +kernel
theorem dX9_tall_44 : decode cX9_tall 44 = .ok (.imul, 1) := by decide +kernel
theorem dX9_tall_45 : decode cX9_tall 45 = .ok (.iadd, 1) := by decide +kernel
theorem dX9_tall_46 : decode cX9_tall 46 = .ok (.iastore, 1) := by decide +kernel
theorem dX9_tall_47 : decode cX9_tall 47 = .ok (.aload_n 0, 1) := by decide +kernel
theorem dX9_tall_48 : decode cX9_tall 48 = .ok (.getfield 41, 3) := by decide +kernel
theorem dX9_tall_51 : decode cX9_tall 51 = .ok (.iload_n 1, 1) := by decide +kernel
theorem dX9_tall_52 : decode cX9_tall 52 = .ok (.aload_n 0, 1) := by decide +kernel
theorem dX9_tall_53 : decode cX9_tall 53 = .ok (.getfield 41, 3) := by decide +kernel
theorem dX9_tall_56 : decode cX9_tall 56 = .ok (.iload_n 1, 1) := by decide +kernel
theorem dX9_tall_57 : decode cX9_tall 57 = .ok (.iaload, 1) := by decide +kernel
theorem dX9_tall_58 : decode cX9_tall 58 = .ok (.sipush 1000, 3) := by decide +kernel
theorem dX9_tall_61 : decode cX9_tall 61 = .ok (.if_icmp .le 9, 3) := by decide +kernel
theorem dX9_tall_64 : decode cX9_tall 64 = .ok (.sipush 1000, 3) := by decide +kernel
theorem dX9_tall_67 : decode cX9_tall 67 = .ok (.goto 9, 3) := by decide +kernel
theorem dX9_tall_70 : decode cX9_tall 70 = .ok (.aload_n 0, 1) := by decide +kernel
theorem dX9_tall_71 : decode cX9_tall 71 = .ok (.getfield 41, 3) := by decide +kernel
theorem dX9_tall_74 : decode cX9_tall 74 = .ok (.iload_n 1, 1) := by decide +kernel
theorem dX9_tall_75 : decode cX9_tall 75 = .ok (.iaload, 1) := by decide +kernel
theorem dX9_tall_76 : decode cX9_tall 76 = .ok (.iastore, 1) := by decide +kernel
theorem dX9_tall_77 : decode cX9_tall 77 = .ok (.iinc 1 1, 3) := by decide +kernel
theorem dX9_tall_80 : decode cX9_tall 80 = .ok (.goto (-57), 3) := by decide +kernel
theorem dX9_tall_83 : decode cX9_tall 83 = .ok (.iconst 0, 1) := by decide +kernel
theorem dX9_tall_84 : decode cX9_tall 84 = .ok (.istore_n 1, 1) := by decide +kernel
theorem dX9_tall_85 : decode cX9_tall 85 = .ok (.iconst 1, 1) := by decide +kernel
theorem dX9_tall_86 : decode cX9_tall 86 = .ok (.istore_n 2, 1) := by decide +kernel
theorem dX9_tall_87 : decode cX9_tall 87 = .ok (.iload_n 2, 1) := by decide +kernel
theorem dX9_tall_88 : decode cX9_tall 88 = .ok (.bipush 20, 2) := by decide +kernel
theorem dX9_tall_90 : decode cX9_tall 90 = .ok (.if_icmp .ge 195, 3) := by decide +kernel
theorem dX9_tall_93 : decode cX9_tall 93 = .ok (.sipush 1000, 3) := by decide +kernel
theorem dX9_tall_96 : decode cX9_tall 96 = .ok (.istore_n 3, 1) := by decide +kernel
theorem dX9_tall_97 : decode cX9_tall 97 = .ok (.iconst 0, 1) := by decide +kernel
theorem dX9_tall_98 : decode cX9_tall 98 = .ok (.istore 4, 2) := by decide +kernel
theorem dX9_tall_100 : decode cX9_tall 100 = .ok (.iload 4, 2) := by decide +kernel
theorem dX9_tall_102 : decode cX9_tall 102 = .ok (.bipush 30, 2) := by decide +kernel
theorem dX9_tall_104 : decode cX9_tall 104 = .ok (.if_icmp .ge 161, 3) := by decide +kernel
theorem dX9_tall_107 : decode cX9_tall 107 = .ok (.iload_n 2, 1) := by decide +kernel
theorem dX9_tall_108 : decode cX9_tall 108 = .ok (.iconst 1, 1) := by decide +kernel
theorem dX9_tall_109 : decode cX9_tall 109 = .ok (.if_icmp .ne 9, 3) := by decide +kernel
theorem dX9_tall_112 : decode cX9_tall 112 = .ok (.sipush 1000, 3) := by decide +kernel
theorem dX9_tall_115 : decode cX9_tall 115 = .ok (.goto 61, 3) := by decide +kernel
theorem dX9_tall_118 : decode cX9_tall 118 = .ok (.iload 4, 2) := by decide +kernel
theorem dX9_tall_120 : decode cX9_tall 120 = .ok (.ifCond .le 22, 3) := by decide +kernel
theorem dX9_tall_123 : decode cX9_tall 123 = .ok (.aload_n 0, 1) := by decide +kernel
theorem dX9_tall_124 : decode cX9_tall 124 = .ok (.getfield 44, 3) := by decide +kernel
theorem dX9_tall_127 : decode cX9_tall 127 = .ok (.bipush 32, 2) := by decide +kernel
theorem dX9_tall_129 : decode cX9_tall 129 = .ok (.iload_n 2, 1) := by decide +kernel
theorem dX9_tall_130 : decode cX9_tall 130 = .ok (.iconst 1, 1) := by decide +kernel
theorem dX9_tall_131 : decode cX9_tall 131 = .ok (.isub, 1) := by decide +kernel
theorem dX9_tall_132 : decode cX9_tall 132 = .ok (.imul, 1) := by decide +kernel
theorem dX9_tall_133 : decode cX9_tall 133 = .ok (.iload 4, 2) := by decide +kernel
theorem dX9_tall_135 : decode cX9_tall 135 = .ok (.iadd, 1) := by decide +kernel
theorem dX9_tall_136 : decode cX9_tall 136 = .ok (.iconst 1, 1) := by decide +kernel
theorem dX9_tall_137 : decode cX9_tall 137 = .ok (.isub, 1) := by decide +kernel
theorem dX9_tall_138 : decode cX9_tall 138 = .ok (.iaload, 1) := by decide +kernel
theorem dX9_tall_139 : decode cX9_tall 139 = .ok (.goto 6, 3) := by decide +kernel
theorem dX9_tall_142 : decode cX9_tall 142 = .ok (.sipush 1000, 3) := by decide +kernel
theorem dX9_tall_145 : decode cX9_tall 145 = .ok (.iload 4, 2) := by decide +kernel
theorem dX9_tall_147 : decode cX9_tall 147 = .ok (.iconst 1, 1) := by decide +kernel
theorem dX9_tall_148 : decode cX9_tall 148 = .ok (.if_icmp .le 22, 3) := by decide +kernel
theorem dX9_tall_151 : decode cX9_tall 151 = .ok (.aload_n 0, 1) := by decide +kernel
theorem dX9_tall_152 : decode cX9_tall 152 = .ok (.getfield 44, 3) := by decide +kernel
theorem dX9_tall_155 : decode cX9_tall 155 = .ok (.bipush 32, 2) := by decide +kernel
theorem dX9_tall_157 : decode cX9_tall 157 = .ok (.iload_n 2, 1) := by decide +kernel
theorem dX9_tall_158 : decode cX9_tall 158 = .ok (.iconst 1, 1) := by decide +kernel
theorem dX9_tall_159 : decode cX9_tall 159 = .ok (.isub, 1) := by decide +kernel
theorem dX9_tall_160 : decode cX9_tall 160 = .ok (.imul, 1) := by decide +kernel
theorem dX9_tall_161 : decode cX9_tall 161 = .ok (.iload 4, 2) := by decide +kernel
end
section
theorem dX9_tall_163 : decode cX9_tall 163 = .ok (.iadd, 1) := by decide +kernel
theorem dX9_tall_164 : decode cX9_tall 164 = .ok (.iconst 2, 1) := by decide +kernel
theorem dX9_tall_165 : decode cX9_tall 165 = .ok (.isub, 1) := by decide +kernel
theorem dX9_tall_166 : decode cX9_tall 166 = .ok (.iaload, 1) := by decide +kernel
theorem dX9_tall_167 : decode cX9_tall 167 = .ok (.goto 6, 3) := by decide +kernel
theorem dX9_tall_170 : decode cX9_tall 170 = .ok (.sipush 1000, 3) := by decide +kernel
theorem dX9_tall_173 : decode cX9_tall 173 = .ok (.invokestatic 146, 3) := by decide +kernel
theorem dX9_tall_176 : decode cX9_tall 176 = .ok (.istore 5, 2) := by decide +kernel
theorem dX9_tall_178 : decode cX9_tall 178 = .ok (.iload 4, 2) := by decide +kernel
theorem dX9_tall_180 : decode cX9_tall 180 = .ok (.iconst 1, 1) := by decide +kernel
theorem dX9_tall_181 : decode cX9_tall 181 = .ok (.if_icmp .le 15, 3) := by decide +kernel
theorem dX9_tall_184 : decode cX9_tall 184 = .ok (.aload_n 0, 1) := by decide +kernel
theorem dX9_tall_185 : decode cX9_tall 185 = .ok (.getfield 41, 3) := by decide +kernel
theorem dX9_tall_188 : decode cX9_tall 188 = .ok (.iload 4, 2) := by decide +kernel
theorem dX9_tall_190 : decode cX9_tall 190 = .ok (.iconst 1, 1) := by decide +kernel
theorem dX9_tall_191 : decode cX9_tall 191 = .ok (.isub, 1) := by decide +kernel
theorem dX9_tall_192 : decode cX9_tall 192 = .ok (.iaload, 1) := by decide +kernel
theorem dX9_tall_193 : decode cX9_tall 193 = .ok (.goto 4, 3) := by decide +kernel
theorem dX9_tall_196 : decode cX9_tall 196 = .ok (.iconst 0, 1) := by decide +kernel
theorem dX9_tall_197 : decode cX9_tall 197 = .ok (.istore 6, 2) := by decide +kernel
theorem dX9_tall_199 : decode cX9_tall 199 = .ok (.iload_n 2, 1) := by decide +kernel
theorem dX9_tall_200 : decode cX9_tall 200 = .ok (.iconst 1, 1) := by decide +kernel
theorem dX9_tall_201 : decode cX9_tall 201 = .ok (.if_icmp .ne 12, 3) := by decide +kernel
theorem dX9_tall_204 : decode cX9_tall 204 = .ok (.iload 4, 2) := by decide +kernel
theorem dX9_tall_206 : decode cX9_tall 206 = .ok (.ifCond .ne 7, 3) := by decide +kernel
theorem dX9_tall_209 : decode cX9_tall 209 = .ok (.iconst 1, 1) := by decide +kernel
theorem dX9_tall_210 : decode cX9_tall 210 = .ok (.goto 10, 3) := by decide +kernel
theorem dX9_tall_213 : decode cX9_tall 213 = .ok (.iconst 1, 1) := by decide +kernel
theorem dX9_tall_214 : decode cX9_tall 214 = .ok (.iload 5, 2) := by decide +kernel
theorem dX9_tall_216 : decode cX9_tall 216 = .ok (.iadd, 1) := by decide +kernel
theorem dX9_tall_217 : decode cX9_tall 217 = .ok (.iload 6, 2) := by decide +kernel
theorem dX9_tall_219 : decode cX9_tall 219 = .ok (.iadd, 1) := by decide +kernel
theorem dX9_tall_220 : decode cX9_tall 220 = .ok (.istore 7, 2) := by decide +kernel
theorem dX9_tall_222 : decode cX9_tall 222 = .ok (.aload_n 0, 1) := by decide +kernel
theorem dX9_tall_223 : decode cX9_tall 223 = .ok (.getfield 44, 3) := by decide +kernel
theorem dX9_tall_226 : decode cX9_tall 226 = .ok (.bipush 32, 2) := by decide +kernel
theorem dX9_tall_228 : decode cX9_tall 228 = .ok (.iload_n 2, 1) := by decide +kernel
theorem dX9_tall_229 : decode cX9_tall 229 = .ok (.imul, 1) := by decide +kernel
theorem dX9_tall_230 : decode cX9_tall 230 = .ok (.iload 4, 2) := by decide +kernel
theorem dX9_tall_232 : decode cX9_tall 232 = .ok (.iadd, 1) := by decide +kernel
theorem dX9_tall_233 : decode cX9_tall 233 = .ok (.iload 7, 2) := by decide +kernel
theorem dX9_tall_235 : decode cX9_tall 235 = .ok (.sipush 1000, 3) := by decide +kernel
theorem dX9_tall_238 : decode cX9_tall 238 = .ok (.invokestatic 146, 3) := by decide +kernel
theorem dX9_tall_241 : decode cX9_tall 241 = .ok (.iastore, 1) := by decide +kernel
theorem dX9_tall_242 : decode cX9_tall 242 = .ok (.iload_n 3, 1) := by decide +kernel
theorem dX9_tall_243 : decode cX9_tall 243 = .ok (.aload_n 0, 1) := by decide +kernel
theorem dX9_tall_244 : decode cX9_tall 244 = .ok (.getfield 44, 3) := by decide +kernel
theorem dX9_tall_247 : decode cX9_tall 247 = .ok (.bipush 32, 2) := by decide +kernel
theorem dX9_tall_249 : decode cX9_tall 249 = .ok (.iload_n 2, 1) := by decide +kernel
theorem dX9_tall_250 : decode cX9_tall 250 = .ok (.imul, 1) := by decide +kernel
theorem dX9_tall_251 : decode cX9_tall 251 = .ok (.iload 4, 2) := by decide +kernel
theorem dX9_tall_253 : decode cX9_tall 253 = .ok (.iadd, 1) := by decide +kernel
theorem dX9_tall_254 : decode cX9_tall 254 = .ok (.iaload, 1) := by decide +kernel
theorem dX9_tall_255 : decode cX9_tall 255 = .ok (.invokestatic 146, 3) := by decide +kernel
theorem dX9_tall_258 : decode cX9_tall 258 = .ok (.istore_n 3, 1) := by decide +kernel
theorem dX9_tall_259 : decode cX9_tall 259 = .ok (.iinc 4 1, 3) := by decide +kernel
theorem dX9_tall_262 : decode cX9_tall 262 = .ok (.goto (-162), 3) := by decide +kernel
theorem dX9_tall_265 : decode cX9_tall 265 = .ok (.iload_n 3, 1) := by decide +kernel
theorem dX9_tall_266 : decode cX9_tall 266 = .ok (.aload_n 0, 1) := by decide +kernel
theorem dX9_tall_267 : decode cX9_tall 267 = .ok (.invokevirtual 128, 3) := by decide +kernel
theorem dX9_tall_270 : decode cX9_tall 270 = .ok (.if_icmp .gt 7, 3) := by decide +kernel
theorem dX9_tall_273 : decode cX9_tall 273 = .ok (.iload_n 2, 1) := by decide +kernel
theorem dX9_tall_274 : decode cX9_tall 274 = .ok (.goto 4, 3) := by decide +kernel
theorem dX9_tall_277 : decode cX9_tall 277 = .ok (.iload_n 1, 1) := by decide +kernel
theorem dX9_tall_278 : decode cX9_tall 278 = .ok (.istore_n 1, 1) := by decide +kernel
theorem dX9_tall_279 : decode cX9_tall 279 = .ok (.iinc 2 1, 3) := by decide +kernel
theorem dX9_tall_282 : decode cX9_tall 282 = .ok (.goto (-195), 3) := by decide +kernel
theorem dX9_tall_285 : decode cX9_tall 285 = .ok (.iload_n 1, 1) := by decide +kernel
theorem dX9_tall_286 : decode cX9_tall 286 = .ok (.ireturn, 1) := by decide +kernel
theorem dX9_told_0 : decode cX9_told 0 = .ok (.iload_n 1, 1) := by decide +kernel
theorem dX9_told_1 : decode cX9_told 1 = .ok (.tableswitch 174 0 16 #[83, 88, 110, 119, 124, 130, 130, 130, 130, 130, 130, 143, 149, 154, 159, 164, 169], 83) := by decide +kernel
theorem dX9_told_84 : decode cX9_told 84 = .ok (.aload_n 0, 1) := by decide +kernel
theorem dX9_told_85 : decode cX9_told 85 = .ok (.invokevirtual 128, 3) := by decide +kernel
theorem dX9_told_88 : decode cX9_told 88 = .ok (.ireturn, 1) := by decide +kernel
theorem dX9_told_89 : decode cX9_told 89 = .ok (.aload_n 0, 1) := by decide +kernel
theorem dX9_told_90 : decode cX9_told 90 = .ok (.invokevirtual 87, 3) := by decide +kernel
theorem dX9_told_93 : decode cX9_told 93 = .ok (.iconst (-1), 1) := by decide +kernel
theorem dX9_told_94 : decode cX9_told 94 = .ok (.if_icmp .ne 7, 3) := by decide +kernel
theorem dX9_told_97 : decode cX9_told 97 = .ok (.iconst (-1), 1) := by decide +kernel
theorem dX9_told_98 : decode cX9_told 98 = .ok (.goto 12, 3) := by decide +kernel
theorem dX9_told_101 : decode cX9_told 101 = .ok (.aload_n 0, 1) := by decide +kernel
theorem dX9_told_102 : decode cX9_told 102 = .ok (.aload_n 0, 1) := by decide +kernel
theorem dX9_told_103 : decode cX9_told 103 = .ok (.invokevirtual 87, 3) := by decide +kernel
theorem dX9_told_106 : decode cX9_told 106 = .ok (.iconst 0, 1) := by decide +kernel
theorem dX9_told_107 : decode cX9_told 107 = .ok (.invokevirtual 63, 3) := by decide +kernel
theorem dX9_told_110 : decode cX9_told 110 = .ok (.ireturn, 1) := by decide +kernel
theorem dX9_told_111 : decode cX9_told 111 = .ok (.aload_n 0, 1) := by decide +kernel
theorem dX9_told_112 : decode cX9_told 112 = .ok (.aload_n 0, 1) := by decide +kernel
theorem dX9_told_113 : decode cX9_told 113 = .ok (.invokevirtual 87, 3) := by decide +kernel
theorem dX9_told_116 : decode cX9_told 116 = .ok (.invokevirtual 83, 3) := by decide +kernel
theorem dX9_told_119 : decode cX9_told 119 = .ok (.ireturn, 1) := by decide +kernel
theorem dX9_told_120 : decode cX9_told 120 = .ok (.aload_n 0, 1) := by decide +kernel
theorem dX9_told_121 : decode cX9_told 121 = .ok (.invokevirtual 149, 3) := by decide +kernel
theorem dX9_told_124 : decode cX9_told 124 = .ok (.ireturn, 1) := by decide +kernel
theorem dX9_told_125 : decode cX9_told 125 = .ok (.aload_n 0, 1) := by decide +kernel
theorem dX9_told_126 : decode cX9_told 126 = .ok (.iconst 1, 1) := by decide +kernel
theorem dX9_told_127 : decode cX9_told 127 = .ok (.invokevirtual 152, 3) := by decide +kernel
theorem dX9_told_130 : decode cX9_told 130 = .ok (.ireturn, 1) := by decide +kernel
theorem dX9_told_131 : decode cX9_told 131 = .ok (.aload_n 0, 1) := by decide +kernel
theorem dX9_told_132 : decode cX9_told 132 = .ok (.getfield 7, 3) := by decide +kernel
theorem dX9_told_135 : decode cX9_told 135 = .ok (.sipush 362, 3) := by decide +kernel
theorem dX9_told_138 : decode cX9_told 138 = .ok (.iload_n 1, 1) := by decide +kernel
theorem dX9_told_139 : decode cX9_told 139 = .ok (.iadd, 1) := by decide +kernel
theorem dX9_told_140 : decode cX9_told 140 = .ok (.iconst 5, 1) := by decide +kernel
theorem dX9_told_141 : decode cX9_told 141 = .ok (.isub, 1) := by decide +kernel
theorem dX9_told_142 : decode cX9_told 142 = .ok (.iaload, 1) := by decide +kernel
theorem dX9_told_143 : decode cX9_told 143 = .ok (.ireturn, 1) := by decide +kernel
theorem dX9_told_144 : decode cX9_told 144 = .ok (.aload_n 0, 1) := by decide +kernel
theorem dX9_told_145 : decode cX9_told 145 = .ok (.iconst 2, 1) := by decide +kernel
theorem dX9_told_146 : decode cX9_told 146 = .ok (.invokevirtual 152, 3) := by decide +kernel
theorem dX9_told_149 : decode cX9_told 149 = .ok (.ireturn, 1) := by decide +kernel
theorem dX9_told_150 : decode cX9_told 150 = .ok (.aload_n 0, 1) := by decide +kernel
theorem dX9_told_151 : decode cX9_told 151 = .ok (.invokevirtual 155, 3) := by decide +kernel
theorem dX9_told_154 : decode cX9_told 154 = .ok (.ireturn, 1) := by decide +kernel
theorem dX9_told_155 : decode cX9_told 155 = .ok (.aload_n 0, 1) := by decide +kernel
theorem dX9_told_156 : decode cX9_told 156 = .ok (.invokevirtual 158, 3) := by decide +kernel
theorem dX9_told_159 : decode cX9_told 159 = .ok (.ireturn, 1) := by decide +kernel
theorem dX9_told_160 : decode cX9_told 160 = .ok (.aload_n 0, 1) := by decide +kernel
theorem dX9_told_161 : decode cX9_told 161 = .ok (.invokevirtual 161, 3) := by decide +kernel
theorem dX9_told_164 : decode cX9_told 164 = .ok (.ireturn, 1) := by decide +kernel
theorem dX9_told_165 : decode cX9_told 165 = .ok (.aload_n 0, 1) := by decide +kernel
theorem dX9_told_166 : decode cX9_told 166 = .ok (.invokevirtual 164, 3) := by decide +kernel
theorem dX9_told_169 : decode cX9_told 169 = .ok (.ireturn, 1) := by decide +kernel
theorem dX9_told_170 : decode cX9_told 170 = .ok (.aload_n 0, 1) := by decide +kernel
theorem dX9_told_171 : decode cX9_told 171 = .ok (.getfield 167, 3) := by decide +kernel
theorem dX9_told_174 : decode cX9_told 174 = .ok (.ireturn, 1) := by decide +kernel
theorem dX9_told_175 : decode cX9_told 175 = .ok (.ldc 171, 2) := by decide +kernel
theorem dX9_told_177 : decode cX9_told 177 = .ok (.ireturn, 1) := by decide +kernel
theorem dX9_isNode_0 : decode cX9_isNode 0 = .ok (.iload_n 1, 1) := by decide +kernel
theorem dX9_isNode_1 : decode cX9_isNode 1 = .ok (.i2l, 1) := by decide +kernel
theorem dX9_isNode_2 : decode cX9_isNode 2 = .ok (.lconst 0, 1) := by decide +kernel
theorem dX9_isNode_3 : decode cX9_isNode 3 = .ok (.aload_n 0, 1) := by decide +kernel
theorem dX9_isNode_4 : decode cX9_isNode 4 = .ok (.invokevirtual 128, 3) := by decide +kernel
theorem dX9_isNode_7 : decode cX9_isNode 7 = .ok (.iconst 1, 1) := by decide +kernel
theorem dX9_isNode_8 : decode cX9_isNode 8 = .ok (.isub, 1) := by decide +kernel
theorem dX9_isNode_9 : decode cX9_isNode 9 = .ok (.i2l, 1) := by decide +kernel
theorem dX9_isNode_10 : decode cX9_isNode 10 = .ok (.invokestatic 172, 3) := by decide +kernel
theorem dX9_isNode_13 : decode cX9_isNode 13 = .ok (.ireturn, 1) := by decide +kernel
theorem dX9_numberAt_0 : decode cX9_numberAt 0 = .ok (.iload_n 1, 1) := by decide +kernel
theorem dX9_numberAt_1 : decode cX9_numberAt 1 = .ok (.iconst (-1), 1) := by decide +kernel
theorem dX9_numberAt_2 : decode cX9_numberAt 2 = .ok (.if_icmp .ne 7, 3) := by decide +kernel
theorem dX9_numberAt_5 : decode cX9_numberAt 5 = .ok (.iconst (-1), 1) := by decide +kernel
theorem dX9_numberAt_6 : decode cX9_numberAt 6 = .ok (.goto 9, 3) := by decide +kernel
theorem dX9_numberAt_9 : decode cX9_numberAt 9 = .ok (.aload_n 0, 1) := by decide +kernel
theorem dX9_numberAt_10 : decode cX9_numberAt 10 = .ok (.getfield 29, 3) := by decide +kernel
theorem dX9_numberAt_13 : decode cX9_numberAt 13 = .ok (.iload_n 1, 1) := by decide +kernel
theorem dX9_numberAt_14 : decode cX9_numberAt 14 = .ok (.iaload, 1) := by decide +kernel
theorem dX9_numberAt_15 : decode cX9_numberAt 15 = .ok (.ireturn, 1) := by decide +kernel
theorem dX9_node_0 : decode cX9_node 0 = .ok (.aload_n 0, 1) := by decide +kernel
theorem dX9_node_1 : decode cX9_node 1 = .ok (.iload_n 1, 1) := by decide +kernel
theorem dX9_node_2 : decode cX9_node 2 = .ok (.invokevirtual 176, 3) := by decide +kernel
theorem dX9_node_5 : decode cX9_node 5 = .ok (.ifCond .ne 6, 3) := by decide +kernel
theorem dX9_node_8 : decode cX9_node 8 = .ok (.ldc 179, 2) := by decide +kernel
theorem dX9_node_10 : decode cX9_node 10 = .ok (.ireturn, 1) := by decide +kernel
theorem dX9_node_11 : decode cX9_node 11 = .ok (.aload_n 0, 1) := by decide +kernel
theorem dX9_node_12 : decode cX9_node 12 = .ok (.invokevirtual 131, 3) := by decide +kernel
theorem dX9_node_15 : decode cX9_node 15 = .ok (.aload_n 0, 1) := by decide +kernel
theorem dX9_node_16 : decode cX9_node 16 = .ok (.getfield 26, 3) := by decide +kernel
theorem dX9_node_19 : decode cX9_node 19 = .ok (.iload_n 1, 1) := by decide +kernel
theorem dX9_node_20 : decode cX9_node 20 = .ok (.iaload, 1) := by decide +kernel
theorem dX9_node_21 : decode cX9_node 21 = .ok (.istore_n 3, 1) := by decide +kernel
theorem dX9_node_22 : decode cX9_node 22 = .ok (.iload_n 2, 1) := by decide +kernel
theorem dX9_node_23 : decode cX9_node 23 = .ok (.tableswitch 103 0 6 #[41, 48, 55, 62, 62, 73, 79], 41) := by decide +kernel
theorem dX9_node_64 : decode cX9_node 64 = .ok (.aload_n 0, 1) := by decide +kernel
theorem dX9_node_65 : decode cX9_node 65 = .ok (.iload_n 3, 1) := by decide +kernel
theorem dX9_node_66 : decode cX9_node 66 = .ok (.iconst 0, 1) := by decide +kernel
theorem dX9_node_67 : decode cX9_node 67 = .ok (.invokevirtual 63, 3) := by decide +kernel
theorem dX9_node_70 : decode cX9_node 70 = .ok (.ireturn, 1) := by decide +kernel
theorem dX9_node_71 : decode cX9_node 71 = .ok (.aload_n 0, 1) := by decide +kernel
theorem dX9_node_72 : decode cX9_node 72 = .ok (.iload_n 3, 1) := by decide +kernel
theorem dX9_node_73 : decode cX9_node 73 = .ok (.iconst 2, 1) := by decide +kernel
theorem dX9_node_74 : decode cX9_node 74 = .ok (.invokevirtual 63, 3) := by decide +kernel
theorem dX9_node_77 : decode cX9_node 77 = .ok (.ireturn, 1) := by decide +kernel
theorem dX9_node_78 : decode cX9_node 78 = .ok (.aload_n 0, 1) := by decide +kernel
theorem dX9_node_79 : decode cX9_node 79 = .ok (.getfield 32, 3) := by decide +kernel
theorem dX9_node_82 : decode cX9_node 82 = .ok (.iload_n 3, 1) := by decide +kernel
theorem dX9_node_83 : decode cX9_node 83 = .ok (.iaload, 1) := by decide +kernel
theorem dX9_node_84 : decode cX9_node 84 = .ok (.ireturn, 1) := by decide +kernel
theorem dX9_node_85 : decode cX9_node 85 = .ok (.aload_n 0, 1) := by decide +kernel
theorem dX9_node_86 : decode cX9_node 86 = .ok (.aload_n 0, 1) := by decide +kernel
theorem dX9_node_87 : decode cX9_node 87 = .ok (.iload_n 3, 1) := by decide +kernel
theorem dX9_node_88 : decode cX9_node 88 = .ok (.iload_n 2, 1) := by decide +kernel
theorem dX9_node_89 : decode cX9_node 89 = .ok (.invokevirtual 63, 3) := by decide +kernel
theorem dX9_node_92 : decode cX9_node 92 = .ok (.invokevirtual 180, 3) := by decide +kernel
theorem dX9_node_95 : decode cX9_node 95 = .ok (.ireturn, 1) := by decide +kernel
theorem dX9_node_96 : decode cX9_node 96 = .ok (.aload_n 0, 1) := by decide +kernel
theorem dX9_node_97 : decode cX9_node 97 = .ok (.iload_n 3, 1) := by decide +kernel
theorem dX9_node_98 : decode cX9_node 98 = .ok (.invokevirtual 183, 3) := by decide +kernel
theorem dX9_node_101 : decode cX9_node 101 = .ok (.ireturn, 1) := by decide +kernel
theorem dX9_node_102 : decode cX9_node 102 = .ok (.iload_n 3, 1) := by decide +kernel
theorem dX9_node_103 : decode cX9_node 103 = .ok (.aload_n 0, 1) := by decide +kernel
theorem dX9_node_104 : decode cX9_node 104 = .ok (.invokevirtual 87, 3) := by decide +kernel
theorem dX9_node_107 : decode cX9_node 107 = .ok (.if_icmp .ne 7, 3) := by decide +kernel
theorem dX9_node_110 : decode cX9_node 110 = .ok (.iconst (-1), 1) := by decide +kernel
theorem dX9_node_111 : decode cX9_node 111 = .ok (.goto 14, 3) := by decide +kernel
theorem dX9_node_114 : decode cX9_node 114 = .ok (.aload_n 0, 1) := by decide +kernel
theorem dX9_node_115 : decode cX9_node 115 = .ok (.aload_n 0, 1) := by decide +kernel
theorem dX9_node_116 : decode cX9_node 116 = .ok (.iload_n 3, 1) := by decide +kernel
theorem dX9_node_117 : decode cX9_node 117 = .ok (.iconst 5, 1) := by decide +kernel
theorem dX9_node_118 : decode cX9_node 118 = .ok (.invokevirtual 63, 3) := by decide +kernel
theorem dX9_node_121 : decode cX9_node 121 = .ok (.iload_n 3, 1) := by decide +kernel
theorem dX9_node_122 : decode cX9_node 122 = .ok (.invokevirtual 100, 3) := by decide +kernel
theorem dX9_node_125 : decode cX9_node 125 = .ok (.ireturn, 1) := by decide +kernel
theorem dX9_node_126 : decode cX9_node 126 = .ok (.ldc 171, 2) := by decide +kernel
theorem dX9_node_128 : decode cX9_node 128 = .ok (.ireturn, 1) := by decide +kernel
theorem dX9_key_0 : decode cX9_key 0 = .ok (.iload_n 1, 1) := by decide +kernel
theorem dX9_key_1 : decode cX9_key 1 = .ok (.ifCond .ge 7, 3) := by decide +kernel
theorem dX9_key_4 : decode cX9_key 4 = .ok (.iconst (-1), 1) := by decide +kernel
theorem dX9_key_5 : decode cX9_key 5 = .ok (.goto 8, 3) := by decide +kernel
theorem dX9_key_8 : decode cX9_key 8 = .ok (.aload_n 0, 1) := by decide +kernel
theorem dX9_key_9 : decode cX9_key 9 = .ok (.iload_n 1, 1) := by decide +kernel
theorem dX9_key_10 : decode cX9_key 10 = .ok (.invokevirtual 134, 3) := by decide +kernel
theorem dX9_key_13 : decode cX9_key 13 = .ok (.istore_n 3, 1) := by decide +kernel
theorem dX9_key_14 : decode cX9_key 14 = .ok (.iload_n 3, 1) := by decide +kernel
theorem dX9_key_15 : decode cX9_key 15 = .ok (.iconst (-1), 1) := by decide +kernel
theorem dX9_key_16 : decode cX9_key 16 = .ok (.if_icmp .ne 6, 3) := by decide +kernel
theorem dX9_key_19 : decode cX9_key 19 = .ok (.ldc 179, 2) := by decide +kernel
theorem dX9_key_21 : decode cX9_key 21 = .ok (.ireturn, 1) := by decide +kernel
theorem dX9_key_22 : decode cX9_key 22 = .ok (.aload_n 0, 1) := by decide +kernel
theorem dX9_key_23 : decode cX9_key 23 = .ok (.invokevirtual 131, 3) := by decide +kernel
theorem dX9_key_26 : decode cX9_key 26 = .ok (.iload_n 2, 1) := by decide +kernel
theorem dX9_key_27 : decode cX9_key 27 = .ok (.ifCond .ne 12, 3) := by decide +kernel
theorem dX9_key_30 : decode cX9_key 30 = .ok (.aload_n 0, 1) := by decide +kernel
theorem dX9_key_31 : decode cX9_key 31 = .ok (.iload_n 3, 1) := by decide +kernel
theorem dX9_key_32 : decode cX9_key 32 = .ok (.iconst 1, 1) := by decide +kernel
theorem dX9_key_33 : decode cX9_key 33 = .ok (.invokevirtual 63, 3) := by decide +kernel
theorem dX9_key_36 : decode cX9_key 36 = .ok (.goto 32, 3) := by decide +kernel
theorem dX9_key_39 : decode cX9_key 39 = .ok (.iload_n 2, 1) := by decide +kernel
theorem dX9_key_40 : decode cX9_key 40 = .ok (.iconst 1, 1) := by decide +kernel
theorem dX9_key_41 : decode cX9_key 41 = .ok (.if_icmp .ne 12, 3) := by decide +kernel
theorem dX9_key_44 : decode cX9_key 44 = .ok (.aload_n 0, 1) := by decide +kernel
theorem dX9_key_45 : decode cX9_key 45 = .ok (.getfield 29, 3) := by decide +kernel
theorem dX9_key_48 : decode cX9_key 48 = .ok (.iload_n 3, 1) := by decide +kernel
theorem dX9_key_49 : decode cX9_key 49 = .ok (.iaload, 1) := by decide +kernel
theorem dX9_key_50 : decode cX9_key 50 = .ok (.goto 18, 3) := by decide +kernel
theorem dX9_key_53 : decode cX9_key 53 = .ok (.iload_n 2, 1) := by decide +kernel
theorem dX9_key_54 : decode cX9_key 54 = .ok (.iconst 2, 1) := by decide +kernel
theorem dX9_key_55 : decode cX9_key 55 = .ok (.if_icmp .ne 11, 3) := by decide +kernel
theorem dX9_key_58 : decode cX9_key 58 = .ok (.aload_n 0, 1) := by decide +kernel
theorem dX9_key_59 : decode cX9_key 59 = .ok (.iload_n 1, 1) := by decide +kernel
theorem dX9_key_60 : decode cX9_key 60 = .ok (.invokevirtual 186, 3) := by decide +kernel
theorem dX9_key_63 : decode cX9_key 63 = .ok (.goto 5, 3) := by decide +kernel
theorem dX9_key_66 : decode cX9_key 66 = .ok (.ldc 171, 2) := by decide +kernel
theorem dX9_key_68 : decode cX9_key 68 = .ok (.ireturn, 1) := by decide +kernel
theorem dX9_at_0 : decode cX9_at 0 = .ok (.aload_n 0, 1) := by decide +kernel
theorem dX9_at_1 : decode cX9_at 1 = .ok (.iconst (-1), 1) := by decide +kernel
theorem dX9_at_2 : decode cX9_at 2 = .ok (.iconst 0, 1) := by decide +kernel
theorem dX9_at_3 : decode cX9_at 3 = .ok (.invokevirtual 140, 3) := by decide +kernel
theorem dX9_at_6 : decode cX9_at 6 = .ok (.istore_n 2, 1) := by decide +kernel
theorem dX9_at_7 : decode cX9_at 7 = .ok (.iconst 0, 1) := by decide +kernel
theorem dX9_at_8 : decode cX9_at 8 = .ok (.istore_n 3, 1) := by decide +kernel
theorem dX9_at_9 : decode cX9_at 9 = .ok (.iload_n 3, 1) := by decide +kernel
theorem dX9_at_10 : decode cX9_at 10 = .ok (.iload_n 1, 1) := by decide +kernel
theorem dX9_at_11 : decode cX9_at 11 = .ok (.if_icmp .ge 21, 3) := by decide +kernel
theorem dX9_at_14 : decode cX9_at 14 = .ok (.iload_n 2, 1) := by decide +kernel
theorem dX9_at_15 : decode cX9_at 15 = .ok (.iconst (-1), 1) := by decide +kernel
theorem dX9_at_16 : decode cX9_at 16 = .ok (.if_icmp .eq 16, 3) := by decide +kernel
theorem dX9_at_19 : decode cX9_at 19 = .ok (.aload_n 0, 1) := by decide +kernel
theorem dX9_at_20 : decode cX9_at 20 = .ok (.iload_n 2, 1) := by decide +kernel
theorem dX9_at_21 : decode cX9_at 21 = .ok (.iconst 0, 1) := by decide +kernel
theorem dX9_at_22 : decode cX9_at 22 = .ok (.invokevirtual 140, 3) := by decide +kernel
theorem dX9_at_25 : decode cX9_at 25 = .ok (.istore_n 2, 1) := by decide +kernel
theorem dX9_at_26 : decode cX9_at 26 = .ok (.iinc 3 1, 3) := by decide +kernel
theorem dX9_at_29 : decode cX9_at 29 = .ok (.goto (-20), 3) := by decide +kernel
theorem dX9_at_32 : decode cX9_at 32 = .ok (.iload_n 1, 1) := by decide +kernel
theorem dX9_at_33 : decode cX9_at 33 = .ok (.ifCond .ge 7, 3) := by decide +kernel
theorem dX9_at_36 : decode cX9_at 36 = .ok (.iconst (-1), 1) := by decide +kernel
theorem dX9_at_37 : decode cX9_at 37 = .ok (.goto 4, 3) := by decide +kernel
theorem dX9_at_40 : decode cX9_at 40 = .ok (.iload_n 2, 1) := by decide +kernel
theorem dX9_at_41 : decode cX9_at 41 = .ok (.ireturn, 1) := by decide +kernel
theorem dX9_save_0 : decode cX9_save 0 = .ok (.aload_n 0, 1) := by decide +kernel
theorem dX9_save_1 : decode cX9_save 1 = .ok (.getfield 167, 3) := by decide +kernel
theorem dX9_save_4 : decode cX9_save 4 = .ok (.bipush 12, 2) := by decide +kernel
theorem dX9_save_6 : decode cX9_save 6 = .ok (.if_icmp .ne 44, 3) := by decide +kernel
theorem dX9_save_9 : decode cX9_save 9 = .ok (.iconst 0, 1) := by decide +kernel
theorem dX9_save_10 : decode cX9_save 10 = .ok (.istore_n 1, 1) := by decide +kernel
theorem dX9_save_11 : decode cX9_save 11 = .ok (.iload_n 1, 1) := by decide +kernel
theorem dX9_save_12 : decode cX9_save 12 = .ok (.sipush 4048, 3) := by decide +kernel
theorem dX9_save_15 : decode cX9_save 15 = .ok (.if_icmp .ge 25, 3) := by decide +kernel
theorem dX9_save_18 : decode cX9_save 18 = .ok (.aload_n 0, 1) := by decide +kernel
theorem dX9_save_19 : decode cX9_save 19 = .ok (.getfield 13, 3) := by decide +kernel
theorem dX9_save_22 : decode cX9_save 22 = .ok (.iload_n 1, 1) := by decide +kernel
theorem dX9_save_23 : decode cX9_save 23 = .ok (.aload_n 0, 1) := by decide +kernel
theorem dX9_save_24 : decode cX9_save 24 = .ok (.getfield 13, 3) := by decide +kernel
theorem dX9_save_27 : decode cX9_save 27 = .ok (.iload_n 1, 1) := by decide +kernel
theorem dX9_save_28 : decode cX9_save 28 = .ok (.sipush 368, 3) := by decide +kernel
theorem dX9_save_31 : decode cX9_save 31 = .ok (.iadd, 1) := by decide +kernel
theorem dX9_save_32 : decode cX9_save 32 = .ok (.iaload, 1) := by decide +kernel
theorem dX9_save_33 : decode cX9_save 33 = .ok (.iastore, 1) := by decide +kernel
theorem dX9_save_34 : decode cX9_save 34 = .ok (.iinc 1 1, 3) := by decide +kernel
theorem dX9_save_37 : decode cX9_save 37 = .ok (.goto (-26), 3) := by decide +kernel
theorem dX9_save_40 : decode cX9_save 40 = .ok (.aload_n 0, 1) := by decide +kernel
theorem dX9_save_41 : decode cX9_save 41 = .ok (.dup, 1) := by decide +kernel
theorem dX9_save_42 : decode cX9_save 42 = .ok (.getfield 167, 3) := by decide +kernel
theorem dX9_save_45 : decode cX9_save 45 = .ok (.iconst 1, 1) := by decide +kernel
theorem dX9_save_46 : decode cX9_save 46 = .ok (.isub, 1) := by decide +kernel
theorem dX9_save_47 : decode cX9_save 47 = .ok (.putfield 167, 3) := by decide +kernel
theorem dX9_save_50 : decode cX9_save 50 = .ok (.iconst 0, 1) := by decide +kernel
theorem dX9_save_51 : decode cX9_save 51 = .ok (.istore_n 1, 1) := by decide +kernel
theorem dX9_save_52 : decode cX9_save 52 = .ok (.iload_n 1, 1) := by decide +kernel
theorem dX9_save_53 : decode cX9_save 53 = .ok (.sipush 368, 3) := by decide +kernel
theorem dX9_save_56 : decode cX9_save 56 = .ok (.if_icmp .ge 30, 3) := by decide +kernel
theorem dX9_save_59 : decode cX9_save 59 = .ok (.aload_n 0, 1) := by decide +kernel
theorem dX9_save_60 : decode cX9_save 60 = .ok (.getfield 13, 3) := by decide +kernel
theorem dX9_save_63 : decode cX9_save 63 = .ok (.sipush 368, 3) := by decide +kernel
theorem dX9_save_66 : decode cX9_save 66 = .ok (.aload_n 0, 1) := by decide +kernel
theorem dX9_save_67 : decode cX9_save 67 = .ok (.getfield 167, 3) := by decide +kernel
theorem dX9_save_70 : decode cX9_save 70 = .ok (.imul, 1) := by decide +kernel
theorem dX9_save_71 : decode cX9_save 71 = .ok (.iload_n 1, 1) := by decide +kernel
theorem dX9_save_72 : decode cX9_save 72 = .ok (.iadd, 1) := by decide +kernel
theorem dX9_save_73 : decode cX9_save 73 = .ok (.aload_n 0, 1) := by decide +kernel
theorem dX9_save_74 : decode cX9_save 74 = .ok (.getfield 7, 3) := by decide +kernel
theorem dX9_save_77 : decode cX9_save 77 = .ok (.iload_n 1, 1) := by decide +kernel
theorem dX9_save_78 : decode cX9_save 78 = .ok (.iaload, 1) := by decide +kernel
theorem dX9_save_79 : decode cX9_save 79 = .ok (.iastore, 1) := by decide +kernel
theorem dX9_save_80 : decode cX9_save 80 = .ok (.iinc 1 1, 3) := by decide +kernel
theorem dX9_save_83 : decode cX9_save 83 = .ok (.goto (-31), 3) := by decide +kernel
theorem dX9_save_86 : decode cX9_save 86 = .ok (.aload_n 0, 1) := by decide +kernel
theorem dX9_save_87 : decode cX9_save 87 = .ok (.dup, 1) := by decide +kernel
theorem dX9_save_88 : decode cX9_save 88 = .ok (.getfield 167, 3) := by decide +kernel
theorem dX9_save_91 : decode cX9_save 91 = .ok (.iconst 1, 1) := by decide +kernel
theorem dX9_save_92 : decode cX9_save 92 = .ok (.iadd, 1) := by decide +kernel
theorem dX9_save_93 : decode cX9_save 93 = .ok (.putfield 167, 3) := by decide +kernel
theorem dX9_save_96 : decode cX9_save 96 = .ok (.return_, 1) := by decide +kernel
theorem dX9_isKey_0 : decode cX9_isKey 0 = .ok (.iload_n 0, 1) := by decide +kernel
theorem dX9_isKey_1 : decode cX9_isKey 1 = .ok (.i2l, 1) := by decide +kernel
theorem dX9_isKey_2 : decode cX9_isKey 2 = .ok (.lconst 0, 1) := by decide +kernel
theorem dX9_isKey_3 : decode cX9_isKey 3 = .ok (.ldc2_w 189, 3) := by decide +kernel
theorem dX9_isKey_6 : decode cX9_isKey 6 = .ok (.invokestatic 172, 3) := by decide +kernel
theorem dX9_isKey_9 : decode cX9_isKey 9 = .ok (.ireturn, 1) := by decide +kernel
theorem dX9_isThere_0 : decode cX9_isThere 0 = .ok (.aload_n 0, 1) := by decide +kernel
theorem dX9_isThere_1 : decode cX9_isThere 1 = .ok (.iload_n 1, 1) := by decide +kernel
theorem dX9_isThere_2 : decode cX9_isThere 2 = .ok (.invokevirtual 134, 3) := by decide +kernel
theorem dX9_isThere_5 : decode cX9_isThere 5 = .ok (.iconst (-1), 1) := by decide +kernel
theorem dX9_isThere_6 : decode cX9_isThere 6 = .ok (.if_icmp .eq 7, 3) := by decide +kernel
theorem dX9_isThere_9 : decode cX9_isThere 9 = .ok (.iconst 1, 1) := by decide +kernel
theorem dX9_isThere_10 : decode cX9_isThere 10 = .ok (.goto 4, 3) := by decide +kernel
theorem dX9_isThere_13 : decode cX9_isThere 13 = .ok (.iconst 0, 1) := by decide +kernel
theorem dX9_isThere_14 : decode cX9_isThere 14 = .ok (.ireturn, 1) := by decide +kernel
theorem dX9_put_0 : decode cX9_put 0 = .ok (.iload_n 1, 1) := by decide +kernel
theorem dX9_put_1 : decode cX9_put 1 = .ok (.invokestatic 191, 3) := by decide +kernel
theorem dX9_put_4 : decode cX9_put 4 = .ok (.ifCond .eq 15, 3) := by decide +kernel
theorem dX9_put_7 : decode cX9_put 7 = .ok (.iload_n 2, 1) := by decide +kernel
theorem dX9_put_8 : decode cX9_put 8 = .ok (.i2l, 1) := by decide +kernel
theorem dX9_put_9 : decode cX9_put 9 = .ok (.lconst 0, 1) := by decide +kernel
theorem dX9_put_10 : decode cX9_put 10 = .ok (.ldc2_w 194, 3) := by decide +kernel
theorem dX9_put_13 : decode cX9_put 13 = .ok (.invokestatic 172, 3) := by decide +kernel
theorem dX9_put_16 : decode cX9_put 16 = .ok (.ifCond .ne 6, 3) := by decide +kernel
theorem dX9_put_19 : decode cX9_put 19 = .ok (.ldc 171, 2) := by decide +kernel
theorem dX9_put_21 : decode cX9_put 21 = .ok (.ireturn, 1) := by decide +kernel
theorem dX9_put_22 : decode cX9_put 22 = .ok (.aload_n 0, 1) := by decide +kernel
theorem dX9_put_23 : decode cX9_put 23 = .ok (.iload_n 1, 1) := by decide +kernel
theorem dX9_put_24 : decode cX9_put 24 = .ok (.invokevirtual 196, 3) := by decide +kernel
theorem dX9_put_27 : decode cX9_put 27 = .ok (.ifCond .eq 6, 3) := by decide +kernel
theorem dX9_put_30 : decode cX9_put 30 = .ok (.ldc 199, 2) := by decide +kernel
theorem dX9_put_32 : decode cX9_put 32 = .ok (.ireturn, 1) := by decide +kernel
theorem dX9_put_33 : decode cX9_put 33 = .ok (.aload_n 0, 1) := by decide +kernel
theorem dX9_put_34 : decode cX9_put 34 = .ok (.invokevirtual 128, 3) := by decide +kernel
theorem dX9_put_37 : decode cX9_put 37 = .ok (.bipush 60, 2) := by decide +kernel
theorem dX9_put_39 : decode cX9_put 39 = .ok (.if_icmp .ne 6, 3) := by decide +kernel
theorem dX9_put_42 : decode cX9_put 42 = .ok (.ldc 200, 2) := by decide +kernel
theorem dX9_put_44 : decode cX9_put 44 = .ok (.ireturn, 1) := by decide +kernel
theorem dX9_put_45 : decode cX9_put 45 = .ok (.aload_n 0, 1) := by decide +kernel
theorem dX9_put_46 : decode cX9_put 46 = .ok (.invokevirtual 201, 3) := by decide +kernel
theorem dX9_put_49 : decode cX9_put 49 = .ok (.aload_n 0, 1) := by decide +kernel
theorem dX9_put_50 : decode cX9_put 50 = .ok (.iload_n 1, 1) := by decide +kernel
theorem dX9_put_51 : decode cX9_put 51 = .ok (.iload_n 2, 1) := by decide +kernel
theorem dX9_put_52 : decode cX9_put 52 = .ok (.invokevirtual 204, 3) := by decide +kernel
theorem dX9_put_55 : decode cX9_put 55 = .ok (.aload_n 0, 1) := by decide +kernel
theorem dX9_put_56 : decode cX9_put 56 = .ok (.getfield 7, 3) := by decide +kernel
theorem dX9_put_59 : decode cX9_put 59 = .ok (.sipush 367, 3) := by decide +kernel
theorem dX9_put_62 : decode cX9_put 62 = .ok (.iaload, 1) := by decide +kernel
theorem dX9_put_63 : decode cX9_put 63 = .ok (.ireturn, 1) := by decide +kernel
theorem dX9_take_0 : decode cX9_take 0 = .ok (.iload_n 1, 1) := by decide +kernel
theorem dX9_take_1 : decode cX9_take 1 = .ok (.invokestatic 191, 3) := by decide +kernel
theorem dX9_take_4 : decode cX9_take 4 = .ok (.ifCond .ne 6, 3) := by decide +kernel
theorem dX9_take_7 : decode cX9_take 7 = .ok (.ldc 171, 2) := by decide +kernel
theorem dX9_take_9 : decode cX9_take 9 = .ok (.ireturn, 1) := by decide +kernel
theorem dX9_take_10 : decode cX9_take 10 = .ok (.aload_n 0, 1) := by decide +kernel
theorem dX9_take_11 : decode cX9_take 11 = .ok (.iload_n 1, 1) := by decide +kernel
theorem dX9_take_12 : decode cX9_take 12 = .ok (.invokevirtual 134, 3) := by decide +kernel
theorem dX9_take_15 : decode cX9_take 15 = .ok (.istore_n 2, 1) := by decide +kernel
theorem dX9_take_16 : decode cX9_take 16 = .ok (.iload_n 2, 1) := by decide +kernel
theorem dX9_take_17 : decode cX9_take 17 = .ok (.iconst (-1), 1) := by decide +kernel
theorem dX9_take_18 : decode cX9_take 18 = .ok (.if_icmp .ne 6, 3) := by decide +kernel
theorem dX9_take_21 : decode cX9_take 21 = .ok (.ldc 199, 2) := by decide +kernel
theorem dX9_take_23 : decode cX9_take 23 = .ok (.ireturn, 1) := by decide +kernel
theorem dX9_take_24 : decode cX9_take 24 = .ok (.aload_n 0, 1) := by decide +kernel
theorem dX9_take_25 : decode cX9_take 25 = .ok (.iload_n 2, 1) := by decide +kernel
theorem dX9_take_26 : decode cX9_take 26 = .ok (.iconst 1, 1) := by decide +kernel
theorem dX9_take_27 : decode cX9_take 27 = .ok (.invokevirtual 63, 3) := by decide +kernel
theorem dX9_take_30 : decode cX9_take 30 = .ok (.istore_n 3, 1) := by decide +kernel
theorem dX9_take_31 : decode cX9_take 31 = .ok (.aload_n 0, 1) := by decide +kernel
theorem dX9_take_32 : decode cX9_take 32 = .ok (.invokevirtual 201, 3) := by decide +kernel
theorem dX9_take_35 : decode cX9_take 35 = .ok (.aload_n 0, 1) := by decide +kernel
theorem dX9_take_36 : decode cX9_take 36 = .ok (.iload_n 2, 1) := by decide +kernel
theorem dX9_take_37 : decode cX9_take 37 = .ok (.invokevirtual 137, 3) := by decide +kernel
theorem dX9_take_40 : decode cX9_take 40 = .ok (.iload_n 3, 1) := by decide +kernel
theorem dX9_take_41 : decode cX9_take 41 = .ok (.ireturn, 1) := by decide +kernel
theorem dX9_worth_0 : decode cX9_worth 0 = .ok (.iload_n 1, 1) := by decide +kernel
theorem dX9_worth_1 : decode cX9_worth 1 = .ok (.ifCond .ge 7, 3) := by decide +kernel
theorem dX9_worth_4 : decode cX9_worth 4 = .ok (.iconst (-1), 1) := by decide +kernel
theorem dX9_worth_5 : decode cX9_worth 5 = .ok (.goto 8, 3) := by decide +kernel
theorem dX9_worth_8 : decode cX9_worth 8 = .ok (.aload_n 0, 1) := by decide +kernel
theorem dX9_worth_9 : decode cX9_worth 9 = .ok (.iload_n 1, 1) := by decide +kernel
theorem dX9_worth_10 : decode cX9_worth 10 = .ok (.invokevirtual 134, 3) := by decide +kernel
theorem dX9_worth_13 : decode cX9_worth 13 = .ok (.istore_n 3, 1) := by decide +kernel
theorem dX9_worth_14 : decode cX9_worth 14 = .ok (.iload_n 3, 1) := by decide +kernel
theorem dX9_worth_15 : decode cX9_worth 15 = .ok (.iconst (-1), 1) := by decide +kernel
theorem dX9_worth_16 : decode cX9_worth 16 = .ok (.if_icmp .ne 6, 3) := by decide +kernel
theorem dX9_worth_19 : decode cX9_worth 19 = .ok (.ldc 179, 2) := by decide +kernel
theorem dX9_worth_21 : decode cX9_worth 21 = .ok (.ireturn, 1) := by decide +kernel
theorem dX9_worth_22 : decode cX9_worth 22 = .ok (.iload_n 2, 1) := by decide +kernel
theorem dX9_worth_23 : decode cX9_worth 23 = .ok (.i2l, 1) := by decide +kernel
theorem dX9_worth_24 : decode cX9_worth 24 = .ok (.lconst 0, 1) := by decide +kernel
theorem dX9_worth_25 : decode cX9_worth 25 = .ok (.ldc2_w 194, 3) := by decide +kernel
theorem dX9_worth_28 : decode cX9_worth 28 = .ok (.invokestatic 172, 3) := by decide +kernel
theorem dX9_worth_31 : decode cX9_worth 31 = .ok (.ifCond .ne 6, 3) := by decide +kernel
theorem dX9_worth_34 : decode cX9_worth 34 = .ok (.ldc 171, 2) := by decide +kernel
theorem dX9_worth_36 : decode cX9_worth 36 = .ok (.ireturn, 1) := by decide +kernel
theorem dX9_worth_37 : decode cX9_worth 37 = .ok (.aload_n 0, 1) := by decide +kernel
theorem dX9_worth_38 : decode cX9_worth 38 = .ok (.iload_n 3, 1) := by decide +kernel
theorem dX9_worth_39 : decode cX9_worth 39 = .ok (.iconst 1, 1) := by decide +kernel
theorem dX9_worth_40 : decode cX9_worth 40 = .ok (.invokevirtual 63, 3) := by decide +kernel
theorem dX9_worth_43 : decode cX9_worth 43 = .ok (.istore 4, 2) := by decide +kernel
theorem dX9_worth_45 : decode cX9_worth 45 = .ok (.aload_n 0, 1) := by decide +kernel
theorem dX9_worth_46 : decode cX9_worth 46 = .ok (.invokevirtual 201, 3) := by decide +kernel
theorem dX9_worth_49 : decode cX9_worth 49 = .ok (.aload_n 0, 1) := by decide +kernel
theorem dX9_worth_50 : decode cX9_worth 50 = .ok (.iload_n 3, 1) := by decide +kernel
theorem dX9_worth_51 : decode cX9_worth 51 = .ok (.iconst 1, 1) := by decide +kernel
theorem dX9_worth_52 : decode cX9_worth 52 = .ok (.iload_n 2, 1) := by decide +kernel
theorem dX9_worth_53 : decode cX9_worth 53 = .ok (.invokevirtual 56, 3) := by decide +kernel
theorem dX9_worth_56 : decode cX9_worth 56 = .ok (.iload 4, 2) := by decide +kernel
theorem dX9_worth_58 : decode cX9_worth 58 = .ok (.ireturn, 1) := by decide +kernel
theorem dX9_cut_0 : decode cX9_cut 0 = .ok (.iload_n 1, 1) := by decide +kernel
theorem dX9_cut_1 : decode cX9_cut 1 = .ok (.i2l, 1) := by decide +kernel
theorem dX9_cut_2 : decode cX9_cut 2 = .ok (.lconst 0, 1) := by decide +kernel
theorem dX9_cut_3 : decode cX9_cut 3 = .ok (.ldc2_w 207, 3) := by decide +kernel
theorem dX9_cut_6 : decode cX9_cut 6 = .ok (.invokestatic 172, 3) := by decide +kernel
theorem dX9_cut_9 : decode cX9_cut 9 = .ok (.ifCond .ne 6, 3) := by decide +kernel
theorem dX9_cut_12 : decode cX9_cut 12 = .ok (.ldc 171, 2) := by decide +kernel
theorem dX9_cut_14 : decode cX9_cut 14 = .ok (.ireturn, 1) := by decide +kernel
theorem dX9_cut_15 : decode cX9_cut 15 = .ok (.iconst 0, 1) := by decide +kernel
theorem dX9_cut_16 : decode cX9_cut 16 = .ok (.istore_n 2, 1) := by decide +kernel
theorem dX9_cut_17 : decode cX9_cut 17 = .ok (.aload_n 0, 1) := by decide +kernel
theorem dX9_cut_18 : decode cX9_cut 18 = .ok (.invokevirtual 201, 3) := by decide +kernel
theorem dX9_cut_21 : decode cX9_cut 21 = .ok (.aload_n 0, 1) := by decide +kernel
theorem dX9_cut_22 : decode cX9_cut 22 = .ok (.iconst (-1), 1) := by decide +kernel
theorem dX9_cut_23 : decode cX9_cut 23 = .ok (.iconst 0, 1) := by decide +kernel
theorem dX9_cut_24 : decode cX9_cut 24 = .ok (.invokevirtual 140, 3) := by decide +kernel
theorem dX9_cut_27 : decode cX9_cut 27 = .ok (.istore_n 3, 1) := by decide +kernel
theorem dX9_cut_28 : decode cX9_cut 28 = .ok (.iload_n 3, 1) := by decide +kernel
theorem dX9_cut_29 : decode cX9_cut 29 = .ok (.iconst (-1), 1) := by decide +kernel
theorem dX9_cut_30 : decode cX9_cut 30 = .ok (.if_icmp .eq 30, 3) := by decide +kernel
theorem dX9_cut_33 : decode cX9_cut 33 = .ok (.iload_n 3, 1) := by decide +kernel
theorem dX9_cut_34 : decode cX9_cut 34 = .ok (.iload_n 1, 1) := by decide +kernel
theorem dX9_cut_35 : decode cX9_cut 35 = .ok (.if_icmp .ge 25, 3) := by decide +kernel
theorem dX9_cut_38 : decode cX9_cut 38 = .ok (.aload_n 0, 1) := by decide +kernel
theorem dX9_cut_39 : decode cX9_cut 39 = .ok (.aload_n 0, 1) := by decide +kernel
theorem dX9_cut_40 : decode cX9_cut 40 = .ok (.iload_n 3, 1) := by decide +kernel
theorem dX9_cut_41 : decode cX9_cut 41 = .ok (.invokevirtual 134, 3) := by decide +kernel
theorem dX9_cut_44 : decode cX9_cut 44 = .ok (.invokevirtual 137, 3) := by decide +kernel
theorem dX9_cut_47 : decode cX9_cut 47 = .ok (.iinc 2 1, 3) := by decide +kernel
theorem dX9_cut_50 : decode cX9_cut 50 = .ok (.aload_n 0, 1) := by decide +kernel
theorem dX9_cut_51 : decode cX9_cut 51 = .ok (.iconst (-1), 1) := by decide +kernel
theorem dX9_cut_52 : decode cX9_cut 52 = .ok (.iconst 0, 1) := by decide +kernel
theorem dX9_cut_53 : decode cX9_cut 53 = .ok (.invokevirtual 140, 3) := by decide +kernel
theorem dX9_cut_56 : decode cX9_cut 56 = .ok (.istore_n 3, 1) := by decide +kernel
theorem dX9_cut_57 : decode cX9_cut 57 = .ok (.goto (-29), 3) := by decide +kernel
theorem dX9_cut_60 : decode cX9_cut 60 = .ok (.iload_n 2, 1) := by decide +kernel
theorem dX9_cut_61 : decode cX9_cut 61 = .ok (.ireturn, 1) := by decide +kernel
theorem dX9_comes_0 : decode cX9_comes 0 = .ok (.iload_n 1, 1) := by decide +kernel
theorem dX9_comes_1 : decode cX9_comes 1 = .ok (.invokestatic 191, 3) := by decide +kernel
theorem dX9_comes_4 : decode cX9_comes 4 = .ok (.ifCond .eq 24, 3) := by decide +kernel
theorem dX9_comes_7 : decode cX9_comes 7 = .ok (.aload_n 0, 1) := by decide +kernel
theorem dX9_comes_8 : decode cX9_comes 8 = .ok (.iload_n 1, 1) := by decide +kernel
theorem dX9_comes_9 : decode cX9_comes 9 = .ok (.invokevirtual 196, 3) := by decide +kernel
theorem dX9_comes_12 : decode cX9_comes 12 = .ok (.ifCond .ne 16, 3) := by decide +kernel
theorem dX9_comes_15 : decode cX9_comes 15 = .ok (.aload_n 0, 1) := by decide +kernel
theorem dX9_comes_16 : decode cX9_comes 16 = .ok (.invokevirtual 128, 3) := by decide +kernel
theorem dX9_comes_19 : decode cX9_comes 19 = .ok (.bipush 60, 2) := by decide +kernel
theorem dX9_comes_21 : decode cX9_comes 21 = .ok (.if_icmp .ge 7, 3) := by decide +kernel
theorem dX9_comes_24 : decode cX9_comes 24 = .ok (.iconst 1, 1) := by decide +kernel
theorem dX9_comes_25 : decode cX9_comes 25 = .ok (.goto 4, 3) := by decide +kernel
theorem dX9_comes_28 : decode cX9_comes 28 = .ok (.iconst 0, 1) := by decide +kernel
theorem dX9_comes_29 : decode cX9_comes 29 = .ok (.istore_n 3, 1) := by decide +kernel
theorem dX9_comes_30 : decode cX9_comes 30 = .ok (.iload_n 3, 1) := by decide +kernel
theorem dX9_comes_31 : decode cX9_comes 31 = .ok (.ifCond .eq 9, 3) := by decide +kernel
theorem dX9_comes_34 : decode cX9_comes 34 = .ok (.aload_n 0, 1) := by decide +kernel
theorem dX9_comes_35 : decode cX9_comes 35 = .ok (.iload_n 1, 1) := by decide +kernel
theorem dX9_comes_36 : decode cX9_comes 36 = .ok (.iload_n 2, 1) := by decide +kernel
theorem dX9_comes_37 : decode cX9_comes 37 = .ok (.invokevirtual 204, 3) := by decide +kernel
theorem dX9_comes_40 : decode cX9_comes 40 = .ok (.iload_n 3, 1) := by decide +kernel
theorem dX9_comes_41 : decode cX9_comes 41 = .ok (.ireturn, 1) := by decide +kernel
theorem dX9_batch_0 : decode cX9_batch 0 = .ok (.iload_n 1, 1) := by decide +kernel
theorem dX9_batch_1 : decode cX9_batch 1 = .ok (.i2l, 1) := by decide +kernel
theorem dX9_batch_2 : decode cX9_batch 2 = .ok (.lconst 1, 1) := by decide +kernel
theorem dX9_batch_3 : decode cX9_batch 3 = .ok (.ldc2_w 209, 3) := by decide +kernel
theorem dX9_batch_6 : decode cX9_batch 6 = .ok (.invokestatic 172, 3) := by decide +kernel
theorem dX9_batch_9 : decode cX9_batch 9 = .ok (.ifCond .eq 22, 3) := by decide +kernel
theorem dX9_batch_12 : decode cX9_batch 12 = .ok (.iload_n 2, 1) := by decide +kernel
theorem dX9_batch_13 : decode cX9_batch 13 = .ok (.invokestatic 191, 3) := by decide +kernel
theorem dX9_batch_16 : decode cX9_batch 16 = .ok (.ifCond .eq 15, 3) := by decide +kernel
theorem dX9_batch_19 : decode cX9_batch 19 = .ok (.iload_n 3, 1) := by decide +kernel
theorem dX9_batch_20 : decode cX9_batch 20 = .ok (.i2l, 1) := by decide +kernel
theorem dX9_batch_21 : decode cX9_batch 21 = .ok (.lconst 1, 1) := by decide +kernel
theorem dX9_batch_22 : decode cX9_batch 22 = .ok (.ldc2_w 194, 3) := by decide +kernel
theorem dX9_batch_25 : decode cX9_batch 25 = .ok (.invokestatic 172, 3) := by decide +kernel
theorem dX9_batch_28 : decode cX9_batch 28 = .ok (.ifCond .ne 6, 3) := by decide +kernel
theorem dX9_batch_31 : decode cX9_batch 31 = .ok (.ldc 171, 2) := by decide +kernel
theorem dX9_batch_33 : decode cX9_batch 33 = .ok (.ireturn, 1) := by decide +kernel
theorem dX9_batch_34 : decode cX9_batch 34 = .ok (.iconst 0, 1) := by decide +kernel
theorem dX9_batch_35 : decode cX9_batch 35 = .ok (.istore 4, 2) := by decide +kernel
theorem dX9_batch_37 : decode cX9_batch 37 = .ok (.aload_n 0, 1) := by decide +kernel
theorem dX9_batch_38 : decode cX9_batch 38 = .ok (.invokevirtual 201, 3) := by decide +kernel
theorem dX9_batch_41 : decode cX9_batch 41 = .ok (.iconst 0, 1) := by decide +kernel
theorem dX9_batch_42 : decode cX9_batch 42 = .ok (.istore 5, 2) := by decide +kernel
theorem dX9_batch_44 : decode cX9_batch 44 = .ok (.iload 5, 2) := by decide +kernel
theorem dX9_batch_46 : decode cX9_batch 46 = .ok (.iload_n 1, 1) := by decide +kernel
theorem dX9_batch_47 : decode cX9_batch 47 = .ok (.if_icmp .ge 33, 3) := by decide +kernel
theorem dX9_batch_50 : decode cX9_batch 50 = .ok (.iload 4, 2) := by decide +kernel
theorem dX9_batch_52 : decode cX9_batch 52 = .ok (.aload_n 0, 1) := by decide +kernel
theorem dX9_batch_53 : decode cX9_batch 53 = .ok (.iload_n 2, 1) := by decide +kernel
theorem dX9_batch_54 : decode cX9_batch 54 = .ok (.iload 5, 2) := by decide +kernel
theorem dX9_batch_56 : decode cX9_batch 56 = .ok (.iload_n 3, 1) := by decide +kernel
theorem dX9_batch_57 : decode cX9_batch 57 = .ok (.imul, 1) := by decide +kernel
theorem dX9_batch_58 : decode cX9_batch 58 = .ok (.iadd, 1) := by decide +kernel
theorem dX9_batch_59 : decode cX9_batch 59 = .ok (.iconst 1, 1) := by decide +kernel
theorem dX9_batch_60 : decode cX9_batch 60 = .ok (.invokevirtual 211, 3) := by decide +kernel
theorem dX9_batch_63 : decode cX9_batch 63 = .ok (.ifCond .eq 7, 3) := by decide +kernel
theorem dX9_batch_66 : decode cX9_batch 66 = .ok (.iconst 1, 1) := by decide +kernel
theorem dX9_batch_67 : decode cX9_batch 67 = .ok (.goto 4, 3) := by decide +kernel
theorem dX9_batch_70 : decode cX9_batch 70 = .ok (.iconst 0, 1) := by decide +kernel
theorem dX9_batch_71 : decode cX9_batch 71 = .ok (.iadd, 1) := by decide +kernel
theorem dX9_batch_72 : decode cX9_batch 72 = .ok (.istore 4, 2) := by decide +kernel
theorem dX9_batch_74 : decode cX9_batch 74 = .ok (.iinc 5 1, 3) := by decide +kernel
theorem dX9_batch_77 : decode cX9_batch 77 = .ok (.goto (-33), 3) := by decide +kernel
theorem dX9_batch_80 : decode cX9_batch 80 = .ok (.iload 4, 2) := by decide +kernel
theorem dX9_batch_82 : decode cX9_batch 82 = .ok (.ireturn, 1) := by decide +kernel
theorem dX9_rebuild_0 : decode cX9_rebuild 0 = .ok (.aload_n 0, 1) := by decide +kernel
theorem dX9_rebuild_1 : decode cX9_rebuild 1 = .ok (.invokevirtual 128, 3) := by decide +kernel
theorem dX9_rebuild_4 : decode cX9_rebuild 4 = .ok (.istore_n 1, 1) := by decide +kernel
theorem dX9_rebuild_5 : decode cX9_rebuild 5 = .ok (.aload_n 0, 1) := by decide +kernel
theorem dX9_rebuild_6 : decode cX9_rebuild 6 = .ok (.invokevirtual 201, 3) := by decide +kernel
theorem dX9_rebuild_9 : decode cX9_rebuild 9 = .ok (.aload_n 0, 1) := by decide +kernel
theorem dX9_rebuild_10 : decode cX9_rebuild 10 = .ok (.iconst (-1), 1) := by decide +kernel
theorem dX9_rebuild_11 : decode cX9_rebuild 11 = .ok (.iconst 0, 1) := by decide +kernel
theorem dX9_rebuild_12 : decode cX9_rebuild 12 = .ok (.invokevirtual 140, 3) := by decide +kernel
theorem dX9_rebuild_15 : decode cX9_rebuild 15 = .ok (.istore_n 2, 1) := by decide +kernel
theorem dX9_rebuild_16 : decode cX9_rebuild 16 = .ok (.iconst 0, 1) := by decide +kernel
theorem dX9_rebuild_17 : decode cX9_rebuild 17 = .ok (.istore_n 3, 1) := by decide +kernel
theorem dX9_rebuild_18 : decode cX9_rebuild 18 = .ok (.iload_n 3, 1) := by decide +kernel
theorem dX9_rebuild_19 : decode cX9_rebuild 19 = .ok (.iload_n 1, 1) := by decide +kernel
theorem dX9_rebuild_20 : decode cX9_rebuild 20 = .ok (.if_icmp .ge 39, 3) := by decide +kernel
theorem dX9_rebuild_23 : decode cX9_rebuild 23 = .ok (.aload_n 0, 1) := by decide +kernel
theorem dX9_rebuild_24 : decode cX9_rebuild 24 = .ok (.getfield 47, 3) := by decide +kernel
theorem dX9_rebuild_27 : decode cX9_rebuild 27 = .ok (.iload_n 3, 1) := by decide +kernel
theorem dX9_rebuild_28 : decode cX9_rebuild 28 = .ok (.iload_n 2, 1) := by decide +kernel
theorem dX9_rebuild_29 : decode cX9_rebuild 29 = .ok (.iastore, 1) := by decide +kernel
theorem dX9_rebuild_30 : decode cX9_rebuild 30 = .ok (.aload_n 0, 1) := by decide +kernel
theorem dX9_rebuild_31 : decode cX9_rebuild 31 = .ok (.getfield 50, 3) := by decide +kernel
theorem dX9_rebuild_34 : decode cX9_rebuild 34 = .ok (.iload_n 3, 1) := by decide +kernel
theorem dX9_rebuild_35 : decode cX9_rebuild 35 = .ok (.aload_n 0, 1) := by decide +kernel
theorem dX9_rebuild_36 : decode cX9_rebuild 36 = .ok (.aload_n 0, 1) := by decide +kernel
theorem dX9_rebuild_37 : decode cX9_rebuild 37 = .ok (.iload_n 2, 1) := by decide +kernel
theorem dX9_rebuild_38 : decode cX9_rebuild 38 = .ok (.invokevirtual 134, 3) := by decide +kernel
theorem dX9_rebuild_41 : decode cX9_rebuild 41 = .ok (.iconst 1, 1) := by decide +kernel
theorem dX9_rebuild_42 : decode cX9_rebuild 42 = .ok (.invokevirtual 63, 3) := by decide +kernel
theorem dX9_rebuild_45 : decode cX9_rebuild 45 = .ok (.iastore, 1) := by decide +kernel
theorem dX9_rebuild_46 : decode cX9_rebuild 46 = .ok (.aload_n 0, 1) := by decide +kernel
theorem dX9_rebuild_47 : decode cX9_rebuild 47 = .ok (.iload_n 2, 1) := by decide +kernel
theorem dX9_rebuild_48 : decode cX9_rebuild 48 = .ok (.iconst 0, 1) := by decide +kernel
theorem dX9_rebuild_49 : decode cX9_rebuild 49 = .ok (.invokevirtual 140, 3) := by decide +kernel
theorem dX9_rebuild_52 : decode cX9_rebuild 52 = .ok (.istore_n 2, 1) := by decide +kernel
theorem dX9_rebuild_53 : decode cX9_rebuild 53 = .ok (.iinc 3 1, 3) := by decide +kernel
theorem dX9_rebuild_56 : decode cX9_rebuild 56 = .ok (.goto (-38), 3) := by decide +kernel
theorem dX9_rebuild_59 : decode cX9_rebuild 59 = .ok (.aload_n 0, 1) := by decide +kernel
theorem dX9_rebuild_60 : decode cX9_rebuild 60 = .ok (.invokevirtual 60, 3) := by decide +kernel
theorem dX9_rebuild_63 : decode cX9_rebuild 63 = .ok (.iconst 0, 1) := by decide +kernel
theorem dX9_rebuild_64 : decode cX9_rebuild 64 = .ok (.istore_n 3, 1) := by decide +kernel
theorem dX9_rebuild_65 : decode cX9_rebuild 65 = .ok (.iload_n 3, 1) := by decide +kernel
theorem dX9_rebuild_66 : decode cX9_rebuild 66 = .ok (.iload_n 1, 1) := by decide +kernel
theorem dX9_rebuild_67 : decode cX9_rebuild 67 = .ok (.if_icmp .ge 25, 3) := by decide +kernel
theorem dX9_rebuild_70 : decode cX9_rebuild 70 = .ok (.aload_n 0, 1) := by decide +kernel
theorem dX9_rebuild_71 : decode cX9_rebuild 71 = .ok (.aload_n 0, 1) := by decide +kernel
theorem dX9_rebuild_72 : decode cX9_rebuild 72 = .ok (.getfield 47, 3) := by decide +kernel
theorem dX9_rebuild_75 : decode cX9_rebuild 75 = .ok (.iload_n 3, 1) := by decide +kernel
theorem dX9_rebuild_76 : decode cX9_rebuild 76 = .ok (.iaload, 1) := by decide +kernel
theorem dX9_rebuild_77 : decode cX9_rebuild 77 = .ok (.aload_n 0, 1) := by decide +kernel
theorem dX9_rebuild_78 : decode cX9_rebuild 78 = .ok (.getfield 50, 3) := by decide +kernel
theorem dX9_rebuild_81 : decode cX9_rebuild 81 = .ok (.iload_n 3, 1) := by decide +kernel
theorem dX9_rebuild_82 : decode cX9_rebuild 82 = .ok (.iaload, 1) := by decide +kernel
theorem dX9_rebuild_83 : decode cX9_rebuild 83 = .ok (.invokevirtual 204, 3) := by decide +kernel
theorem dX9_rebuild_86 : decode cX9_rebuild 86 = .ok (.iinc 3 1, 3) := by decide +kernel
theorem dX9_rebuild_89 : decode cX9_rebuild 89 = .ok (.goto (-24), 3) := by decide +kernel
theorem dX9_rebuild_92 : decode cX9_rebuild 92 = .ok (.aload_n 0, 1) := by decide +kernel
theorem dX9_rebuild_93 : decode cX9_rebuild 93 = .ok (.invokevirtual 149, 3) := by decide +kernel
theorem dX9_rebuild_96 : decode cX9_rebuild 96 = .ok (.ireturn, 1) := by decide +kernel
theorem dX9_nextInImage_0 : decode cX9_nextInImage 0 = .ok (.iconst (-1), 1) := by decide +kernel
theorem dX9_nextInImage_1 : decode cX9_nextInImage 1 = .ok (.istore_n 3, 1) := by decide +kernel
theorem dX9_nextInImage_2 : decode cX9_nextInImage 2 = .ok (.iconst 0, 1) := by decide +kernel
theorem dX9_nextInImage_3 : decode cX9_nextInImage 3 = .ok (.istore 4, 2) := by decide +kernel
theorem dX9_nextInImage_5 : decode cX9_nextInImage 5 = .ok (.iload 4, 2) := by decide +kernel
theorem dX9_nextInImage_7 : decode cX9_nextInImage 7 = .ok (.bipush 60, 2) := by decide +kernel
theorem dX9_nextInImage_9 : decode cX9_nextInImage 9 = .ok (.if_icmp .ge 77, 3) := by decide +kernel
theorem dX9_nextInImage_12 : decode cX9_nextInImage 12 = .ok (.aload_n 0, 1) := by decide +kernel
theorem dX9_nextInImage_13 : decode cX9_nextInImage 13 = .ok (.getfield 16, 3) := by decide +kernel
theorem dX9_nextInImage_16 : decode cX9_nextInImage 16 = .ok (.sipush 368, 3) := by decide +kernel
theorem dX9_nextInImage_19 : decode cX9_nextInImage 19 = .ok (.iload_n 1, 1) := by decide +kernel
theorem dX9_nextInImage_20 : decode cX9_nextInImage 20 = .ok (.imul, 1) := by decide +kernel
theorem dX9_nextInImage_21 : decode cX9_nextInImage 21 = .ok (.bipush 6, 2) := by decide +kernel
theorem dX9_nextInImage_23 : decode cX9_nextInImage 23 = .ok (.iload 4, 2) := by decide +kernel
theorem dX9_nextInImage_25 : decode cX9_nextInImage 25 = .ok (.imul, 1) := by decide +kernel
theorem dX9_nextInImage_26 : decode cX9_nextInImage 26 = .ok (.iadd, 1) := by decide +kernel
theorem dX9_nextInImage_27 : decode cX9_nextInImage 27 = .ok (.iaload, 1) := by decide +kernel
theorem dX9_nextInImage_28 : decode cX9_nextInImage 28 = .ok (.istore 5, 2) := by decide +kernel
theorem dX9_nextInImage_30 : decode cX9_nextInImage 30 = .ok (.iload 5, 2) := by decide +kernel
theorem dX9_nextInImage_32 : decode cX9_nextInImage 32 = .ok (.iload_n 2, 1) := by decide +kernel
theorem dX9_nextInImage_33 : decode cX9_nextInImage 33 = .ok (.if_icmp .le 32, 3) := by decide +kernel
theorem dX9_nextInImage_36 : decode cX9_nextInImage 36 = .ok (.iload_n 3, 1) := by decide +kernel
theorem dX9_nextInImage_37 : decode cX9_nextInImage 37 = .ok (.iconst (-1), 1) := by decide +kernel
theorem dX9_nextInImage_38 : decode cX9_nextInImage 38 = .ok (.if_icmp .eq 23, 3) := by decide +kernel
theorem dX9_nextInImage_41 : decode cX9_nextInImage 41 = .ok (.iload 5, 2) := by decide +kernel
theorem dX9_nextInImage_43 : decode cX9_nextInImage 43 = .ok (.aload_n 0, 1) := by decide +kernel
theorem dX9_nextInImage_44 : decode cX9_nextInImage 44 = .ok (.getfield 16, 3) := by decide +kernel
theorem dX9_nextInImage_47 : decode cX9_nextInImage 47 = .ok (.sipush 368, 3) := by decide +kernel
theorem dX9_nextInImage_50 : decode cX9_nextInImage 50 = .ok (.iload_n 1, 1) := by decide +kernel
theorem dX9_nextInImage_51 : decode cX9_nextInImage 51 = .ok (.imul, 1) := by decide +kernel
theorem dX9_nextInImage_52 : decode cX9_nextInImage 52 = .ok (.bipush 6, 2) := by decide +kernel
theorem dX9_nextInImage_54 : decode cX9_nextInImage 54 = .ok (.iload_n 3, 1) := by decide +kernel
theorem dX9_nextInImage_55 : decode cX9_nextInImage 55 = .ok (.imul, 1) := by decide +kernel
theorem dX9_nextInImage_56 : decode cX9_nextInImage 56 = .ok (.iadd, 1) := by decide +kernel
theorem dX9_nextInImage_57 : decode cX9_nextInImage 57 = .ok (.iaload, 1) := by decide +kernel
theorem dX9_nextInImage_58 : decode cX9_nextInImage 58 = .ok (.if_icmp .ge 7, 3) := by decide +kernel
theorem dX9_nextInImage_61 : decode cX9_nextInImage 61 = .ok (.iconst 1, 1) := by decide +kernel
theorem dX9_nextInImage_62 : decode cX9_nextInImage 62 = .ok (.goto 4, 3) := by decide +kernel
theorem dX9_nextInImage_65 : decode cX9_nextInImage 65 = .ok (.iconst 0, 1) := by decide +kernel
theorem dX9_nextInImage_66 : decode cX9_nextInImage 66 = .ok (.istore 6, 2) := by decide +kernel
theorem dX9_nextInImage_68 : decode cX9_nextInImage 68 = .ok (.iload 6, 2) := by decide +kernel
theorem dX9_nextInImage_70 : decode cX9_nextInImage 70 = .ok (.ifCond .eq 8, 3) := by decide +kernel
theorem dX9_nextInImage_73 : decode cX9_nextInImage 73 = .ok (.iload 4, 2) := by decide +kernel
theorem dX9_nextInImage_75 : decode cX9_nextInImage 75 = .ok (.goto 4, 3) := by decide +kernel
theorem dX9_nextInImage_78 : decode cX9_nextInImage 78 = .ok (.iload_n 3, 1) := by decide +kernel
theorem dX9_nextInImage_79 : decode cX9_nextInImage 79 = .ok (.istore_n 3, 1) := by decide +kernel
theorem dX9_nextInImage_80 : decode cX9_nextInImage 80 = .ok (.iinc 4 1, 3) := by decide +kernel
theorem dX9_nextInImage_83 : decode cX9_nextInImage 83 = .ok (.goto (-78), 3) := by decide +kernel
theorem dX9_nextInImage_86 : decode cX9_nextInImage 86 = .ok (.iload_n 3, 1) := by decide +kernel
theorem dX9_nextInImage_87 : decode cX9_nextInImage 87 = .ok (.ireturn, 1) := by decide +kernel
theorem dX9_join_0 : decode cX9_join 0 = .ok (.iload_n 1, 1) := by decide +kernel
theorem dX9_join_1 : decode cX9_join 1 = .ok (.i2l, 1) := by decide +kernel
theorem dX9_join_2 : decode cX9_join 2 = .ok (.lconst 0, 1) := by decide +kernel
theorem dX9_join_3 : decode cX9_join 3 = .ok (.lconst 1, 1) := by decide +kernel
theorem dX9_join_4 : decode cX9_join 4 = .ok (.invokestatic 172, 3) := by decide +kernel
theorem dX9_join_7 : decode cX9_join 7 = .ok (.ifCond .ne 6, 3) := by decide +kernel
theorem dX9_join_10 : decode cX9_join 10 = .ok (.ldc 179, 2) := by decide +kernel
theorem dX9_join_12 : decode cX9_join 12 = .ok (.ireturn, 1) := by decide +kernel
theorem dX9_join_13 : decode cX9_join 13 = .ok (.aload_n 0, 1) := by decide +kernel
theorem dX9_join_14 : decode cX9_join 14 = .ok (.getfield 22, 3) := by decide +kernel
theorem dX9_join_17 : decode cX9_join 17 = .ok (.iload_n 1, 1) := by decide +kernel
theorem dX9_join_18 : decode cX9_join 18 = .ok (.baload, 1) := by decide +kernel
theorem dX9_join_19 : decode cX9_join 19 = .ok (.ifCond .ne 6, 3) := by decide +kernel
theorem dX9_join_22 : decode cX9_join 22 = .ok (.ldc 199, 2) := by decide +kernel
theorem dX9_join_24 : decode cX9_join 24 = .ok (.ireturn, 1) := by decide +kernel
theorem dX9_join_25 : decode cX9_join 25 = .ok (.iconst 0, 1) := by decide +kernel
theorem dX9_join_26 : decode cX9_join 26 = .ok (.istore_n 2, 1) := by decide +kernel
theorem dX9_join_27 : decode cX9_join 27 = .ok (.aload_n 0, 1) := by decide +kernel
theorem dX9_join_28 : decode cX9_join 28 = .ok (.invokevirtual 201, 3) := by decide +kernel
theorem dX9_join_31 : decode cX9_join 31 = .ok (.aload_n 0, 1) := by decide +kernel
theorem dX9_join_32 : decode cX9_join 32 = .ok (.iload_n 1, 1) := by decide +kernel
theorem dX9_join_33 : decode cX9_join 33 = .ok (.aload_n 0, 1) := by decide +kernel
theorem dX9_join_34 : decode cX9_join 34 = .ok (.ldc 214, 2) := by decide +kernel
theorem dX9_join_36 : decode cX9_join 36 = .ok (.iconst 1, 1) := by decide +kernel
theorem dX9_join_37 : decode cX9_join 37 = .ok (.invokevirtual 140, 3) := by decide +kernel
theorem dX9_join_40 : decode cX9_join 40 = .ok (.invokevirtual 215, 3) := by decide +kernel
theorem dX9_join_43 : decode cX9_join 43 = .ok (.istore_n 3, 1) := by decide +kernel
theorem dX9_join_44 : decode cX9_join 44 = .ok (.iload_n 3, 1) := by decide +kernel
theorem dX9_join_45 : decode cX9_join 45 = .ok (.iconst (-1), 1) := by decide +kernel
theorem dX9_join_46 : decode cX9_join 46 = .ok (.if_icmp .eq 65, 3) := by decide +kernel
theorem dX9_join_49 : decode cX9_join 49 = .ok (.aload_n 0, 1) := by decide +kernel
theorem dX9_join_50 : decode cX9_join 50 = .ok (.getfield 16, 3) := by decide +kernel
theorem dX9_join_53 : decode cX9_join 53 = .ok (.sipush 368, 3) := by decide +kernel
theorem dX9_join_56 : decode cX9_join 56 = .ok (.iload_n 1, 1) := by decide +kernel
theorem dX9_join_57 : decode cX9_join 57 = .ok (.imul, 1) := by decide +kernel
theorem dX9_join_58 : decode cX9_join 58 = .ok (.bipush 6, 2) := by decide +kernel
theorem dX9_join_60 : decode cX9_join 60 = .ok (.iload_n 3, 1) := by decide +kernel
theorem dX9_join_61 : decode cX9_join 61 = .ok (.imul, 1) := by decide +kernel
theorem dX9_join_62 : decode cX9_join 62 = .ok (.iadd, 1) := by decide +kernel
theorem dX9_join_63 : decode cX9_join 63 = .ok (.iaload, 1) := by decide +kernel
theorem dX9_join_64 : decode cX9_join 64 = .ok (.istore 4, 2) := by decide +kernel
theorem dX9_join_66 : decode cX9_join 66 = .ok (.iload_n 2, 1) := by decide +kernel
theorem dX9_join_67 : decode cX9_join 67 = .ok (.aload_n 0, 1) := by decide +kernel
theorem dX9_join_68 : decode cX9_join 68 = .ok (.iload 4, 2) := by decide +kernel
theorem dX9_join_70 : decode cX9_join 70 = .ok (.aload_n 0, 1) := by decide +kernel
theorem dX9_join_71 : decode cX9_join 71 = .ok (.getfield 16, 3) := by decide +kernel
theorem dX9_join_74 : decode cX9_join 74 = .ok (.sipush 368, 3) := by decide +kernel
theorem dX9_join_77 : decode cX9_join 77 = .ok (.iload_n 1, 1) := by decide +kernel
theorem dX9_join_78 : decode cX9_join 78 = .ok (.imul, 1) := by decide +kernel
theorem dX9_join_79 : decode cX9_join 79 = .ok (.bipush 6, 2) := by decide +kernel
theorem dX9_join_81 : decode cX9_join 81 = .ok (.iload_n 3, 1) := by decide +kernel
theorem dX9_join_82 : decode cX9_join 82 = .ok (.imul, 1) := by decide +kernel
end
section
theorem dX9_join_83 : decode cX9_join 83 = .ok (.iadd, 1) := by decide +kernel
theorem dX9_join_84 : decode cX9_join 84 = .ok (.iconst 1, 1) := by decide +kernel
theorem dX9_join_85 : decode cX9_join 85 = .ok (.iadd, 1) := by decide +kernel
theorem dX9_join_86 : decode cX9_join 86 = .ok (.iaload, 1) := by decide +kernel
theorem dX9_join_87 : decode cX9_join 87 = .ok (.invokevirtual 211, 3) := by decide +kernel
theorem dX9_join_90 : decode cX9_join 90 = .ok (.ifCond .eq 7, 3) := by decide +kernel
theorem dX9_join_93 : decode cX9_join 93 = .ok (.iconst 1, 1) := by decide +kernel
theorem dX9_join_94 : decode cX9_join 94 = .ok (.goto 4, 3) := by decide +kernel
theorem dX9_join_97 : decode cX9_join 97 = .ok (.iconst 0, 1) := by decide +kernel
theorem dX9_join_98 : decode cX9_join 98 = .ok (.iadd, 1) := by decide +kernel
theorem dX9_join_99 : decode cX9_join 99 = .ok (.istore_n 2, 1) := by decide +kernel
theorem dX9_join_100 : decode cX9_join 100 = .ok (.aload_n 0, 1) := by decide +kernel
theorem dX9_join_101 : decode cX9_join 101 = .ok (.iload_n 1, 1) := by decide +kernel
theorem dX9_join_102 : decode cX9_join 102 = .ok (.iload 4, 2) := by decide +kernel
theorem dX9_join_104 : decode cX9_join 104 = .ok (.invokevirtual 215, 3) := by decide +kernel
theorem dX9_join_107 : decode cX9_join 107 = .ok (.istore_n 3, 1) := by decide +kernel
theorem dX9_join_108 : decode cX9_join 108 = .ok (.goto (-64), 3) := by decide +kernel
theorem dX9_join_111 : decode cX9_join 111 = .ok (.iload_n 2, 1) := by decide +kernel
theorem dX9_join_112 : decode cX9_join 112 = .ok (.ireturn, 1) := by decide +kernel
theorem dX9_draw_0 : decode cX9_draw 0 = .ok (.aload_n 0, 1) := by decide +kernel
theorem dX9_draw_1 : decode cX9_draw 1 = .ok (.aload_n 0, 1) := by decide +kernel
theorem dX9_draw_2 : decode cX9_draw 2 = .ok (.getfield 218, 3) := by decide +kernel
theorem dX9_draw_5 : decode cX9_draw 5 = .ok (.i2l, 1) := by decide +kernel
theorem dX9_draw_6 : decode cX9_draw 6 = .ok (.ldc2_w 221, 3) := by decide +kernel
theorem dX9_draw_9 : decode cX9_draw 9 = .ok (.lmul, 1) := by decide +kernel
theorem dX9_draw_10 : decode cX9_draw 10 = .ok (.ldc2_w 223, 3) := by decide +kernel
theorem dX9_draw_13 : decode cX9_draw 13 = .ok (.ladd, 1) := by decide +kernel
theorem dX9_draw_14 : decode cX9_draw 14 = .ok (.ldc2_w 225, 3) := by decide +kernel
theorem dX9_draw_17 : decode cX9_draw 17 = .ok (.lrem, 1) := by decide +kernel
theorem dX9_draw_18 : decode cX9_draw 18 = .ok (.l2i, 1) := by decide +kernel
theorem dX9_draw_19 : decode cX9_draw 19 = .ok (.putfield 218, 3) := by decide +kernel
theorem dX9_draw_22 : decode cX9_draw 22 = .ok (.aload_n 0, 1) := by decide +kernel
theorem dX9_draw_23 : decode cX9_draw 23 = .ok (.getfield 218, 3) := by decide +kernel
theorem dX9_draw_26 : decode cX9_draw 26 = .ok (.ldc 227, 2) := by decide +kernel
theorem dX9_draw_28 : decode cX9_draw 28 = .ok (.idiv, 1) := by decide +kernel
theorem dX9_draw_29 : decode cX9_draw 29 = .ok (.iload_n 1, 1) := by decide +kernel
theorem dX9_draw_30 : decode cX9_draw 30 = .ok (.irem, 1) := by decide +kernel
theorem dX9_draw_31 : decode cX9_draw 31 = .ok (.ireturn, 1) := by decide +kernel
theorem dX9_drift_0 : decode cX9_drift 0 = .ok (.iload_n 1, 1) := by decide +kernel
theorem dX9_drift_1 : decode cX9_drift 1 = .ok (.i2l, 1) := by decide +kernel
theorem dX9_drift_2 : decode cX9_drift 2 = .ok (.lconst 1, 1) := by decide +kernel
theorem dX9_drift_3 : decode cX9_drift 3 = .ok (.ldc2_w 228, 3) := by decide +kernel
theorem dX9_drift_6 : decode cX9_drift 6 = .ok (.invokestatic 172, 3) := by decide +kernel
theorem dX9_drift_9 : decode cX9_drift 9 = .ok (.ifCond .ne 6, 3) := by decide +kernel
theorem dX9_drift_12 : decode cX9_drift 12 = .ok (.ldc 171, 2) := by decide +kernel
theorem dX9_drift_14 : decode cX9_drift 14 = .ok (.ireturn, 1) := by decide +kernel
theorem dX9_drift_15 : decode cX9_drift 15 = .ok (.iconst 0, 1) := by decide +kernel
theorem dX9_drift_16 : decode cX9_drift 16 = .ok (.istore_n 2, 1) := by decide +kernel
theorem dX9_drift_17 : decode cX9_drift 17 = .ok (.iload_n 2, 1) := by decide +kernel
theorem dX9_drift_18 : decode cX9_drift 18 = .ok (.iload_n 1, 1) := by decide +kernel
theorem dX9_drift_19 : decode cX9_drift 19 = .ok (.if_icmp .ge 90, 3) := by decide +kernel
theorem dX9_drift_22 : decode cX9_drift 22 = .ok (.aload_n 0, 1) := by decide +kernel
theorem dX9_drift_23 : decode cX9_drift 23 = .ok (.iconst 3, 1) := by decide +kernel
theorem dX9_drift_24 : decode cX9_drift 24 = .ok (.invokevirtual 230, 3) := by decide +kernel
theorem dX9_drift_27 : decode cX9_drift 27 = .ok (.istore_n 3, 1) := by decide +kernel
theorem dX9_drift_28 : decode cX9_drift 28 = .ok (.aload_n 0, 1) := by decide +kernel
theorem dX9_drift_29 : decode cX9_drift 29 = .ok (.sipush 200, 3) := by decide +kernel
theorem dX9_drift_32 : decode cX9_drift 32 = .ok (.invokevirtual 230, 3) := by decide +kernel
theorem dX9_drift_35 : decode cX9_drift 35 = .ok (.istore 4, 2) := by decide +kernel
theorem dX9_drift_37 : decode cX9_drift 37 = .ok (.aload_n 0, 1) := by decide +kernel
theorem dX9_drift_38 : decode cX9_drift 38 = .ok (.iload 4, 2) := by decide +kernel
theorem dX9_drift_40 : decode cX9_drift 40 = .ok (.invokevirtual 196, 3) := by decide +kernel
theorem dX9_drift_43 : decode cX9_drift 43 = .ok (.istore 5, 2) := by decide +kernel
theorem dX9_drift_45 : decode cX9_drift 45 = .ok (.aload_n 0, 1) := by decide +kernel
theorem dX9_drift_46 : decode cX9_drift 46 = .ok (.invokevirtual 201, 3) := by decide +kernel
theorem dX9_drift_49 : decode cX9_drift 49 = .ok (.iload_n 3, 1) := by decide +kernel
theorem dX9_drift_50 : decode cX9_drift 50 = .ok (.iconst 2, 1) := by decide +kernel
theorem dX9_drift_51 : decode cX9_drift 51 = .ok (.if_icmp .ge 32, 3) := by decide +kernel
theorem dX9_drift_54 : decode cX9_drift 54 = .ok (.iload 5, 2) := by decide +kernel
theorem dX9_drift_56 : decode cX9_drift 56 = .ok (.ifCond .ne 27, 3) := by decide +kernel
theorem dX9_drift_59 : decode cX9_drift 59 = .ok (.aload_n 0, 1) := by decide +kernel
theorem dX9_drift_60 : decode cX9_drift 60 = .ok (.invokevirtual 128, 3) := by decide +kernel
theorem dX9_drift_63 : decode cX9_drift 63 = .ok (.bipush 60, 2) := by decide +kernel
theorem dX9_drift_65 : decode cX9_drift 65 = .ok (.if_icmp .ge 18, 3) := by decide +kernel
theorem dX9_drift_68 : decode cX9_drift 68 = .ok (.aload_n 0, 1) := by decide +kernel
theorem dX9_drift_69 : decode cX9_drift 69 = .ok (.iload 4, 2) := by decide +kernel
theorem dX9_drift_71 : decode cX9_drift 71 = .ok (.aload_n 0, 1) := by decide +kernel
theorem dX9_drift_72 : decode cX9_drift 72 = .ok (.bipush 100, 2) := by decide +kernel
theorem dX9_drift_74 : decode cX9_drift 74 = .ok (.invokevirtual 230, 3) := by decide +kernel
theorem dX9_drift_77 : decode cX9_drift 77 = .ok (.invokevirtual 204, 3) := by decide +kernel
theorem dX9_drift_80 : decode cX9_drift 80 = .ok (.goto 23, 3) := by decide +kernel
theorem dX9_drift_83 : decode cX9_drift 83 = .ok (.iload_n 3, 1) := by decide +kernel
theorem dX9_drift_84 : decode cX9_drift 84 = .ok (.iconst 2, 1) := by decide +kernel
theorem dX9_drift_85 : decode cX9_drift 85 = .ok (.if_icmp .ne 18, 3) := by decide +kernel
theorem dX9_drift_88 : decode cX9_drift 88 = .ok (.iload 5, 2) := by decide +kernel
theorem dX9_drift_90 : decode cX9_drift 90 = .ok (.ifCond .eq 13, 3) := by decide +kernel
theorem dX9_drift_93 : decode cX9_drift 93 = .ok (.aload_n 0, 1) := by decide +kernel
theorem dX9_drift_94 : decode cX9_drift 94 = .ok (.aload_n 0, 1) := by decide +kernel
theorem dX9_drift_95 : decode cX9_drift 95 = .ok (.iload 4, 2) := by decide +kernel
theorem dX9_drift_97 : decode cX9_drift 97 = .ok (.invokevirtual 134, 3) := by decide +kernel
theorem dX9_drift_100 : decode cX9_drift 100 = .ok (.invokevirtual 137, 3) := by decide +kernel
theorem dX9_drift_103 : decode cX9_drift 103 = .ok (.iinc 2 1, 3) := by decide +kernel
theorem dX9_drift_106 : decode cX9_drift 106 = .ok (.goto (-89), 3) := by decide +kernel
theorem dX9_drift_109 : decode cX9_drift 109 = .ok (.aload_n 0, 1) := by decide +kernel
theorem dX9_drift_110 : decode cX9_drift 110 = .ok (.invokevirtual 128, 3) := by decide +kernel
theorem dX9_drift_113 : decode cX9_drift 113 = .ok (.ireturn, 1) := by decide +kernel
theorem dX9_undo_0 : decode cX9_undo 0 = .ok (.iload_n 1, 1) := by decide +kernel
theorem dX9_undo_1 : decode cX9_undo 1 = .ok (.i2l, 1) := by decide +kernel
theorem dX9_undo_2 : decode cX9_undo 2 = .ok (.lconst 1, 1) := by decide +kernel
theorem dX9_undo_3 : decode cX9_undo 3 = .ok (.ldc2_w 228, 3) := by decide +kernel
theorem dX9_undo_6 : decode cX9_undo 6 = .ok (.invokestatic 172, 3) := by decide +kernel
theorem dX9_undo_9 : decode cX9_undo 9 = .ok (.ifCond .ne 6, 3) := by decide +kernel
theorem dX9_undo_12 : decode cX9_undo 12 = .ok (.ldc 171, 2) := by decide +kernel
theorem dX9_undo_14 : decode cX9_undo 14 = .ok (.ireturn, 1) := by decide +kernel
theorem dX9_undo_15 : decode cX9_undo 15 = .ok (.iload_n 1, 1) := by decide +kernel
theorem dX9_undo_16 : decode cX9_undo 16 = .ok (.aload_n 0, 1) := by decide +kernel
theorem dX9_undo_17 : decode cX9_undo 17 = .ok (.getfield 167, 3) := by decide +kernel
theorem dX9_undo_20 : decode cX9_undo 20 = .ok (.if_icmp .le 6, 3) := by decide +kernel
theorem dX9_undo_23 : decode cX9_undo 23 = .ok (.ldc 199, 2) := by decide +kernel
theorem dX9_undo_25 : decode cX9_undo 25 = .ok (.ireturn, 1) := by decide +kernel
theorem dX9_undo_26 : decode cX9_undo 26 = .ok (.aload_n 0, 1) := by decide +kernel
theorem dX9_undo_27 : decode cX9_undo 27 = .ok (.dup, 1) := by decide +kernel
theorem dX9_undo_28 : decode cX9_undo 28 = .ok (.getfield 167, 3) := by decide +kernel
theorem dX9_undo_31 : decode cX9_undo 31 = .ok (.iload_n 1, 1) := by decide +kernel
theorem dX9_undo_32 : decode cX9_undo 32 = .ok (.isub, 1) := by decide +kernel
theorem dX9_undo_33 : decode cX9_undo 33 = .ok (.putfield 167, 3) := by decide +kernel
theorem dX9_undo_36 : decode cX9_undo 36 = .ok (.iconst 0, 1) := by decide +kernel
theorem dX9_undo_37 : decode cX9_undo 37 = .ok (.istore_n 2, 1) := by decide +kernel
theorem dX9_undo_38 : decode cX9_undo 38 = .ok (.iload_n 2, 1) := by decide +kernel
theorem dX9_undo_39 : decode cX9_undo 39 = .ok (.sipush 368, 3) := by decide +kernel
theorem dX9_undo_42 : decode cX9_undo 42 = .ok (.if_icmp .ge 30, 3) := by decide +kernel
theorem dX9_undo_45 : decode cX9_undo 45 = .ok (.aload_n 0, 1) := by decide +kernel
theorem dX9_undo_46 : decode cX9_undo 46 = .ok (.getfield 7, 3) := by decide +kernel
theorem dX9_undo_49 : decode cX9_undo 49 = .ok (.iload_n 2, 1) := by decide +kernel
theorem dX9_undo_50 : decode cX9_undo 50 = .ok (.aload_n 0, 1) := by decide +kernel
theorem dX9_undo_51 : decode cX9_undo 51 = .ok (.getfield 13, 3) := by decide +kernel
theorem dX9_undo_54 : decode cX9_undo 54 = .ok (.sipush 368, 3) := by decide +kernel
theorem dX9_undo_57 : decode cX9_undo 57 = .ok (.aload_n 0, 1) := by decide +kernel
theorem dX9_undo_58 : decode cX9_undo 58 = .ok (.getfield 167, 3) := by decide +kernel
theorem dX9_undo_61 : decode cX9_undo 61 = .ok (.imul, 1) := by decide +kernel
theorem dX9_undo_62 : decode cX9_undo 62 = .ok (.iload_n 2, 1) := by decide +kernel
theorem dX9_undo_63 : decode cX9_undo 63 = .ok (.iadd, 1) := by decide +kernel
theorem dX9_undo_64 : decode cX9_undo 64 = .ok (.iaload, 1) := by decide +kernel
theorem dX9_undo_65 : decode cX9_undo 65 = .ok (.iastore, 1) := by decide +kernel
theorem dX9_undo_66 : decode cX9_undo 66 = .ok (.iinc 2 1, 3) := by decide +kernel
theorem dX9_undo_69 : decode cX9_undo 69 = .ok (.goto (-31), 3) := by decide +kernel
theorem dX9_undo_72 : decode cX9_undo 72 = .ok (.aload_n 0, 1) := by decide +kernel
theorem dX9_undo_73 : decode cX9_undo 73 = .ok (.invokevirtual 128, 3) := by decide +kernel
theorem dX9_undo_76 : decode cX9_undo 76 = .ok (.ireturn, 1) := by decide +kernel
theorem dX9_less_0 : decode cX9_less 0 = .ok (.aload_n 0, 1) := by decide +kernel
theorem dX9_less_1 : decode cX9_less 1 = .ok (.iload_n 1, 1) := by decide +kernel
theorem dX9_less_2 : decode cX9_less 2 = .ok (.invokevirtual 186, 3) := by decide +kernel
theorem dX9_less_5 : decode cX9_less 5 = .ok (.ireturn, 1) := by decide +kernel
theorem dX9_beside_0 : decode cX9_beside 0 = .ok (.iload_n 2, 1) := by decide +kernel
theorem dX9_beside_1 : decode cX9_beside 1 = .ok (.i2l, 1) := by decide +kernel
theorem dX9_beside_2 : decode cX9_beside 2 = .ok (.lconst 0, 1) := by decide +kernel
theorem dX9_beside_3 : decode cX9_beside 3 = .ok (.lconst 1, 1) := by decide +kernel
theorem dX9_beside_4 : decode cX9_beside 4 = .ok (.invokestatic 172, 3) := by decide +kernel
theorem dX9_beside_7 : decode cX9_beside 7 = .ok (.ifCond .eq 20, 3) := by decide +kernel
theorem dX9_beside_10 : decode cX9_beside 10 = .ok (.aload_n 0, 1) := by decide +kernel
theorem dX9_beside_11 : decode cX9_beside 11 = .ok (.iload_n 1, 1) := by decide +kernel
theorem dX9_beside_12 : decode cX9_beside 12 = .ok (.iload_n 2, 1) := by decide +kernel
theorem dX9_beside_13 : decode cX9_beside 13 = .ok (.ifCond .ne 7, 3) := by decide +kernel
theorem dX9_beside_16 : decode cX9_beside 16 = .ok (.iconst 1, 1) := by decide +kernel
theorem dX9_beside_17 : decode cX9_beside 17 = .ok (.goto 4, 3) := by decide +kernel
theorem dX9_beside_20 : decode cX9_beside 20 = .ok (.iconst 0, 1) := by decide +kernel
theorem dX9_beside_21 : decode cX9_beside 21 = .ok (.invokevirtual 140, 3) := by decide +kernel
theorem dX9_beside_24 : decode cX9_beside 24 = .ok (.goto 5, 3) := by decide +kernel
theorem dX9_beside_27 : decode cX9_beside 27 = .ok (.ldc 171, 2) := by decide +kernel
theorem dX9_beside_29 : decode cX9_beside 29 = .ok (.ireturn, 1) := by decide +kernel
theorem dX9_most_0 : decode cX9_most 0 = .ok (.iconst (-1), 1) := by decide +kernel
theorem dX9_most_1 : decode cX9_most 1 = .ok (.istore_n 3, 1) := by decide +kernel
theorem dX9_most_2 : decode cX9_most 2 = .ok (.iconst (-1), 1) := by decide +kernel
theorem dX9_most_3 : decode cX9_most 3 = .ok (.istore 4, 2) := by decide +kernel
theorem dX9_most_5 : decode cX9_most 5 = .ok (.aload_n 0, 1) := by decide +kernel
theorem dX9_most_6 : decode cX9_most 6 = .ok (.iload_n 1, 1) := by decide +kernel
theorem dX9_most_7 : decode cX9_most 7 = .ok (.iconst 1, 1) := by decide +kernel
theorem dX9_most_8 : decode cX9_most 8 = .ok (.isub, 1) := by decide +kernel
theorem dX9_most_9 : decode cX9_most 9 = .ok (.iconst 0, 1) := by decide +kernel
theorem dX9_most_10 : decode cX9_most 10 = .ok (.invokevirtual 140, 3) := by decide +kernel
theorem dX9_most_13 : decode cX9_most 13 = .ok (.istore 5, 2) := by decide +kernel
theorem dX9_most_15 : decode cX9_most 15 = .ok (.iload 5, 2) := by decide +kernel
theorem dX9_most_17 : decode cX9_most 17 = .ok (.iconst (-1), 1) := by decide +kernel
theorem dX9_most_18 : decode cX9_most 18 = .ok (.if_icmp .eq 64, 3) := by decide +kernel
theorem dX9_most_21 : decode cX9_most 21 = .ok (.iload 5, 2) := by decide +kernel
theorem dX9_most_23 : decode cX9_most 23 = .ok (.iload_n 2, 1) := by decide +kernel
theorem dX9_most_24 : decode cX9_most 24 = .ok (.if_icmp .gt 58, 3) := by decide +kernel
theorem dX9_most_27 : decode cX9_most 27 = .ok (.aload_n 0, 1) := by decide +kernel
theorem dX9_most_28 : decode cX9_most 28 = .ok (.aload_n 0, 1) := by decide +kernel
theorem dX9_most_29 : decode cX9_most 29 = .ok (.iload 5, 2) := by decide +kernel
theorem dX9_most_31 : decode cX9_most 31 = .ok (.invokevirtual 134, 3) := by decide +kernel
theorem dX9_most_34 : decode cX9_most 34 = .ok (.iconst 1, 1) := by decide +kernel
theorem dX9_most_35 : decode cX9_most 35 = .ok (.invokevirtual 63, 3) := by decide +kernel
theorem dX9_most_38 : decode cX9_most 38 = .ok (.istore 6, 2) := by decide +kernel
theorem dX9_most_40 : decode cX9_most 40 = .ok (.iload 6, 2) := by decide +kernel
theorem dX9_most_42 : decode cX9_most 42 = .ok (.iload 4, 2) := by decide +kernel
theorem dX9_most_44 : decode cX9_most 44 = .ok (.if_icmp .le 8, 3) := by decide +kernel
theorem dX9_most_47 : decode cX9_most 47 = .ok (.iload 5, 2) := by decide +kernel
theorem dX9_most_49 : decode cX9_most 49 = .ok (.goto 4, 3) := by decide +kernel
theorem dX9_most_52 : decode cX9_most 52 = .ok (.iload_n 3, 1) := by decide +kernel
theorem dX9_most_53 : decode cX9_most 53 = .ok (.istore_n 3, 1) := by decide +kernel
theorem dX9_most_54 : decode cX9_most 54 = .ok (.iload 6, 2) := by decide +kernel
theorem dX9_most_56 : decode cX9_most 56 = .ok (.iload 4, 2) := by decide +kernel
theorem dX9_most_58 : decode cX9_most 58 = .ok (.if_icmp .le 8, 3) := by decide +kernel
theorem dX9_most_61 : decode cX9_most 61 = .ok (.iload 6, 2) := by decide +kernel
theorem dX9_most_63 : decode cX9_most 63 = .ok (.goto 5, 3) := by decide +kernel
theorem dX9_most_66 : decode cX9_most 66 = .ok (.iload 4, 2) := by decide +kernel
theorem dX9_most_68 : decode cX9_most 68 = .ok (.istore 4, 2) := by decide +kernel
theorem dX9_most_70 : decode cX9_most 70 = .ok (.aload_n 0, 1) := by decide +kernel
theorem dX9_most_71 : decode cX9_most 71 = .ok (.iload 5, 2) := by decide +kernel
theorem dX9_most_73 : decode cX9_most 73 = .ok (.iconst 0, 1) := by decide +kernel
theorem dX9_most_74 : decode cX9_most 74 = .ok (.invokevirtual 140, 3) := by decide +kernel
theorem dX9_most_77 : decode cX9_most 77 = .ok (.istore 5, 2) := by decide +kernel
theorem dX9_most_79 : decode cX9_most 79 = .ok (.goto (-64), 3) := by decide +kernel
theorem dX9_most_82 : decode cX9_most 82 = .ok (.iload_n 3, 1) := by decide +kernel
theorem dX9_most_83 : decode cX9_most 83 = .ok (.ireturn, 1) := by decide +kernel
theorem dX9_sumBetween_0 : decode cX9_sumBetween 0 = .ok (.iconst 0, 1) := by decide +kernel
theorem dX9_sumBetween_1 : decode cX9_sumBetween 1 = .ok (.istore 4, 2) := by decide +kernel
theorem dX9_sumBetween_3 : decode cX9_sumBetween 3 = .ok (.iconst 0, 1) := by decide +kernel
theorem dX9_sumBetween_4 : decode cX9_sumBetween 4 = .ok (.istore 5, 2) := by decide +kernel
theorem dX9_sumBetween_6 : decode cX9_sumBetween 6 = .ok (.iload 5, 2) := by decide +kernel
theorem dX9_sumBetween_8 : decode cX9_sumBetween 8 = .ok (.bipush 60, 2) := by decide +kernel
theorem dX9_sumBetween_10 : decode cX9_sumBetween 10 = .ok (.if_icmp .ge 78, 3) := by decide +kernel
theorem dX9_sumBetween_13 : decode cX9_sumBetween 13 = .ok (.aload_n 0, 1) := by decide +kernel
theorem dX9_sumBetween_14 : decode cX9_sumBetween 14 = .ok (.iload 5, 2) := by decide +kernel
theorem dX9_sumBetween_16 : decode cX9_sumBetween 16 = .ok (.iconst 0, 1) := by decide +kernel
theorem dX9_sumBetween_17 : decode cX9_sumBetween 17 = .ok (.invokevirtual 63, 3) := by decide +kernel
theorem dX9_sumBetween_20 : decode cX9_sumBetween 20 = .ok (.iconst (-1), 1) := by decide +kernel
theorem dX9_sumBetween_21 : decode cX9_sumBetween 21 = .ok (.if_icmp .eq 29, 3) := by decide +kernel
theorem dX9_sumBetween_24 : decode cX9_sumBetween 24 = .ok (.aload_n 0, 1) := by decide +kernel
theorem dX9_sumBetween_25 : decode cX9_sumBetween 25 = .ok (.iload 5, 2) := by decide +kernel
theorem dX9_sumBetween_27 : decode cX9_sumBetween 27 = .ok (.iconst 0, 1) := by decide +kernel
theorem dX9_sumBetween_28 : decode cX9_sumBetween 28 = .ok (.invokevirtual 63, 3) := by decide +kernel
theorem dX9_sumBetween_31 : decode cX9_sumBetween 31 = .ok (.iload_n 1, 1) := by decide +kernel
theorem dX9_sumBetween_32 : decode cX9_sumBetween 32 = .ok (.if_icmp .lt 18, 3) := by decide +kernel
theorem dX9_sumBetween_35 : decode cX9_sumBetween 35 = .ok (.aload_n 0, 1) := by decide +kernel
theorem dX9_sumBetween_36 : decode cX9_sumBetween 36 = .ok (.iload 5, 2) := by decide +kernel
theorem dX9_sumBetween_38 : decode cX9_sumBetween 38 = .ok (.iconst 0, 1) := by decide +kernel
theorem dX9_sumBetween_39 : decode cX9_sumBetween 39 = .ok (.invokevirtual 63, 3) := by decide +kernel
theorem dX9_sumBetween_42 : decode cX9_sumBetween 42 = .ok (.iload_n 2, 1) := by decide +kernel
theorem dX9_sumBetween_43 : decode cX9_sumBetween 43 = .ok (.if_icmp .gt 7, 3) := by decide +kernel
theorem dX9_sumBetween_46 : decode cX9_sumBetween 46 = .ok (.iconst 1, 1) := by decide +kernel
theorem dX9_sumBetween_47 : decode cX9_sumBetween 47 = .ok (.goto 4, 3) := by decide +kernel
theorem dX9_sumBetween_50 : decode cX9_sumBetween 50 = .ok (.iconst 0, 1) := by decide +kernel
theorem dX9_sumBetween_51 : decode cX9_sumBetween 51 = .ok (.istore 6, 2) := by decide +kernel
theorem dX9_sumBetween_53 : decode cX9_sumBetween 53 = .ok (.iload 4, 2) := by decide +kernel
theorem dX9_sumBetween_55 : decode cX9_sumBetween 55 = .ok (.iload 6, 2) := by decide +kernel
theorem dX9_sumBetween_57 : decode cX9_sumBetween 57 = .ok (.ifCond .eq 21, 3) := by decide +kernel
theorem dX9_sumBetween_60 : decode cX9_sumBetween 60 = .ok (.iload_n 3, 1) := by decide +kernel
theorem dX9_sumBetween_61 : decode cX9_sumBetween 61 = .ok (.ifCond .eq 13, 3) := by decide +kernel
theorem dX9_sumBetween_64 : decode cX9_sumBetween 64 = .ok (.aload_n 0, 1) := by decide +kernel
theorem dX9_sumBetween_65 : decode cX9_sumBetween 65 = .ok (.iload 5, 2) := by decide +kernel
theorem dX9_sumBetween_67 : decode cX9_sumBetween 67 = .ok (.iconst 1, 1) := by decide +kernel
theorem dX9_sumBetween_68 : decode cX9_sumBetween 68 = .ok (.invokevirtual 63, 3) := by decide +kernel
theorem dX9_sumBetween_71 : decode cX9_sumBetween 71 = .ok (.goto 8, 3) := by decide +kernel
theorem dX9_sumBetween_74 : decode cX9_sumBetween 74 = .ok (.iconst 1, 1) := by decide +kernel
theorem dX9_sumBetween_75 : decode cX9_sumBetween 75 = .ok (.goto 4, 3) := by decide +kernel
theorem dX9_sumBetween_78 : decode cX9_sumBetween 78 = .ok (.iconst 0, 1) := by decide +kernel
theorem dX9_sumBetween_79 : decode cX9_sumBetween 79 = .ok (.iadd, 1) := by decide +kernel
theorem dX9_sumBetween_80 : decode cX9_sumBetween 80 = .ok (.istore 4, 2) := by decide +kernel
theorem dX9_sumBetween_82 : decode cX9_sumBetween 82 = .ok (.iinc 5 1, 3) := by decide +kernel
theorem dX9_sumBetween_85 : decode cX9_sumBetween 85 = .ok (.goto (-79), 3) := by decide +kernel
theorem dX9_sumBetween_88 : decode cX9_sumBetween 88 = .ok (.iload 4, 2) := by decide +kernel
theorem dX9_sumBetween_90 : decode cX9_sumBetween 90 = .ok (.ireturn, 1) := by decide +kernel
theorem dX9_between_0 : decode cX9_between 0 = .ok (.iload_n 3, 1) := by decide +kernel
theorem dX9_between_1 : decode cX9_between 1 = .ok (.i2l, 1) := by decide +kernel
theorem dX9_between_2 : decode cX9_between 2 = .ok (.lconst 0, 1) := by decide +kernel
theorem dX9_between_3 : decode cX9_between 3 = .ok (.ldc2_w 233, 3) := by decide +kernel
theorem dX9_between_6 : decode cX9_between 6 = .ok (.invokestatic 172, 3) := by decide +kernel
theorem dX9_between_9 : decode cX9_between 9 = .ok (.ifCond .ne 6, 3) := by decide +kernel
theorem dX9_between_12 : decode cX9_between 12 = .ok (.ldc 171, 2) := by decide +kernel
theorem dX9_between_14 : decode cX9_between 14 = .ok (.ireturn, 1) := by decide +kernel
theorem dX9_between_15 : decode cX9_between 15 = .ok (.iload_n 3, 1) := by decide +kernel
theorem dX9_between_16 : decode cX9_between 16 = .ok (.iconst 2, 1) := by decide +kernel
theorem dX9_between_17 : decode cX9_between 17 = .ok (.if_icmp .ge 22, 3) := by decide +kernel
theorem dX9_between_20 : decode cX9_between 20 = .ok (.aload_n 0, 1) := by decide +kernel
theorem dX9_between_21 : decode cX9_between 21 = .ok (.iload_n 1, 1) := by decide +kernel
theorem dX9_between_22 : decode cX9_between 22 = .ok (.iload_n 2, 1) := by decide +kernel
theorem dX9_between_23 : decode cX9_between 23 = .ok (.iload_n 3, 1) := by decide +kernel
theorem dX9_between_24 : decode cX9_between 24 = .ok (.iconst 1, 1) := by decide +kernel
theorem dX9_between_25 : decode cX9_between 25 = .ok (.if_icmp .ne 7, 3) := by decide +kernel
theorem dX9_between_28 : decode cX9_between 28 = .ok (.iconst 1, 1) := by decide +kernel
theorem dX9_between_29 : decode cX9_between 29 = .ok (.goto 4, 3) := by decide +kernel
theorem dX9_between_32 : decode cX9_between 32 = .ok (.iconst 0, 1) := by decide +kernel
theorem dX9_between_33 : decode cX9_between 33 = .ok (.invokevirtual 235, 3) := by decide +kernel
theorem dX9_between_36 : decode cX9_between 36 = .ok (.goto 17, 3) := by decide +kernel
theorem dX9_between_39 : decode cX9_between 39 = .ok (.aload_n 0, 1) := by decide +kernel
theorem dX9_between_40 : decode cX9_between 40 = .ok (.iload_n 1, 1) := by decide +kernel
theorem dX9_between_41 : decode cX9_between 41 = .ok (.ifCond .ge 7, 3) := by decide +kernel
theorem dX9_between_44 : decode cX9_between 44 = .ok (.iconst 0, 1) := by decide +kernel
theorem dX9_between_45 : decode cX9_between 45 = .ok (.goto 4, 3) := by decide +kernel
theorem dX9_between_48 : decode cX9_between 48 = .ok (.iload_n 1, 1) := by decide +kernel
theorem dX9_between_49 : decode cX9_between 49 = .ok (.iload_n 2, 1) := by decide +kernel
theorem dX9_between_50 : decode cX9_between 50 = .ok (.invokevirtual 239, 3) := by decide +kernel
theorem dX9_between_53 : decode cX9_between 53 = .ok (.ireturn, 1) := by decide +kernel
theorem dX9_way_0 : decode cX9_way 0 = .ok (.iload_n 1, 1) := by decide +kernel
theorem dX9_way_1 : decode cX9_way 1 = .ok (.ifCond .lt 11, 3) := by decide +kernel
theorem dX9_way_4 : decode cX9_way 4 = .ok (.aload_n 0, 1) := by decide +kernel
theorem dX9_way_5 : decode cX9_way 5 = .ok (.iload_n 1, 1) := by decide +kernel
theorem dX9_way_6 : decode cX9_way 6 = .ok (.invokevirtual 196, 3) := by decide +kernel
theorem dX9_way_9 : decode cX9_way 9 = .ok (.ifCond .ne 6, 3) := by decide +kernel
theorem dX9_way_12 : decode cX9_way 12 = .ok (.ldc 179, 2) := by decide +kernel
theorem dX9_way_14 : decode cX9_way 14 = .ok (.ireturn, 1) := by decide +kernel
theorem dX9_way_15 : decode cX9_way 15 = .ok (.iload_n 2, 1) := by decide +kernel
theorem dX9_way_16 : decode cX9_way 16 = .ok (.ifCond .ge 5, 3) := by decide +kernel
theorem dX9_way_19 : decode cX9_way 19 = .ok (.iconst (-1), 1) := by decide +kernel
theorem dX9_way_20 : decode cX9_way 20 = .ok (.ireturn, 1) := by decide +kernel
theorem dX9_way_21 : decode cX9_way 21 = .ok (.aload_n 0, 1) := by decide +kernel
theorem dX9_way_22 : decode cX9_way 22 = .ok (.invokevirtual 87, 3) := by decide +kernel
theorem dX9_way_25 : decode cX9_way 25 = .ok (.istore_n 3, 1) := by decide +kernel
theorem dX9_way_26 : decode cX9_way 26 = .ok (.iconst 0, 1) := by decide +kernel
theorem dX9_way_27 : decode cX9_way 27 = .ok (.istore 4, 2) := by decide +kernel
theorem dX9_way_29 : decode cX9_way 29 = .ok (.iload 4, 2) := by decide +kernel
theorem dX9_way_31 : decode cX9_way 31 = .ok (.iload_n 2, 1) := by decide +kernel
theorem dX9_way_32 : decode cX9_way 32 = .ok (.if_icmp .ge 40, 3) := by decide +kernel
theorem dX9_way_35 : decode cX9_way 35 = .ok (.aload_n 0, 1) := by decide +kernel
theorem dX9_way_36 : decode cX9_way 36 = .ok (.iload_n 3, 1) := by decide +kernel
theorem dX9_way_37 : decode cX9_way 37 = .ok (.iconst 0, 1) := by decide +kernel
theorem dX9_way_38 : decode cX9_way 38 = .ok (.invokevirtual 63, 3) := by decide +kernel
theorem dX9_way_41 : decode cX9_way 41 = .ok (.iload_n 1, 1) := by decide +kernel
theorem dX9_way_42 : decode cX9_way 42 = .ok (.if_icmp .eq 30, 3) := by decide +kernel
theorem dX9_way_45 : decode cX9_way 45 = .ok (.aload_n 0, 1) := by decide +kernel
theorem dX9_way_46 : decode cX9_way 46 = .ok (.iload_n 3, 1) := by decide +kernel
theorem dX9_way_47 : decode cX9_way 47 = .ok (.iload_n 1, 1) := by decide +kernel
theorem dX9_way_48 : decode cX9_way 48 = .ok (.aload_n 0, 1) := by decide +kernel
theorem dX9_way_49 : decode cX9_way 49 = .ok (.iload_n 3, 1) := by decide +kernel
theorem dX9_way_50 : decode cX9_way 50 = .ok (.iconst 0, 1) := by decide +kernel
theorem dX9_way_51 : decode cX9_way 51 = .ok (.invokevirtual 63, 3) := by decide +kernel
theorem dX9_way_54 : decode cX9_way 54 = .ok (.if_icmp .ge 7, 3) := by decide +kernel
theorem dX9_way_57 : decode cX9_way 57 = .ok (.iconst 1, 1) := by decide +kernel
theorem dX9_way_58 : decode cX9_way 58 = .ok (.goto 4, 3) := by decide +kernel
theorem dX9_way_61 : decode cX9_way 61 = .ok (.iconst 0, 1) := by decide +kernel
theorem dX9_way_62 : decode cX9_way 62 = .ok (.invokevirtual 71, 3) := by decide +kernel
theorem dX9_way_65 : decode cX9_way 65 = .ok (.istore_n 3, 1) := by decide +kernel
theorem dX9_way_66 : decode cX9_way 66 = .ok (.iinc 4 1, 3) := by decide +kernel
theorem dX9_way_69 : decode cX9_way 69 = .ok (.goto (-40), 3) := by decide +kernel
theorem dX9_way_72 : decode cX9_way 72 = .ok (.iload 4, 2) := by decide +kernel
theorem dX9_way_74 : decode cX9_way 74 = .ok (.iload_n 2, 1) := by decide +kernel
theorem dX9_way_75 : decode cX9_way 75 = .ok (.if_icmp .ne 12, 3) := by decide +kernel
theorem dX9_way_78 : decode cX9_way 78 = .ok (.aload_n 0, 1) := by decide +kernel
theorem dX9_way_79 : decode cX9_way 79 = .ok (.iload_n 3, 1) := by decide +kernel
theorem dX9_way_80 : decode cX9_way 80 = .ok (.iconst 0, 1) := by decide +kernel
theorem dX9_way_81 : decode cX9_way 81 = .ok (.invokevirtual 63, 3) := by decide +kernel
theorem dX9_way_84 : decode cX9_way 84 = .ok (.goto 4, 3) := by decide +kernel
theorem dX9_way_87 : decode cX9_way 87 = .ok (.iconst (-1), 1) := by decide +kernel
theorem dX9_way_88 : decode cX9_way 88 = .ok (.ireturn, 1) := by decide +kernel
theorem dX9_rankWith_0 : decode cX9_rankWith 0 = .ok (.iload_n 1, 1) := by decide +kernel
theorem dX9_rankWith_1 : decode cX9_rankWith 1 = .ok (.iconst (-1), 1) := by decide +kernel
theorem dX9_rankWith_2 : decode cX9_rankWith 2 = .ok (.if_icmp .ne 7, 3) := by decide +kernel
theorem dX9_rankWith_5 : decode cX9_rankWith 5 = .ok (.iconst (-1), 1) := by decide +kernel
theorem dX9_rankWith_6 : decode cX9_rankWith 6 = .ok (.goto 18, 3) := by decide +kernel
theorem dX9_rankWith_9 : decode cX9_rankWith 9 = .ok (.iload_n 1, 1) := by decide +kernel
theorem dX9_rankWith_10 : decode cX9_rankWith 10 = .ok (.iload_n 2, 1) := by decide +kernel
theorem dX9_rankWith_11 : decode cX9_rankWith 11 = .ok (.if_icmp .ne 7, 3) := by decide +kernel
theorem dX9_rankWith_14 : decode cX9_rankWith 14 = .ok (.iload_n 3, 1) := by decide +kernel
theorem dX9_rankWith_15 : decode cX9_rankWith 15 = .ok (.goto 9, 3) := by decide +kernel
theorem dX9_rankWith_18 : decode cX9_rankWith 18 = .ok (.aload_n 0, 1) := by decide +kernel
theorem dX9_rankWith_19 : decode cX9_rankWith 19 = .ok (.iload_n 1, 1) := by decide +kernel
theorem dX9_rankWith_20 : decode cX9_rankWith 20 = .ok (.iconst 2, 1) := by decide +kernel
theorem dX9_rankWith_21 : decode cX9_rankWith 21 = .ok (.invokevirtual 63, 3) := by decide +kernel
theorem dX9_rankWith_24 : decode cX9_rankWith 24 = .ok (.ireturn, 1) := by decide +kernel
theorem dX9_audit_0 : decode cX9_audit 0 = .ok (.aload_n 0, 1) := by decide +kernel
theorem dX9_audit_1 : decode cX9_audit 1 = .ok (.iload_n 1, 1) := by decide +kernel
theorem dX9_audit_2 : decode cX9_audit 2 = .ok (.invokevirtual 176, 3) := by decide +kernel
theorem dX9_audit_5 : decode cX9_audit 5 = .ok (.ifCond .ne 6, 3) := by decide +kernel
theorem dX9_audit_8 : decode cX9_audit 8 = .ok (.ldc 179, 2) := by decide +kernel
theorem dX9_audit_10 : decode cX9_audit 10 = .ok (.ireturn, 1) := by decide +kernel
theorem dX9_audit_11 : decode cX9_audit 11 = .ok (.iload_n 2, 1) := by decide +kernel
theorem dX9_audit_12 : decode cX9_audit 12 = .ok (.i2l, 1) := by decide +kernel
theorem dX9_audit_13 : decode cX9_audit 13 = .ok (.ldc2_w 242, 3) := by decide +kernel
theorem dX9_audit_16 : decode cX9_audit 16 = .ok (.ldc2_w 209, 3) := by decide +kernel
theorem dX9_audit_19 : decode cX9_audit 19 = .ok (.invokestatic 172, 3) := by decide +kernel
theorem dX9_audit_22 : decode cX9_audit 22 = .ok (.ifCond .ne 6, 3) := by decide +kernel
theorem dX9_audit_25 : decode cX9_audit 25 = .ok (.ldc 171, 2) := by decide +kernel
theorem dX9_audit_27 : decode cX9_audit 27 = .ok (.ireturn, 1) := by decide +kernel
theorem dX9_audit_28 : decode cX9_audit 28 = .ok (.aload_n 0, 1) := by decide +kernel
theorem dX9_audit_29 : decode cX9_audit 29 = .ok (.invokevirtual 131, 3) := by decide +kernel
theorem dX9_audit_32 : decode cX9_audit 32 = .ok (.aload_n 0, 1) := by decide +kernel
theorem dX9_audit_33 : decode cX9_audit 33 = .ok (.getfield 26, 3) := by decide +kernel
theorem dX9_audit_36 : decode cX9_audit 36 = .ok (.iload_n 1, 1) := by decide +kernel
theorem dX9_audit_37 : decode cX9_audit 37 = .ok (.iaload, 1) := by decide +kernel
theorem dX9_audit_38 : decode cX9_audit 38 = .ok (.istore_n 3, 1) := by decide +kernel
theorem dX9_audit_39 : decode cX9_audit 39 = .ok (.iconst 0, 1) := by decide +kernel
theorem dX9_audit_40 : decode cX9_audit 40 = .ok (.istore 4, 2) := by decide +kernel
theorem dX9_audit_42 : decode cX9_audit 42 = .ok (.iload 4, 2) := by decide +kernel
theorem dX9_audit_44 : decode cX9_audit 44 = .ok (.aload_n 0, 1) := by decide +kernel
theorem dX9_audit_45 : decode cX9_audit 45 = .ok (.invokevirtual 128, 3) := by decide +kernel
theorem dX9_audit_48 : decode cX9_audit 48 = .ok (.if_icmp .ge 111, 3) := by decide +kernel
theorem dX9_audit_51 : decode cX9_audit 51 = .ok (.aload_n 0, 1) := by decide +kernel
theorem dX9_audit_52 : decode cX9_audit 52 = .ok (.getfield 26, 3) := by decide +kernel
theorem dX9_audit_55 : decode cX9_audit 55 = .ok (.iload 4, 2) := by decide +kernel
theorem dX9_audit_57 : decode cX9_audit 57 = .ok (.iaload, 1) := by decide +kernel
theorem dX9_audit_58 : decode cX9_audit 58 = .ok (.istore 5, 2) := by decide +kernel
theorem dX9_audit_60 : decode cX9_audit 60 = .ok (.aload_n 0, 1) := by decide +kernel
theorem dX9_audit_61 : decode cX9_audit 61 = .ok (.iload 5, 2) := by decide +kernel
theorem dX9_audit_63 : decode cX9_audit 63 = .ok (.iload_n 3, 1) := by decide +kernel
theorem dX9_audit_64 : decode cX9_audit 64 = .ok (.iload_n 2, 1) := by decide +kernel
theorem dX9_audit_65 : decode cX9_audit 65 = .ok (.invokevirtual 244, 3) := by decide +kernel
theorem dX9_audit_68 : decode cX9_audit 68 = .ok (.istore 6, 2) := by decide +kernel
theorem dX9_audit_70 : decode cX9_audit 70 = .ok (.iload 6, 2) := by decide +kernel
theorem dX9_audit_72 : decode cX9_audit 72 = .ok (.aload_n 0, 1) := by decide +kernel
theorem dX9_audit_73 : decode cX9_audit 73 = .ok (.aload_n 0, 1) := by decide +kernel
theorem dX9_audit_74 : decode cX9_audit 74 = .ok (.iload 5, 2) := by decide +kernel
theorem dX9_audit_76 : decode cX9_audit 76 = .ok (.iconst 3, 1) := by decide +kernel
theorem dX9_audit_77 : decode cX9_audit 77 = .ok (.invokevirtual 63, 3) := by decide +kernel
theorem dX9_audit_80 : decode cX9_audit 80 = .ok (.iload_n 3, 1) := by decide +kernel
theorem dX9_audit_81 : decode cX9_audit 81 = .ok (.iload_n 2, 1) := by decide +kernel
theorem dX9_audit_82 : decode cX9_audit 82 = .ok (.invokevirtual 244, 3) := by decide +kernel
theorem dX9_audit_85 : decode cX9_audit 85 = .ok (.isub, 1) := by decide +kernel
theorem dX9_audit_86 : decode cX9_audit 86 = .ok (.i2l, 1) := by decide +kernel
theorem dX9_audit_87 : decode cX9_audit 87 = .ok (.lconst 1, 1) := by decide +kernel
theorem dX9_audit_88 : decode cX9_audit 88 = .ok (.ldc2_w 233, 3) := by decide +kernel
theorem dX9_audit_91 : decode cX9_audit 91 = .ok (.invokestatic 172, 3) := by decide +kernel
theorem dX9_audit_94 : decode cX9_audit 94 = .ok (.ifCond .eq 34, 3) := by decide +kernel
theorem dX9_audit_97 : decode cX9_audit 97 = .ok (.iload 6, 2) := by decide +kernel
theorem dX9_audit_99 : decode cX9_audit 99 = .ok (.aload_n 0, 1) := by decide +kernel
theorem dX9_audit_100 : decode cX9_audit 100 = .ok (.aload_n 0, 1) := by decide +kernel
theorem dX9_audit_101 : decode cX9_audit 101 = .ok (.iload 5, 2) := by decide +kernel
theorem dX9_audit_103 : decode cX9_audit 103 = .ok (.iconst 4, 1) := by decide +kernel
theorem dX9_audit_104 : decode cX9_audit 104 = .ok (.invokevirtual 63, 3) := by decide +kernel
theorem dX9_audit_107 : decode cX9_audit 107 = .ok (.iload_n 3, 1) := by decide +kernel
theorem dX9_audit_108 : decode cX9_audit 108 = .ok (.iload_n 2, 1) := by decide +kernel
theorem dX9_audit_109 : decode cX9_audit 109 = .ok (.invokevirtual 244, 3) := by decide +kernel
theorem dX9_audit_112 : decode cX9_audit 112 = .ok (.isub, 1) := by decide +kernel
theorem dX9_audit_113 : decode cX9_audit 113 = .ok (.i2l, 1) := by decide +kernel
theorem dX9_audit_114 : decode cX9_audit 114 = .ok (.lconst 1, 1) := by decide +kernel
theorem dX9_audit_115 : decode cX9_audit 115 = .ok (.ldc2_w 233, 3) := by decide +kernel
theorem dX9_audit_118 : decode cX9_audit 118 = .ok (.invokestatic 172, 3) := by decide +kernel
theorem dX9_audit_121 : decode cX9_audit 121 = .ok (.ifCond .eq 7, 3) := by decide +kernel
theorem dX9_audit_124 : decode cX9_audit 124 = .ok (.iconst 1, 1) := by decide +kernel
theorem dX9_audit_125 : decode cX9_audit 125 = .ok (.goto 4, 3) := by decide +kernel
theorem dX9_audit_128 : decode cX9_audit 128 = .ok (.iconst 0, 1) := by decide +kernel
theorem dX9_audit_129 : decode cX9_audit 129 = .ok (.istore 7, 2) := by decide +kernel
theorem dX9_audit_131 : decode cX9_audit 131 = .ok (.iload 7, 2) := by decide +kernel
theorem dX9_audit_133 : decode cX9_audit 133 = .ok (.ifCond .eq 17, 3) := by decide +kernel
theorem dX9_audit_136 : decode cX9_audit 136 = .ok (.aload_n 0, 1) := by decide +kernel
theorem dX9_audit_137 : decode cX9_audit 137 = .ok (.iload 5, 2) := by decide +kernel
theorem dX9_audit_139 : decode cX9_audit 139 = .ok (.invokevirtual 116, 3) := by decide +kernel
theorem dX9_audit_142 : decode cX9_audit 142 = .ok (.ifCond .eq 11, 3) := by decide +kernel
theorem dX9_audit_145 : decode cX9_audit 145 = .ok (.iload 6, 2) := by decide +kernel
theorem dX9_audit_147 : decode cX9_audit 147 = .ok (.ifCond .eq 6, 3) := by decide +kernel
theorem dX9_audit_150 : decode cX9_audit 150 = .ok (.iload 4, 2) := by decide +kernel
theorem dX9_audit_152 : decode cX9_audit 152 = .ok (.ireturn, 1) := by decide +kernel
theorem dX9_audit_153 : decode cX9_audit 153 = .ok (.iinc 4 1, 3) := by decide +kernel
theorem dX9_audit_156 : decode cX9_audit 156 = .ok (.goto (-114), 3) := by decide +kernel
theorem dX9_audit_159 : decode cX9_audit 159 = .ok (.iconst (-1), 1) := by decide +kernel
theorem dX9_audit_160 : decode cX9_audit 160 = .ok (.ireturn, 1) := by decide +kernel
theorem dX9_seed_0 : decode cX9_seed 0 = .ok (.iload_n 1, 1) := by decide +kernel
theorem dX9_seed_1 : decode cX9_seed 1 = .ok (.ifCond .ge 6, 3) := by decide +kernel
theorem dX9_seed_4 : decode cX9_seed 4 = .ok (.ldc 171, 2) := by decide +kernel
theorem dX9_seed_6 : decode cX9_seed 6 = .ok (.ireturn, 1) := by decide +kernel
theorem dX9_seed_7 : decode cX9_seed 7 = .ok (.aload_n 0, 1) := by decide +kernel
theorem dX9_seed_8 : decode cX9_seed 8 = .ok (.getfield 218, 3) := by decide +kernel
theorem dX9_seed_11 : decode cX9_seed 11 = .ok (.istore_n 2, 1) := by decide +kernel
theorem dX9_seed_12 : decode cX9_seed 12 = .ok (.aload_n 0, 1) := by decide +kernel
theorem dX9_seed_13 : decode cX9_seed 13 = .ok (.iload_n 1, 1) := by decide +kernel
theorem dX9_seed_14 : decode cX9_seed 14 = .ok (.putfield 218, 3) := by decide +kernel
theorem dX9_seed_17 : decode cX9_seed 17 = .ok (.iload_n 2, 1) := by decide +kernel
theorem dX9_seed_18 : decode cX9_seed 18 = .ok (.ireturn, 1) := by decide +kernel
theorem dX9_keep_0 : decode cX9_keep 0 = .ok (.iload_n 1, 1) := by decide +kernel
theorem dX9_keep_1 : decode cX9_keep 1 = .ok (.i2l, 1) := by decide +kernel
theorem dX9_keep_2 : decode cX9_keep 2 = .ok (.lconst 0, 1) := by decide +kernel
theorem dX9_keep_3 : decode cX9_keep 3 = .ok (.lconst 1, 1) := by decide +kernel
theorem dX9_keep_4 : decode cX9_keep 4 = .ok (.invokestatic 172, 3) := by decide +kernel
theorem dX9_keep_7 : decode cX9_keep 7 = .ok (.ifCond .ne 6, 3) := by decide +kernel
theorem dX9_keep_10 : decode cX9_keep 10 = .ok (.ldc 179, 2) := by decide +kernel
theorem dX9_keep_12 : decode cX9_keep 12 = .ok (.ireturn, 1) := by decide +kernel
theorem dX9_keep_13 : decode cX9_keep 13 = .ok (.iconst 0, 1) := by decide +kernel
theorem dX9_keep_14 : decode cX9_keep 14 = .ok (.istore_n 2, 1) := by decide +kernel
theorem dX9_keep_15 : decode cX9_keep 15 = .ok (.iload_n 2, 1) := by decide +kernel
theorem dX9_keep_16 : decode cX9_keep 16 = .ok (.sipush 368, 3) := by decide +kernel
theorem dX9_keep_19 : decode cX9_keep 19 = .ok (.if_icmp .ge 27, 3) := by decide +kernel
theorem dX9_keep_22 : decode cX9_keep 22 = .ok (.aload_n 0, 1) := by decide +kernel
theorem dX9_keep_23 : decode cX9_keep 23 = .ok (.getfield 16, 3) := by decide +kernel
theorem dX9_keep_26 : decode cX9_keep 26 = .ok (.sipush 368, 3) := by decide +kernel
theorem dX9_keep_29 : decode cX9_keep 29 = .ok (.iload_n 1, 1) := by decide +kernel
theorem dX9_keep_30 : decode cX9_keep 30 = .ok (.imul, 1) := by decide +kernel
theorem dX9_keep_31 : decode cX9_keep 31 = .ok (.iload_n 2, 1) := by decide +kernel
theorem dX9_keep_32 : decode cX9_keep 32 = .ok (.iadd, 1) := by decide +kernel
theorem dX9_keep_33 : decode cX9_keep 33 = .ok (.aload_n 0, 1) := by decide +kernel
theorem dX9_keep_34 : decode cX9_keep 34 = .ok (.getfield 7, 3) := by decide +kernel
theorem dX9_keep_37 : decode cX9_keep 37 = .ok (.iload_n 2, 1) := by decide +kernel
theorem dX9_keep_38 : decode cX9_keep 38 = .ok (.iaload, 1) := by decide +kernel
theorem dX9_keep_39 : decode cX9_keep 39 = .ok (.iastore, 1) := by decide +kernel
theorem dX9_keep_40 : decode cX9_keep 40 = .ok (.iinc 2 1, 3) := by decide +kernel
theorem dX9_keep_43 : decode cX9_keep 43 = .ok (.goto (-28), 3) := by decide +kernel
theorem dX9_keep_46 : decode cX9_keep 46 = .ok (.aload_n 0, 1) := by decide +kernel
theorem dX9_keep_47 : decode cX9_keep 47 = .ok (.getfield 19, 3) := by decide +kernel
theorem dX9_keep_50 : decode cX9_keep 50 = .ok (.iload_n 1, 1) := by decide +kernel
theorem dX9_keep_51 : decode cX9_keep 51 = .ok (.aload_n 0, 1) := by decide +kernel
theorem dX9_keep_52 : decode cX9_keep 52 = .ok (.getfield 218, 3) := by decide +kernel
theorem dX9_keep_55 : decode cX9_keep 55 = .ok (.iastore, 1) := by decide +kernel
theorem dX9_keep_56 : decode cX9_keep 56 = .ok (.aload_n 0, 1) := by decide +kernel
theorem dX9_keep_57 : decode cX9_keep 57 = .ok (.getfield 22, 3) := by decide +kernel
theorem dX9_keep_60 : decode cX9_keep 60 = .ok (.iload_n 1, 1) := by decide +kernel
theorem dX9_keep_61 : decode cX9_keep 61 = .ok (.iconst 1, 1) := by decide +kernel
theorem dX9_keep_62 : decode cX9_keep 62 = .ok (.bastore, 1) := by decide +kernel
theorem dX9_keep_63 : decode cX9_keep 63 = .ok (.aload_n 0, 1) := by decide +kernel
theorem dX9_keep_64 : decode cX9_keep 64 = .ok (.iconst 0, 1) := by decide +kernel
theorem dX9_keep_65 : decode cX9_keep 65 = .ok (.putfield 167, 3) := by decide +kernel
theorem dX9_keep_68 : decode cX9_keep 68 = .ok (.iconst 1, 1) := by decide +kernel
theorem dX9_keep_69 : decode cX9_keep 69 = .ok (.ireturn, 1) := by decide +kernel
theorem dX9_goBack_0 : decode cX9_goBack 0 = .ok (.iload_n 1, 1) := by decide +kernel
theorem dX9_goBack_1 : decode cX9_goBack 1 = .ok (.i2l, 1) := by decide +kernel
theorem dX9_goBack_2 : decode cX9_goBack 2 = .ok (.lconst 0, 1) := by decide +kernel
theorem dX9_goBack_3 : decode cX9_goBack 3 = .ok (.lconst 1, 1) := by decide +kernel
theorem dX9_goBack_4 : decode cX9_goBack 4 = .ok (.invokestatic 172, 3) := by decide +kernel
theorem dX9_goBack_7 : decode cX9_goBack 7 = .ok (.ifCond .ne 6, 3) := by decide +kernel
theorem dX9_goBack_10 : decode cX9_goBack 10 = .ok (.ldc 179, 2) := by decide +kernel
theorem dX9_goBack_12 : decode cX9_goBack 12 = .ok (.ireturn, 1) := by decide +kernel
theorem dX9_goBack_13 : decode cX9_goBack 13 = .ok (.aload_n 0, 1) := by decide +kernel
theorem dX9_goBack_14 : decode cX9_goBack 14 = .ok (.getfield 22, 3) := by decide +kernel
theorem dX9_goBack_17 : decode cX9_goBack 17 = .ok (.iload_n 1, 1) := by decide +kernel
theorem dX9_goBack_18 : decode cX9_goBack 18 = .ok (.baload, 1) := by decide +kernel
theorem dX9_goBack_19 : decode cX9_goBack 19 = .ok (.ifCond .ne 6, 3) := by decide +kernel
theorem dX9_goBack_22 : decode cX9_goBack 22 = .ok (.ldc 199, 2) := by decide +kernel
theorem dX9_goBack_24 : decode cX9_goBack 24 = .ok (.ireturn, 1) := by decide +kernel
theorem dX9_goBack_25 : decode cX9_goBack 25 = .ok (.iconst 0, 1) := by decide +kernel
theorem dX9_goBack_26 : decode cX9_goBack 26 = .ok (.istore_n 2, 1) := by decide +kernel
theorem dX9_goBack_27 : decode cX9_goBack 27 = .ok (.iload_n 2, 1) := by decide +kernel
theorem dX9_goBack_28 : decode cX9_goBack 28 = .ok (.sipush 368, 3) := by decide +kernel
theorem dX9_goBack_31 : decode cX9_goBack 31 = .ok (.if_icmp .ge 27, 3) := by decide +kernel
theorem dX9_goBack_34 : decode cX9_goBack 34 = .ok (.aload_n 0, 1) := by decide +kernel
theorem dX9_goBack_35 : decode cX9_goBack 35 = .ok (.getfield 7, 3) := by decide +kernel
theorem dX9_goBack_38 : decode cX9_goBack 38 = .ok (.iload_n 2, 1) := by decide +kernel
theorem dX9_goBack_39 : decode cX9_goBack 39 = .ok (.aload_n 0, 1) := by decide +kernel
theorem dX9_goBack_40 : decode cX9_goBack 40 = .ok (.getfield 16, 3) := by decide +kernel
theorem dX9_goBack_43 : decode cX9_goBack 43 = .ok (.sipush 368, 3) := by decide +kernel
theorem dX9_goBack_46 : decode cX9_goBack 46 = .ok (.iload_n 1, 1) := by decide +kernel
theorem dX9_goBack_47 : decode cX9_goBack 47 = .ok (.imul, 1) := by decide +kernel
theorem dX9_goBack_48 : decode cX9_goBack 48 = .ok (.iload_n 2, 1) := by decide +kernel
theorem dX9_goBack_49 : decode cX9_goBack 49 = .ok (.iadd, 1) := by decide +kernel
theorem dX9_goBack_50 : decode cX9_goBack 50 = .ok (.iaload, 1) := by decide +kernel
theorem dX9_goBack_51 : decode cX9_goBack 51 = .ok (.iastore, 1) := by decide +kernel
theorem dX9_goBack_52 : decode cX9_goBack 52 = .ok (.iinc 2 1, 3) := by decide +kernel
theorem dX9_goBack_55 : decode cX9_goBack 55 = .ok (.goto (-28), 3) := by decide +kernel
theorem dX9_goBack_58 : decode cX9_goBack 58 = .ok (.aload_n 0, 1) := by decide +kernel
theorem dX9_goBack_59 : decode cX9_goBack 59 = .ok (.aload_n 0, 1) := by decide +kernel
theorem dX9_goBack_60 : decode cX9_goBack 60 = .ok (.getfield 19, 3) := by decide +kernel
theorem dX9_goBack_63 : decode cX9_goBack 63 = .ok (.iload_n 1, 1) := by decide +kernel
theorem dX9_goBack_64 : decode cX9_goBack 64 = .ok (.iaload, 1) := by decide +kernel
theorem dX9_goBack_65 : decode cX9_goBack 65 = .ok (.putfield 218, 3) := by decide +kernel
theorem dX9_goBack_68 : decode cX9_goBack 68 = .ok (.aload_n 0, 1) := by decide +kernel
theorem dX9_goBack_69 : decode cX9_goBack 69 = .ok (.iconst 0, 1) := by decide +kernel
theorem dX9_goBack_70 : decode cX9_goBack 70 = .ok (.putfield 167, 3) := by decide +kernel
theorem dX9_goBack_73 : decode cX9_goBack 73 = .ok (.iconst 1, 1) := by decide +kernel
theorem dX9_goBack_74 : decode cX9_goBack 74 = .ok (.ireturn, 1) := by decide +kernel
theorem dJ9_max_7cf53_0 : decode cJ9_max_7cf53 0 = .ok (.iload_n 0, 1) := by decide +kernel
theorem dJ9_max_7cf53_1 : decode cJ9_max_7cf53 1 = .ok (.iload_n 1, 1) := by decide +kernel
theorem dJ9_max_7cf53_2 : decode cJ9_max_7cf53 2 = .ok (.if_icmp .lt 7, 3) := by decide +kernel
theorem dJ9_max_7cf53_5 : decode cJ9_max_7cf53 5 = .ok (.iload_n 0, 1) := by decide +kernel
theorem dJ9_max_7cf53_6 : decode cJ9_max_7cf53 6 = .ok (.goto 4, 3) := by decide +kernel
theorem dJ9_max_7cf53_9 : decode cJ9_max_7cf53 9 = .ok (.iload_n 1, 1) := by decide +kernel
theorem dJ9_max_7cf53_10 : decode cJ9_max_7cf53 10 = .ok (.ireturn, 1) := by decide +kernel
theorem dJ9_min_7cf53_0 : decode cJ9_min_7cf53 0 = .ok (.iload_n 0, 1) := by decide +kernel
theorem dJ9_min_7cf53_1 : decode cJ9_min_7cf53 1 = .ok (.iload_n 1, 1) := by decide +kernel
theorem dJ9_min_7cf53_2 : decode cJ9_min_7cf53 2 = .ok (.if_icmp .gt 7, 3) := by decide +kernel
theorem dJ9_min_7cf53_5 : decode cJ9_min_7cf53 5 = .ok (.iload_n 0, 1) := by decide +kernel
theorem dJ9_min_7cf53_6 : decode cJ9_min_7cf53 6 = .ok (.goto 4, 3) := by decide +kernel
theorem dJ9_min_7cf53_9 : decode cJ9_min_7cf53 9 = .ok (.iload_n 1, 1) := by decide +kernel
theorem dJ9_min_7cf53_10 : decode cJ9_min_7cf53 10 = .ok (.ireturn, 1) := by decide +kernel
theorem dJ7_fill_53178_0 : decode cJ7_fill_53178 0 = .ok (.iconst 0, 1) := by decide +kernel
theorem dJ7_fill_53178_1 : decode cJ7_fill_53178 1 = .ok (.istore_n 2, 1) := by decide +kernel
theorem dJ7_fill_53178_2 : decode cJ7_fill_53178 2 = .ok (.aload_n 0, 1) := by decide +kernel
theorem dJ7_fill_53178_3 : decode cJ7_fill_53178 3 = .ok (.arraylength, 1) := by decide +kernel
theorem dJ7_fill_53178_4 : decode cJ7_fill_53178 4 = .ok (.istore_n 3, 1) := by decide +kernel
theorem dJ7_fill_53178_5 : decode cJ7_fill_53178 5 = .ok (.iload_n 2, 1) := by decide +kernel
theorem dJ7_fill_53178_6 : decode cJ7_fill_53178 6 = .ok (.iload_n 3, 1) := by decide +kernel
theorem dJ7_fill_53178_7 : decode cJ7_fill_53178 7 = .ok (.if_icmp .ge 13, 3) := by decide +kernel
theorem dJ7_fill_53178_10 : decode cJ7_fill_53178 10 = .ok (.aload_n 0, 1) := by decide +kernel
theorem dJ7_fill_53178_11 : decode cJ7_fill_53178 11 = .ok (.iload_n 2, 1) := by decide +kernel
theorem dJ7_fill_53178_12 : decode cJ7_fill_53178 12 = .ok (.iload_n 1, 1) := by decide +kernel
theorem dJ7_fill_53178_13 : decode cJ7_fill_53178 13 = .ok (.iastore, 1) := by decide +kernel
theorem dJ7_fill_53178_14 : decode cJ7_fill_53178 14 = .ok (.iinc 2 1, 3) := by decide +kernel
theorem dJ7_fill_53178_17 : decode cJ7_fill_53178 17 = .ok (.goto (-12), 3) := by decide +kernel
theorem dJ7_fill_53178_20 : decode cJ7_fill_53178 20 = .ok (.return_, 1) := by decide +kernel
theorem dL_law_0 : decode cL_law 0 = .ok (.new 7, 3) := by decide +kernel
theorem dL_law_3 : decode cL_law 3 = .ok (.dup, 1) := by decide +kernel
theorem dL_law_4 : decode cL_law 4 = .ok (.invokespecial 9, 3) := by decide +kernel
theorem dL_law_7 : decode cL_law 7 = .ok (.astore_n 1, 1) := by decide +kernel
theorem dL_law_8 : decode cL_law 8 = .ok (.new 10, 3) := by decide +kernel
theorem dL_law_11 : decode cL_law 11 = .ok (.dup, 1) := by decide +kernel
theorem dL_law_12 : decode cL_law 12 = .ok (.invokespecial 12, 3) := by decide +kernel
theorem dL_law_15 : decode cL_law 15 = .ok (.astore_n 2, 1) := by decide +kernel
theorem dL_law_16 : decode cL_law 16 = .ok (.iconst 0, 1) := by decide +kernel
theorem dL_law_17 : decode cL_law 17 = .ok (.istore_n 3, 1) := by decide +kernel
theorem dL_law_18 : decode cL_law 18 = .ok (.iload_n 3, 1) := by decide +kernel
theorem dL_law_19 : decode cL_law 19 = .ok (.aload_n 0, 1) := by decide +kernel
theorem dL_law_20 : decode cL_law 20 = .ok (.arraylength, 1) := by decide +kernel
theorem dL_law_21 : decode cL_law 21 = .ok (.iconst 4, 1) := by decide +kernel
theorem dL_law_22 : decode cL_law 22 = .ok (.isub, 1) := by decide +kernel
theorem dL_law_23 : decode cL_law 23 = .ok (.if_icmp .gt 698, 3) := by decide +kernel
theorem dL_law_26 : decode cL_law 26 = .ok (.aload_n 0, 1) := by decide +kernel
theorem dL_law_27 : decode cL_law 27 = .ok (.iload_n 3, 1) := by decide +kernel
theorem dL_law_28 : decode cL_law 28 = .ok (.iaload, 1) := by decide +kernel
theorem dL_law_29 : decode cL_law 29 = .ok (.bipush 31, 2) := by decide +kernel
theorem dL_law_31 : decode cL_law 31 = .ok (.iand, 1) := by decide +kernel
theorem dL_law_32 : decode cL_law 32 = .ok (.tableswitch 683 0 20 #[100, 123, 156, 189, 212, 245, 268, 301, 324, 367, 380, 403, 426, 449, 472, 505, 548, 581, 614, 637, 660], 100) := by decide +kernel
theorem dL_law_132 : decode cL_law 132 = .ok (.aload_n 1, 1) := by decide +kernel
theorem dL_law_133 : decode cL_law 133 = .ok (.aload_n 0, 1) := by decide +kernel
theorem dL_law_134 : decode cL_law 134 = .ok (.iload_n 3, 1) := by decide +kernel
theorem dL_law_135 : decode cL_law 135 = .ok (.iconst 1, 1) := by decide +kernel
theorem dL_law_136 : decode cL_law 136 = .ok (.iadd, 1) := by decide +kernel
theorem dL_law_137 : decode cL_law 137 = .ok (.iaload, 1) := by decide +kernel
theorem dL_law_138 : decode cL_law 138 = .ok (.invokevirtual 13, 3) := by decide +kernel
theorem dL_law_141 : decode cL_law 141 = .ok (.aload_n 2, 1) := by decide +kernel
theorem dL_law_142 : decode cL_law 142 = .ok (.aload_n 0, 1) := by decide +kernel
theorem dL_law_143 : decode cL_law 143 = .ok (.iload_n 3, 1) := by decide +kernel
theorem dL_law_144 : decode cL_law 144 = .ok (.iconst 1, 1) := by decide +kernel
theorem dL_law_145 : decode cL_law 145 = .ok (.iadd, 1) := by decide +kernel
theorem dL_law_146 : decode cL_law 146 = .ok (.iaload, 1) := by decide +kernel
theorem dL_law_147 : decode cL_law 147 = .ok (.invokevirtual 17, 3) := by decide +kernel
theorem dL_law_150 : decode cL_law 150 = .ok (.if_icmp .eq 565, 3) := by decide +kernel
theorem dL_law_153 : decode cL_law 153 = .ok (.iconst 0, 1) := by decide +kernel
theorem dL_law_154 : decode cL_law 154 = .ok (.ireturn, 1) := by decide +kernel
theorem dL_law_155 : decode cL_law 155 = .ok (.aload_n 1, 1) := by decide +kernel
theorem dL_law_156 : decode cL_law 156 = .ok (.aload_n 0, 1) := by decide +kernel
theorem dL_law_157 : decode cL_law 157 = .ok (.iload_n 3, 1) := by decide +kernel
theorem dL_law_158 : decode cL_law 158 = .ok (.iconst 1, 1) := by decide +kernel
theorem dL_law_159 : decode cL_law 159 = .ok (.iadd, 1) := by decide +kernel
theorem dL_law_160 : decode cL_law 160 = .ok (.iaload, 1) := by decide +kernel
theorem dL_law_161 : decode cL_law 161 = .ok (.aload_n 0, 1) := by decide +kernel
theorem dL_law_162 : decode cL_law 162 = .ok (.iload_n 3, 1) := by decide +kernel
theorem dL_law_163 : decode cL_law 163 = .ok (.iconst 2, 1) := by decide +kernel
theorem dL_law_164 : decode cL_law 164 = .ok (.iadd, 1) := by decide +kernel
theorem dL_law_165 : decode cL_law 165 = .ok (.iaload, 1) := by decide +kernel
theorem dL_law_166 : decode cL_law 166 = .ok (.invokevirtual 18, 3) := by decide +kernel
theorem dL_law_169 : decode cL_law 169 = .ok (.aload_n 2, 1) := by decide +kernel
theorem dL_law_170 : decode cL_law 170 = .ok (.aload_n 0, 1) := by decide +kernel
theorem dL_law_171 : decode cL_law 171 = .ok (.iload_n 3, 1) := by decide +kernel
theorem dL_law_172 : decode cL_law 172 = .ok (.iconst 1, 1) := by decide +kernel
theorem dL_law_173 : decode cL_law 173 = .ok (.iadd, 1) := by decide +kernel
theorem dL_law_174 : decode cL_law 174 = .ok (.iaload, 1) := by decide +kernel
theorem dL_law_175 : decode cL_law 175 = .ok (.aload_n 0, 1) := by decide +kernel
theorem dL_law_176 : decode cL_law 176 = .ok (.iload_n 3, 1) := by decide +kernel
theorem dL_law_177 : decode cL_law 177 = .ok (.iconst 2, 1) := by decide +kernel
theorem dL_law_178 : decode cL_law 178 = .ok (.iadd, 1) := by decide +kernel
theorem dL_law_179 : decode cL_law 179 = .ok (.iaload, 1) := by decide +kernel
theorem dL_law_180 : decode cL_law 180 = .ok (.invokevirtual 22, 3) := by decide +kernel
theorem dL_law_183 : decode cL_law 183 = .ok (.if_icmp .eq 532, 3) := by decide +kernel
theorem dL_law_186 : decode cL_law 186 = .ok (.iconst 0, 1) := by decide +kernel
theorem dL_law_187 : decode cL_law 187 = .ok (.ireturn, 1) := by decide +kernel
theorem dL_law_188 : decode cL_law 188 = .ok (.aload_n 1, 1) := by decide +kernel
theorem dL_law_189 : decode cL_law 189 = .ok (.aload_n 0, 1) := by decide +kernel
theorem dL_law_190 : decode cL_law 190 = .ok (.iload_n 3, 1) := by decide +kernel
theorem dL_law_191 : decode cL_law 191 = .ok (.iconst 1, 1) := by decide +kernel
theorem dL_law_192 : decode cL_law 192 = .ok (.iadd, 1) := by decide +kernel
theorem dL_law_193 : decode cL_law 193 = .ok (.iaload, 1) := by decide +kernel
theorem dL_law_194 : decode cL_law 194 = .ok (.aload_n 0, 1) := by decide +kernel
theorem dL_law_195 : decode cL_law 195 = .ok (.iload_n 3, 1) := by decide +kernel
theorem dL_law_196 : decode cL_law 196 = .ok (.iconst 2, 1) := by decide +kernel
theorem dL_law_197 : decode cL_law 197 = .ok (.iadd, 1) := by decide +kernel
theorem dL_law_198 : decode cL_law 198 = .ok (.iaload, 1) := by decide +kernel
theorem dL_law_199 : decode cL_law 199 = .ok (.invokevirtual 23, 3) := by decide +kernel
theorem dL_law_202 : decode cL_law 202 = .ok (.aload_n 2, 1) := by decide +kernel
theorem dL_law_203 : decode cL_law 203 = .ok (.aload_n 0, 1) := by decide +kernel
theorem dL_law_204 : decode cL_law 204 = .ok (.iload_n 3, 1) := by decide +kernel
theorem dL_law_205 : decode cL_law 205 = .ok (.iconst 1, 1) := by decide +kernel
theorem dL_law_206 : decode cL_law 206 = .ok (.iadd, 1) := by decide +kernel
theorem dL_law_207 : decode cL_law 207 = .ok (.iaload, 1) := by decide +kernel
theorem dL_law_208 : decode cL_law 208 = .ok (.aload_n 0, 1) := by decide +kernel
theorem dL_law_209 : decode cL_law 209 = .ok (.iload_n 3, 1) := by decide +kernel
theorem dL_law_210 : decode cL_law 210 = .ok (.iconst 2, 1) := by decide +kernel
theorem dL_law_211 : decode cL_law 211 = .ok (.iadd, 1) := by decide +kernel
theorem dL_law_212 : decode cL_law 212 = .ok (.iaload, 1) := by decide +kernel
theorem dL_law_213 : decode cL_law 213 = .ok (.invokevirtual 26, 3) := by decide +kernel
theorem dL_law_216 : decode cL_law 216 = .ok (.if_icmp .eq 499, 3) := by decide +kernel
theorem dL_law_219 : decode cL_law 219 = .ok (.iconst 0, 1) := by decide +kernel
theorem dL_law_220 : decode cL_law 220 = .ok (.ireturn, 1) := by decide +kernel
theorem dL_law_221 : decode cL_law 221 = .ok (.aload_n 1, 1) := by decide +kernel
theorem dL_law_222 : decode cL_law 222 = .ok (.aload_n 0, 1) := by decide +kernel
theorem dL_law_223 : decode cL_law 223 = .ok (.iload_n 3, 1) := by decide +kernel
theorem dL_law_224 : decode cL_law 224 = .ok (.iconst 1, 1) := by decide +kernel
theorem dL_law_225 : decode cL_law 225 = .ok (.iadd, 1) := by decide +kernel
theorem dL_law_226 : decode cL_law 226 = .ok (.iaload, 1) := by decide +kernel
theorem dL_law_227 : decode cL_law 227 = .ok (.invokevirtual 27, 3) := by decide +kernel
theorem dL_law_230 : decode cL_law 230 = .ok (.aload_n 2, 1) := by decide +kernel
theorem dL_law_231 : decode cL_law 231 = .ok (.aload_n 0, 1) := by decide +kernel
theorem dL_law_232 : decode cL_law 232 = .ok (.iload_n 3, 1) := by decide +kernel
theorem dL_law_233 : decode cL_law 233 = .ok (.iconst 1, 1) := by decide +kernel
theorem dL_law_234 : decode cL_law 234 = .ok (.iadd, 1) := by decide +kernel
theorem dL_law_235 : decode cL_law 235 = .ok (.iaload, 1) := by decide +kernel
theorem dL_law_236 : decode cL_law 236 = .ok (.invokevirtual 30, 3) := by decide +kernel
theorem dL_law_239 : decode cL_law 239 = .ok (.if_icmp .eq 476, 3) := by decide +kernel
theorem dL_law_242 : decode cL_law 242 = .ok (.iconst 0, 1) := by decide +kernel
theorem dL_law_243 : decode cL_law 243 = .ok (.ireturn, 1) := by decide +kernel
theorem dL_law_244 : decode cL_law 244 = .ok (.aload_n 1, 1) := by decide +kernel
theorem dL_law_245 : decode cL_law 245 = .ok (.aload_n 0, 1) := by decide +kernel
theorem dL_law_246 : decode cL_law 246 = .ok (.iload_n 3, 1) := by decide +kernel
theorem dL_law_247 : decode cL_law 247 = .ok (.iconst 1, 1) := by decide +kernel
theorem dL_law_248 : decode cL_law 248 = .ok (.iadd, 1) := by decide +kernel
theorem dL_law_249 : decode cL_law 249 = .ok (.iaload, 1) := by decide +kernel
theorem dL_law_250 : decode cL_law 250 = .ok (.aload_n 0, 1) := by decide +kernel
theorem dL_law_251 : decode cL_law 251 = .ok (.iload_n 3, 1) := by decide +kernel
theorem dL_law_252 : decode cL_law 252 = .ok (.iconst 2, 1) := by decide +kernel
theorem dL_law_253 : decode cL_law 253 = .ok (.iadd, 1) := by decide +kernel
theorem dL_law_254 : decode cL_law 254 = .ok (.iaload, 1) := by decide +kernel
theorem dL_law_255 : decode cL_law 255 = .ok (.invokevirtual 31, 3) := by decide +kernel
theorem dL_law_258 : decode cL_law 258 = .ok (.aload_n 2, 1) := by decide +kernel
theorem dL_law_259 : decode cL_law 259 = .ok (.aload_n 0, 1) := by decide +kernel
theorem dL_law_260 : decode cL_law 260 = .ok (.iload_n 3, 1) := by decide +kernel
theorem dL_law_261 : decode cL_law 261 = .ok (.iconst 1, 1) := by decide +kernel
theorem dL_law_262 : decode cL_law 262 = .ok (.iadd, 1) := by decide +kernel
theorem dL_law_263 : decode cL_law 263 = .ok (.iaload, 1) := by decide +kernel
theorem dL_law_264 : decode cL_law 264 = .ok (.aload_n 0, 1) := by decide +kernel
theorem dL_law_265 : decode cL_law 265 = .ok (.iload_n 3, 1) := by decide +kernel
theorem dL_law_266 : decode cL_law 266 = .ok (.iconst 2, 1) := by decide +kernel
theorem dL_law_267 : decode cL_law 267 = .ok (.iadd, 1) := by decide +kernel
theorem dL_law_268 : decode cL_law 268 = .ok (.iaload, 1) := by decide +kernel
theorem dL_law_269 : decode cL_law 269 = .ok (.invokevirtual 34, 3) := by decide +kernel
end
section
theorem dL_law_272 : decode cL_law 272 = .ok (.if_icmp .eq 443, 3) := by decide +kernel
theorem dL_law_275 : decode cL_law 275 = .ok (.iconst 0, 1) := by decide +kernel
theorem dL_law_276 : decode cL_law 276 = .ok (.ireturn, 1) := by decide +kernel
theorem dL_law_277 : decode cL_law 277 = .ok (.aload_n 1, 1) := by decide +kernel
theorem dL_law_278 : decode cL_law 278 = .ok (.aload_n 0, 1) := by decide +kernel
theorem dL_law_279 : decode cL_law 279 = .ok (.iload_n 3, 1) := by decide +kernel
theorem dL_law_280 : decode cL_law 280 = .ok (.iconst 1, 1) := by decide +kernel
theorem dL_law_281 : decode cL_law 281 = .ok (.iadd, 1) := by decide +kernel
theorem dL_law_282 : decode cL_law 282 = .ok (.iaload, 1) := by decide +kernel
theorem dL_law_283 : decode cL_law 283 = .ok (.invokevirtual 35, 3) := by decide +kernel
theorem dL_law_286 : decode cL_law 286 = .ok (.aload_n 2, 1) := by decide +kernel
theorem dL_law_287 : decode cL_law 287 = .ok (.aload_n 0, 1) := by decide +kernel
theorem dL_law_288 : decode cL_law 288 = .ok (.iload_n 3, 1) := by decide +kernel
theorem dL_law_289 : decode cL_law 289 = .ok (.iconst 1, 1) := by decide +kernel
theorem dL_law_290 : decode cL_law 290 = .ok (.iadd, 1) := by decide +kernel
theorem dL_law_291 : decode cL_law 291 = .ok (.iaload, 1) := by decide +kernel
theorem dL_law_292 : decode cL_law 292 = .ok (.invokevirtual 38, 3) := by decide +kernel
theorem dL_law_295 : decode cL_law 295 = .ok (.if_icmp .eq 420, 3) := by decide +kernel
theorem dL_law_298 : decode cL_law 298 = .ok (.iconst 0, 1) := by decide +kernel
theorem dL_law_299 : decode cL_law 299 = .ok (.ireturn, 1) := by decide +kernel
theorem dL_law_300 : decode cL_law 300 = .ok (.aload_n 1, 1) := by decide +kernel
theorem dL_law_301 : decode cL_law 301 = .ok (.aload_n 0, 1) := by decide +kernel
theorem dL_law_302 : decode cL_law 302 = .ok (.iload_n 3, 1) := by decide +kernel
theorem dL_law_303 : decode cL_law 303 = .ok (.iconst 1, 1) := by decide +kernel
theorem dL_law_304 : decode cL_law 304 = .ok (.iadd, 1) := by decide +kernel
theorem dL_law_305 : decode cL_law 305 = .ok (.iaload, 1) := by decide +kernel
theorem dL_law_306 : decode cL_law 306 = .ok (.aload_n 0, 1) := by decide +kernel
theorem dL_law_307 : decode cL_law 307 = .ok (.iload_n 3, 1) := by decide +kernel
theorem dL_law_308 : decode cL_law 308 = .ok (.iconst 2, 1) := by decide +kernel
theorem dL_law_309 : decode cL_law 309 = .ok (.iadd, 1) := by decide +kernel
theorem dL_law_310 : decode cL_law 310 = .ok (.iaload, 1) := by decide +kernel
theorem dL_law_311 : decode cL_law 311 = .ok (.invokevirtual 39, 3) := by decide +kernel
theorem dL_law_314 : decode cL_law 314 = .ok (.aload_n 2, 1) := by decide +kernel
theorem dL_law_315 : decode cL_law 315 = .ok (.aload_n 0, 1) := by decide +kernel
theorem dL_law_316 : decode cL_law 316 = .ok (.iload_n 3, 1) := by decide +kernel
theorem dL_law_317 : decode cL_law 317 = .ok (.iconst 1, 1) := by decide +kernel
theorem dL_law_318 : decode cL_law 318 = .ok (.iadd, 1) := by decide +kernel
theorem dL_law_319 : decode cL_law 319 = .ok (.iaload, 1) := by decide +kernel
theorem dL_law_320 : decode cL_law 320 = .ok (.aload_n 0, 1) := by decide +kernel
theorem dL_law_321 : decode cL_law 321 = .ok (.iload_n 3, 1) := by decide +kernel
theorem dL_law_322 : decode cL_law 322 = .ok (.iconst 2, 1) := by decide +kernel
theorem dL_law_323 : decode cL_law 323 = .ok (.iadd, 1) := by decide +kernel
theorem dL_law_324 : decode cL_law 324 = .ok (.iaload, 1) := by decide +kernel
theorem dL_law_325 : decode cL_law 325 = .ok (.invokevirtual 42, 3) := by decide +kernel
theorem dL_law_328 : decode cL_law 328 = .ok (.if_icmp .eq 387, 3) := by decide +kernel
theorem dL_law_331 : decode cL_law 331 = .ok (.iconst 0, 1) := by decide +kernel
theorem dL_law_332 : decode cL_law 332 = .ok (.ireturn, 1) := by decide +kernel
theorem dL_law_333 : decode cL_law 333 = .ok (.aload_n 1, 1) := by decide +kernel
theorem dL_law_334 : decode cL_law 334 = .ok (.aload_n 0, 1) := by decide +kernel
theorem dL_law_335 : decode cL_law 335 = .ok (.iload_n 3, 1) := by decide +kernel
theorem dL_law_336 : decode cL_law 336 = .ok (.iconst 1, 1) := by decide +kernel
theorem dL_law_337 : decode cL_law 337 = .ok (.iadd, 1) := by decide +kernel
theorem dL_law_338 : decode cL_law 338 = .ok (.iaload, 1) := by decide +kernel
theorem dL_law_339 : decode cL_law 339 = .ok (.invokevirtual 43, 3) := by decide +kernel
theorem dL_law_342 : decode cL_law 342 = .ok (.aload_n 2, 1) := by decide +kernel
theorem dL_law_343 : decode cL_law 343 = .ok (.aload_n 0, 1) := by decide +kernel
theorem dL_law_344 : decode cL_law 344 = .ok (.iload_n 3, 1) := by decide +kernel
theorem dL_law_345 : decode cL_law 345 = .ok (.iconst 1, 1) := by decide +kernel
theorem dL_law_346 : decode cL_law 346 = .ok (.iadd, 1) := by decide +kernel
theorem dL_law_347 : decode cL_law 347 = .ok (.iaload, 1) := by decide +kernel
theorem dL_law_348 : decode cL_law 348 = .ok (.invokevirtual 46, 3) := by decide +kernel
theorem dL_law_351 : decode cL_law 351 = .ok (.if_icmp .eq 364, 3) := by decide +kernel
theorem dL_law_354 : decode cL_law 354 = .ok (.iconst 0, 1) := by decide +kernel
theorem dL_law_355 : decode cL_law 355 = .ok (.ireturn, 1) := by decide +kernel
theorem dL_law_356 : decode cL_law 356 = .ok (.aload_n 1, 1) := by decide +kernel
theorem dL_law_357 : decode cL_law 357 = .ok (.aload_n 0, 1) := by decide +kernel
theorem dL_law_358 : decode cL_law 358 = .ok (.iload_n 3, 1) := by decide +kernel
theorem dL_law_359 : decode cL_law 359 = .ok (.iconst 1, 1) := by decide +kernel
theorem dL_law_360 : decode cL_law 360 = .ok (.iadd, 1) := by decide +kernel
theorem dL_law_361 : decode cL_law 361 = .ok (.iaload, 1) := by decide +kernel
theorem dL_law_362 : decode cL_law 362 = .ok (.aload_n 0, 1) := by decide +kernel
theorem dL_law_363 : decode cL_law 363 = .ok (.iload_n 3, 1) := by decide +kernel
theorem dL_law_364 : decode cL_law 364 = .ok (.iconst 2, 1) := by decide +kernel
theorem dL_law_365 : decode cL_law 365 = .ok (.iadd, 1) := by decide +kernel
theorem dL_law_366 : decode cL_law 366 = .ok (.iaload, 1) := by decide +kernel
theorem dL_law_367 : decode cL_law 367 = .ok (.aload_n 0, 1) := by decide +kernel
theorem dL_law_368 : decode cL_law 368 = .ok (.iload_n 3, 1) := by decide +kernel
theorem dL_law_369 : decode cL_law 369 = .ok (.iconst 3, 1) := by decide +kernel
theorem dL_law_370 : decode cL_law 370 = .ok (.iadd, 1) := by decide +kernel
theorem dL_law_371 : decode cL_law 371 = .ok (.iaload, 1) := by decide +kernel
theorem dL_law_372 : decode cL_law 372 = .ok (.invokevirtual 47, 3) := by decide +kernel
theorem dL_law_375 : decode cL_law 375 = .ok (.aload_n 2, 1) := by decide +kernel
theorem dL_law_376 : decode cL_law 376 = .ok (.aload_n 0, 1) := by decide +kernel
theorem dL_law_377 : decode cL_law 377 = .ok (.iload_n 3, 1) := by decide +kernel
theorem dL_law_378 : decode cL_law 378 = .ok (.iconst 1, 1) := by decide +kernel
theorem dL_law_379 : decode cL_law 379 = .ok (.iadd, 1) := by decide +kernel
theorem dL_law_380 : decode cL_law 380 = .ok (.iaload, 1) := by decide +kernel
theorem dL_law_381 : decode cL_law 381 = .ok (.aload_n 0, 1) := by decide +kernel
theorem dL_law_382 : decode cL_law 382 = .ok (.iload_n 3, 1) := by decide +kernel
theorem dL_law_383 : decode cL_law 383 = .ok (.iconst 2, 1) := by decide +kernel
theorem dL_law_384 : decode cL_law 384 = .ok (.iadd, 1) := by decide +kernel
theorem dL_law_385 : decode cL_law 385 = .ok (.iaload, 1) := by decide +kernel
theorem dL_law_386 : decode cL_law 386 = .ok (.aload_n 0, 1) := by decide +kernel
theorem dL_law_387 : decode cL_law 387 = .ok (.iload_n 3, 1) := by decide +kernel
theorem dL_law_388 : decode cL_law 388 = .ok (.iconst 3, 1) := by decide +kernel
theorem dL_law_389 : decode cL_law 389 = .ok (.iadd, 1) := by decide +kernel
theorem dL_law_390 : decode cL_law 390 = .ok (.iaload, 1) := by decide +kernel
theorem dL_law_391 : decode cL_law 391 = .ok (.invokevirtual 51, 3) := by decide +kernel
theorem dL_law_394 : decode cL_law 394 = .ok (.if_icmp .eq 321, 3) := by decide +kernel
theorem dL_law_397 : decode cL_law 397 = .ok (.iconst 0, 1) := by decide +kernel
theorem dL_law_398 : decode cL_law 398 = .ok (.ireturn, 1) := by decide +kernel
theorem dL_law_399 : decode cL_law 399 = .ok (.aload_n 1, 1) := by decide +kernel
theorem dL_law_400 : decode cL_law 400 = .ok (.invokevirtual 52, 3) := by decide +kernel
theorem dL_law_403 : decode cL_law 403 = .ok (.aload_n 2, 1) := by decide +kernel
theorem dL_law_404 : decode cL_law 404 = .ok (.invokevirtual 56, 3) := by decide +kernel
theorem dL_law_407 : decode cL_law 407 = .ok (.if_icmp .eq 308, 3) := by decide +kernel
theorem dL_law_410 : decode cL_law 410 = .ok (.iconst 0, 1) := by decide +kernel
theorem dL_law_411 : decode cL_law 411 = .ok (.ireturn, 1) := by decide +kernel
theorem dL_law_412 : decode cL_law 412 = .ok (.aload_n 1, 1) := by decide +kernel
theorem dL_law_413 : decode cL_law 413 = .ok (.aload_n 0, 1) := by decide +kernel
theorem dL_law_414 : decode cL_law 414 = .ok (.iload_n 3, 1) := by decide +kernel
theorem dL_law_415 : decode cL_law 415 = .ok (.iconst 1, 1) := by decide +kernel
theorem dL_law_416 : decode cL_law 416 = .ok (.iadd, 1) := by decide +kernel
theorem dL_law_417 : decode cL_law 417 = .ok (.iaload, 1) := by decide +kernel
theorem dL_law_418 : decode cL_law 418 = .ok (.invokevirtual 57, 3) := by decide +kernel
theorem dL_law_421 : decode cL_law 421 = .ok (.aload_n 2, 1) := by decide +kernel
theorem dL_law_422 : decode cL_law 422 = .ok (.aload_n 0, 1) := by decide +kernel
theorem dL_law_423 : decode cL_law 423 = .ok (.iload_n 3, 1) := by decide +kernel
theorem dL_law_424 : decode cL_law 424 = .ok (.iconst 1, 1) := by decide +kernel
theorem dL_law_425 : decode cL_law 425 = .ok (.iadd, 1) := by decide +kernel
theorem dL_law_426 : decode cL_law 426 = .ok (.iaload, 1) := by decide +kernel
theorem dL_law_427 : decode cL_law 427 = .ok (.invokevirtual 60, 3) := by decide +kernel
theorem dL_law_430 : decode cL_law 430 = .ok (.if_icmp .eq 285, 3) := by decide +kernel
theorem dL_law_433 : decode cL_law 433 = .ok (.iconst 0, 1) := by decide +kernel
theorem dL_law_434 : decode cL_law 434 = .ok (.ireturn, 1) := by decide +kernel
theorem dL_law_435 : decode cL_law 435 = .ok (.aload_n 1, 1) := by decide +kernel
theorem dL_law_436 : decode cL_law 436 = .ok (.aload_n 0, 1) := by decide +kernel
theorem dL_law_437 : decode cL_law 437 = .ok (.iload_n 3, 1) := by decide +kernel
theorem dL_law_438 : decode cL_law 438 = .ok (.iconst 1, 1) := by decide +kernel
theorem dL_law_439 : decode cL_law 439 = .ok (.iadd, 1) := by decide +kernel
theorem dL_law_440 : decode cL_law 440 = .ok (.iaload, 1) := by decide +kernel
theorem dL_law_441 : decode cL_law 441 = .ok (.invokevirtual 61, 3) := by decide +kernel
theorem dL_law_444 : decode cL_law 444 = .ok (.aload_n 2, 1) := by decide +kernel
theorem dL_law_445 : decode cL_law 445 = .ok (.aload_n 0, 1) := by decide +kernel
theorem dL_law_446 : decode cL_law 446 = .ok (.iload_n 3, 1) := by decide +kernel
theorem dL_law_447 : decode cL_law 447 = .ok (.iconst 1, 1) := by decide +kernel
theorem dL_law_448 : decode cL_law 448 = .ok (.iadd, 1) := by decide +kernel
theorem dL_law_449 : decode cL_law 449 = .ok (.iaload, 1) := by decide +kernel
theorem dL_law_450 : decode cL_law 450 = .ok (.invokevirtual 64, 3) := by decide +kernel
theorem dL_law_453 : decode cL_law 453 = .ok (.if_icmp .eq 262, 3) := by decide +kernel
theorem dL_law_456 : decode cL_law 456 = .ok (.iconst 0, 1) := by decide +kernel
theorem dL_law_457 : decode cL_law 457 = .ok (.ireturn, 1) := by decide +kernel
theorem dL_law_458 : decode cL_law 458 = .ok (.aload_n 1, 1) := by decide +kernel
theorem dL_law_459 : decode cL_law 459 = .ok (.aload_n 0, 1) := by decide +kernel
theorem dL_law_460 : decode cL_law 460 = .ok (.iload_n 3, 1) := by decide +kernel
theorem dL_law_461 : decode cL_law 461 = .ok (.iconst 1, 1) := by decide +kernel
theorem dL_law_462 : decode cL_law 462 = .ok (.iadd, 1) := by decide +kernel
theorem dL_law_463 : decode cL_law 463 = .ok (.iaload, 1) := by decide +kernel
theorem dL_law_464 : decode cL_law 464 = .ok (.invokevirtual 65, 3) := by decide +kernel
theorem dL_law_467 : decode cL_law 467 = .ok (.aload_n 2, 1) := by decide +kernel
theorem dL_law_468 : decode cL_law 468 = .ok (.aload_n 0, 1) := by decide +kernel
theorem dL_law_469 : decode cL_law 469 = .ok (.iload_n 3, 1) := by decide +kernel
theorem dL_law_470 : decode cL_law 470 = .ok (.iconst 1, 1) := by decide +kernel
theorem dL_law_471 : decode cL_law 471 = .ok (.iadd, 1) := by decide +kernel
theorem dL_law_472 : decode cL_law 472 = .ok (.iaload, 1) := by decide +kernel
theorem dL_law_473 : decode cL_law 473 = .ok (.invokevirtual 68, 3) := by decide +kernel
theorem dL_law_476 : decode cL_law 476 = .ok (.if_icmp .eq 239, 3) := by decide +kernel
theorem dL_law_479 : decode cL_law 479 = .ok (.iconst 0, 1) := by decide +kernel
theorem dL_law_480 : decode cL_law 480 = .ok (.ireturn, 1) := by decide +kernel
theorem dL_law_481 : decode cL_law 481 = .ok (.aload_n 1, 1) := by decide +kernel
theorem dL_law_482 : decode cL_law 482 = .ok (.aload_n 0, 1) := by decide +kernel
theorem dL_law_483 : decode cL_law 483 = .ok (.iload_n 3, 1) := by decide +kernel
theorem dL_law_484 : decode cL_law 484 = .ok (.iconst 1, 1) := by decide +kernel
theorem dL_law_485 : decode cL_law 485 = .ok (.iadd, 1) := by decide +kernel
theorem dL_law_486 : decode cL_law 486 = .ok (.iaload, 1) := by decide +kernel
theorem dL_law_487 : decode cL_law 487 = .ok (.invokevirtual 69, 3) := by decide +kernel
theorem dL_law_490 : decode cL_law 490 = .ok (.aload_n 2, 1) := by decide +kernel
theorem dL_law_491 : decode cL_law 491 = .ok (.aload_n 0, 1) := by decide +kernel
theorem dL_law_492 : decode cL_law 492 = .ok (.iload_n 3, 1) := by decide +kernel
theorem dL_law_493 : decode cL_law 493 = .ok (.iconst 1, 1) := by decide +kernel
theorem dL_law_494 : decode cL_law 494 = .ok (.iadd, 1) := by decide +kernel
theorem dL_law_495 : decode cL_law 495 = .ok (.iaload, 1) := by decide +kernel
theorem dL_law_496 : decode cL_law 496 = .ok (.invokevirtual 72, 3) := by decide +kernel
theorem dL_law_499 : decode cL_law 499 = .ok (.if_icmp .eq 216, 3) := by decide +kernel
theorem dL_law_502 : decode cL_law 502 = .ok (.iconst 0, 1) := by decide +kernel
theorem dL_law_503 : decode cL_law 503 = .ok (.ireturn, 1) := by decide +kernel
theorem dL_law_504 : decode cL_law 504 = .ok (.aload_n 1, 1) := by decide +kernel
theorem dL_law_505 : decode cL_law 505 = .ok (.aload_n 0, 1) := by decide +kernel
theorem dL_law_506 : decode cL_law 506 = .ok (.iload_n 3, 1) := by decide +kernel
theorem dL_law_507 : decode cL_law 507 = .ok (.iconst 1, 1) := by decide +kernel
theorem dL_law_508 : decode cL_law 508 = .ok (.iadd, 1) := by decide +kernel
theorem dL_law_509 : decode cL_law 509 = .ok (.iaload, 1) := by decide +kernel
theorem dL_law_510 : decode cL_law 510 = .ok (.aload_n 0, 1) := by decide +kernel
theorem dL_law_511 : decode cL_law 511 = .ok (.iload_n 3, 1) := by decide +kernel
theorem dL_law_512 : decode cL_law 512 = .ok (.iconst 2, 1) := by decide +kernel
theorem dL_law_513 : decode cL_law 513 = .ok (.iadd, 1) := by decide +kernel
theorem dL_law_514 : decode cL_law 514 = .ok (.iaload, 1) := by decide +kernel
theorem dL_law_515 : decode cL_law 515 = .ok (.invokevirtual 73, 3) := by decide +kernel
theorem dL_law_518 : decode cL_law 518 = .ok (.aload_n 2, 1) := by decide +kernel
theorem dL_law_519 : decode cL_law 519 = .ok (.aload_n 0, 1) := by decide +kernel
theorem dL_law_520 : decode cL_law 520 = .ok (.iload_n 3, 1) := by decide +kernel
theorem dL_law_521 : decode cL_law 521 = .ok (.iconst 1, 1) := by decide +kernel
theorem dL_law_522 : decode cL_law 522 = .ok (.iadd, 1) := by decide +kernel
theorem dL_law_523 : decode cL_law 523 = .ok (.iaload, 1) := by decide +kernel
theorem dL_law_524 : decode cL_law 524 = .ok (.aload_n 0, 1) := by decide +kernel
theorem dL_law_525 : decode cL_law 525 = .ok (.iload_n 3, 1) := by decide +kernel
theorem dL_law_526 : decode cL_law 526 = .ok (.iconst 2, 1) := by decide +kernel
theorem dL_law_527 : decode cL_law 527 = .ok (.iadd, 1) := by decide +kernel
theorem dL_law_528 : decode cL_law 528 = .ok (.iaload, 1) := by decide +kernel
theorem dL_law_529 : decode cL_law 529 = .ok (.invokevirtual 76, 3) := by decide +kernel
theorem dL_law_532 : decode cL_law 532 = .ok (.if_icmp .eq 183, 3) := by decide +kernel
theorem dL_law_535 : decode cL_law 535 = .ok (.iconst 0, 1) := by decide +kernel
theorem dL_law_536 : decode cL_law 536 = .ok (.ireturn, 1) := by decide +kernel
theorem dL_law_537 : decode cL_law 537 = .ok (.aload_n 1, 1) := by decide +kernel
theorem dL_law_538 : decode cL_law 538 = .ok (.aload_n 0, 1) := by decide +kernel
theorem dL_law_539 : decode cL_law 539 = .ok (.iload_n 3, 1) := by decide +kernel
theorem dL_law_540 : decode cL_law 540 = .ok (.iconst 1, 1) := by decide +kernel
theorem dL_law_541 : decode cL_law 541 = .ok (.iadd, 1) := by decide +kernel
theorem dL_law_542 : decode cL_law 542 = .ok (.iaload, 1) := by decide +kernel
theorem dL_law_543 : decode cL_law 543 = .ok (.aload_n 0, 1) := by decide +kernel
theorem dL_law_544 : decode cL_law 544 = .ok (.iload_n 3, 1) := by decide +kernel
theorem dL_law_545 : decode cL_law 545 = .ok (.iconst 2, 1) := by decide +kernel
theorem dL_law_546 : decode cL_law 546 = .ok (.iadd, 1) := by decide +kernel
theorem dL_law_547 : decode cL_law 547 = .ok (.iaload, 1) := by decide +kernel
theorem dL_law_548 : decode cL_law 548 = .ok (.aload_n 0, 1) := by decide +kernel
theorem dL_law_549 : decode cL_law 549 = .ok (.iload_n 3, 1) := by decide +kernel
theorem dL_law_550 : decode cL_law 550 = .ok (.iconst 3, 1) := by decide +kernel
theorem dL_law_551 : decode cL_law 551 = .ok (.iadd, 1) := by decide +kernel
theorem dL_law_552 : decode cL_law 552 = .ok (.iaload, 1) := by decide +kernel
theorem dL_law_553 : decode cL_law 553 = .ok (.invokevirtual 77, 3) := by decide +kernel
theorem dL_law_556 : decode cL_law 556 = .ok (.aload_n 2, 1) := by decide +kernel
theorem dL_law_557 : decode cL_law 557 = .ok (.aload_n 0, 1) := by decide +kernel
theorem dL_law_558 : decode cL_law 558 = .ok (.iload_n 3, 1) := by decide +kernel
theorem dL_law_559 : decode cL_law 559 = .ok (.iconst 1, 1) := by decide +kernel
theorem dL_law_560 : decode cL_law 560 = .ok (.iadd, 1) := by decide +kernel
theorem dL_law_561 : decode cL_law 561 = .ok (.iaload, 1) := by decide +kernel
theorem dL_law_562 : decode cL_law 562 = .ok (.aload_n 0, 1) := by decide +kernel
theorem dL_law_563 : decode cL_law 563 = .ok (.iload_n 3, 1) := by decide +kernel
theorem dL_law_564 : decode cL_law 564 = .ok (.iconst 2, 1) := by decide +kernel
theorem dL_law_565 : decode cL_law 565 = .ok (.iadd, 1) := by decide +kernel
theorem dL_law_566 : decode cL_law 566 = .ok (.iaload, 1) := by decide +kernel
theorem dL_law_567 : decode cL_law 567 = .ok (.aload_n 0, 1) := by decide +kernel
theorem dL_law_568 : decode cL_law 568 = .ok (.iload_n 3, 1) := by decide +kernel
theorem dL_law_569 : decode cL_law 569 = .ok (.iconst 3, 1) := by decide +kernel
theorem dL_law_570 : decode cL_law 570 = .ok (.iadd, 1) := by decide +kernel
theorem dL_law_571 : decode cL_law 571 = .ok (.iaload, 1) := by decide +kernel
theorem dL_law_572 : decode cL_law 572 = .ok (.invokevirtual 80, 3) := by decide +kernel
theorem dL_law_575 : decode cL_law 575 = .ok (.if_icmp .eq 140, 3) := by decide +kernel
theorem dL_law_578 : decode cL_law 578 = .ok (.iconst 0, 1) := by decide +kernel
theorem dL_law_579 : decode cL_law 579 = .ok (.ireturn, 1) := by decide +kernel
theorem dL_law_580 : decode cL_law 580 = .ok (.aload_n 1, 1) := by decide +kernel
theorem dL_law_581 : decode cL_law 581 = .ok (.aload_n 0, 1) := by decide +kernel
theorem dL_law_582 : decode cL_law 582 = .ok (.iload_n 3, 1) := by decide +kernel
theorem dL_law_583 : decode cL_law 583 = .ok (.iconst 1, 1) := by decide +kernel
theorem dL_law_584 : decode cL_law 584 = .ok (.iadd, 1) := by decide +kernel
theorem dL_law_585 : decode cL_law 585 = .ok (.iaload, 1) := by decide +kernel
theorem dL_law_586 : decode cL_law 586 = .ok (.aload_n 0, 1) := by decide +kernel
theorem dL_law_587 : decode cL_law 587 = .ok (.iload_n 3, 1) := by decide +kernel
theorem dL_law_588 : decode cL_law 588 = .ok (.iconst 2, 1) := by decide +kernel
theorem dL_law_589 : decode cL_law 589 = .ok (.iadd, 1) := by decide +kernel
theorem dL_law_590 : decode cL_law 590 = .ok (.iaload, 1) := by decide +kernel
theorem dL_law_591 : decode cL_law 591 = .ok (.invokevirtual 81, 3) := by decide +kernel
theorem dL_law_594 : decode cL_law 594 = .ok (.aload_n 2, 1) := by decide +kernel
theorem dL_law_595 : decode cL_law 595 = .ok (.aload_n 0, 1) := by decide +kernel
theorem dL_law_596 : decode cL_law 596 = .ok (.iload_n 3, 1) := by decide +kernel
theorem dL_law_597 : decode cL_law 597 = .ok (.iconst 1, 1) := by decide +kernel
theorem dL_law_598 : decode cL_law 598 = .ok (.iadd, 1) := by decide +kernel
theorem dL_law_599 : decode cL_law 599 = .ok (.iaload, 1) := by decide +kernel
theorem dL_law_600 : decode cL_law 600 = .ok (.aload_n 0, 1) := by decide +kernel
theorem dL_law_601 : decode cL_law 601 = .ok (.iload_n 3, 1) := by decide +kernel
theorem dL_law_602 : decode cL_law 602 = .ok (.iconst 2, 1) := by decide +kernel
theorem dL_law_603 : decode cL_law 603 = .ok (.iadd, 1) := by decide +kernel
theorem dL_law_604 : decode cL_law 604 = .ok (.iaload, 1) := by decide +kernel
theorem dL_law_605 : decode cL_law 605 = .ok (.invokevirtual 84, 3) := by decide +kernel
theorem dL_law_608 : decode cL_law 608 = .ok (.if_icmp .eq 107, 3) := by decide +kernel
theorem dL_law_611 : decode cL_law 611 = .ok (.iconst 0, 1) := by decide +kernel
theorem dL_law_612 : decode cL_law 612 = .ok (.ireturn, 1) := by decide +kernel
theorem dL_law_613 : decode cL_law 613 = .ok (.aload_n 1, 1) := by decide +kernel
theorem dL_law_614 : decode cL_law 614 = .ok (.aload_n 0, 1) := by decide +kernel
theorem dL_law_615 : decode cL_law 615 = .ok (.iload_n 3, 1) := by decide +kernel
theorem dL_law_616 : decode cL_law 616 = .ok (.iconst 1, 1) := by decide +kernel
theorem dL_law_617 : decode cL_law 617 = .ok (.iadd, 1) := by decide +kernel
theorem dL_law_618 : decode cL_law 618 = .ok (.iaload, 1) := by decide +kernel
theorem dL_law_619 : decode cL_law 619 = .ok (.aload_n 0, 1) := by decide +kernel
theorem dL_law_620 : decode cL_law 620 = .ok (.iload_n 3, 1) := by decide +kernel
theorem dL_law_621 : decode cL_law 621 = .ok (.iconst 2, 1) := by decide +kernel
theorem dL_law_622 : decode cL_law 622 = .ok (.iadd, 1) := by decide +kernel
theorem dL_law_623 : decode cL_law 623 = .ok (.iaload, 1) := by decide +kernel
theorem dL_law_624 : decode cL_law 624 = .ok (.invokevirtual 85, 3) := by decide +kernel
theorem dL_law_627 : decode cL_law 627 = .ok (.aload_n 2, 1) := by decide +kernel
theorem dL_law_628 : decode cL_law 628 = .ok (.aload_n 0, 1) := by decide +kernel
theorem dL_law_629 : decode cL_law 629 = .ok (.iload_n 3, 1) := by decide +kernel
theorem dL_law_630 : decode cL_law 630 = .ok (.iconst 1, 1) := by decide +kernel
theorem dL_law_631 : decode cL_law 631 = .ok (.iadd, 1) := by decide +kernel
theorem dL_law_632 : decode cL_law 632 = .ok (.iaload, 1) := by decide +kernel
theorem dL_law_633 : decode cL_law 633 = .ok (.aload_n 0, 1) := by decide +kernel
theorem dL_law_634 : decode cL_law 634 = .ok (.iload_n 3, 1) := by decide +kernel
theorem dL_law_635 : decode cL_law 635 = .ok (.iconst 2, 1) := by decide +kernel
theorem dL_law_636 : decode cL_law 636 = .ok (.iadd, 1) := by decide +kernel
theorem dL_law_637 : decode cL_law 637 = .ok (.iaload, 1) := by decide +kernel
theorem dL_law_638 : decode cL_law 638 = .ok (.invokevirtual 88, 3) := by decide +kernel
theorem dL_law_641 : decode cL_law 641 = .ok (.if_icmp .eq 74, 3) := by decide +kernel
theorem dL_law_644 : decode cL_law 644 = .ok (.iconst 0, 1) := by decide +kernel
theorem dL_law_645 : decode cL_law 645 = .ok (.ireturn, 1) := by decide +kernel
theorem dL_law_646 : decode cL_law 646 = .ok (.aload_n 1, 1) := by decide +kernel
theorem dL_law_647 : decode cL_law 647 = .ok (.aload_n 0, 1) := by decide +kernel
theorem dL_law_648 : decode cL_law 648 = .ok (.iload_n 3, 1) := by decide +kernel
theorem dL_law_649 : decode cL_law 649 = .ok (.iconst 1, 1) := by decide +kernel
theorem dL_law_650 : decode cL_law 650 = .ok (.iadd, 1) := by decide +kernel
theorem dL_law_651 : decode cL_law 651 = .ok (.iaload, 1) := by decide +kernel
theorem dL_law_652 : decode cL_law 652 = .ok (.invokevirtual 89, 3) := by decide +kernel
theorem dL_law_655 : decode cL_law 655 = .ok (.aload_n 2, 1) := by decide +kernel
theorem dL_law_656 : decode cL_law 656 = .ok (.aload_n 0, 1) := by decide +kernel
theorem dL_law_657 : decode cL_law 657 = .ok (.iload_n 3, 1) := by decide +kernel
theorem dL_law_658 : decode cL_law 658 = .ok (.iconst 1, 1) := by decide +kernel
theorem dL_law_659 : decode cL_law 659 = .ok (.iadd, 1) := by decide +kernel
theorem dL_law_660 : decode cL_law 660 = .ok (.iaload, 1) := by decide +kernel
theorem dL_law_661 : decode cL_law 661 = .ok (.invokevirtual 92, 3) := by decide +kernel
theorem dL_law_664 : decode cL_law 664 = .ok (.if_icmp .eq 51, 3) := by decide +kernel
theorem dL_law_667 : decode cL_law 667 = .ok (.iconst 0, 1) := by decide +kernel
theorem dL_law_668 : decode cL_law 668 = .ok (.ireturn, 1) := by decide +kernel
theorem dL_law_669 : decode cL_law 669 = .ok (.aload_n 1, 1) := by decide +kernel
theorem dL_law_670 : decode cL_law 670 = .ok (.aload_n 0, 1) := by decide +kernel
theorem dL_law_671 : decode cL_law 671 = .ok (.iload_n 3, 1) := by decide +kernel
theorem dL_law_672 : decode cL_law 672 = .ok (.iconst 1, 1) := by decide +kernel
theorem dL_law_673 : decode cL_law 673 = .ok (.iadd, 1) := by decide +kernel
theorem dL_law_674 : decode cL_law 674 = .ok (.iaload, 1) := by decide +kernel
theorem dL_law_675 : decode cL_law 675 = .ok (.invokevirtual 93, 3) := by decide +kernel
theorem dL_law_678 : decode cL_law 678 = .ok (.aload_n 2, 1) := by decide +kernel
theorem dL_law_679 : decode cL_law 679 = .ok (.aload_n 0, 1) := by decide +kernel
theorem dL_law_680 : decode cL_law 680 = .ok (.iload_n 3, 1) := by decide +kernel
theorem dL_law_681 : decode cL_law 681 = .ok (.iconst 1, 1) := by decide +kernel
theorem dL_law_682 : decode cL_law 682 = .ok (.iadd, 1) := by decide +kernel
theorem dL_law_683 : decode cL_law 683 = .ok (.iaload, 1) := by decide +kernel
theorem dL_law_684 : decode cL_law 684 = .ok (.invokevirtual 96, 3) := by decide +kernel
theorem dL_law_687 : decode cL_law 687 = .ok (.if_icmp .eq 28, 3) := by decide +kernel
theorem dL_law_690 : decode cL_law 690 = .ok (.iconst 0, 1) := by decide +kernel
theorem dL_law_691 : decode cL_law 691 = .ok (.ireturn, 1) := by decide +kernel
theorem dL_law_692 : decode cL_law 692 = .ok (.aload_n 1, 1) := by decide +kernel
theorem dL_law_693 : decode cL_law 693 = .ok (.aload_n 0, 1) := by decide +kernel
theorem dL_law_694 : decode cL_law 694 = .ok (.iload_n 3, 1) := by decide +kernel
theorem dL_law_695 : decode cL_law 695 = .ok (.iconst 1, 1) := by decide +kernel
theorem dL_law_696 : decode cL_law 696 = .ok (.iadd, 1) := by decide +kernel
theorem dL_law_697 : decode cL_law 697 = .ok (.iaload, 1) := by decide +kernel
theorem dL_law_698 : decode cL_law 698 = .ok (.invokevirtual 97, 3) := by decide +kernel
theorem dL_law_701 : decode cL_law 701 = .ok (.aload_n 2, 1) := by decide +kernel
theorem dL_law_702 : decode cL_law 702 = .ok (.aload_n 0, 1) := by decide +kernel
theorem dL_law_703 : decode cL_law 703 = .ok (.iload_n 3, 1) := by decide +kernel
theorem dL_law_704 : decode cL_law 704 = .ok (.iconst 1, 1) := by decide +kernel
theorem dL_law_705 : decode cL_law 705 = .ok (.iadd, 1) := by decide +kernel
theorem dL_law_706 : decode cL_law 706 = .ok (.iaload, 1) := by decide +kernel
theorem dL_law_707 : decode cL_law 707 = .ok (.invokevirtual 100, 3) := by decide +kernel
theorem dL_law_710 : decode cL_law 710 = .ok (.if_icmp .eq 5, 3) := by decide +kernel
theorem dL_law_713 : decode cL_law 713 = .ok (.iconst 0, 1) := by decide +kernel
theorem dL_law_714 : decode cL_law 714 = .ok (.ireturn, 1) := by decide +kernel
theorem dL_law_715 : decode cL_law 715 = .ok (.iinc 3 4, 3) := by decide +kernel
theorem dL_law_718 : decode cL_law 718 = .ok (.goto (-700), 3) := by decide +kernel
theorem dL_law_721 : decode cL_law 721 = .ok (.iconst 1, 1) := by decide +kernel
theorem dL_law_722 : decode cL_law 722 = .ok (.ireturn, 1) := by decide +kernel
end
section
/-! ===== worlds that keep their cells: the contract of a method over one, and its calls ===== -/
theorem i_X1 : ∀ w ∈ wsX10, w ∈ kt := by decide +kernel
theorem i_X2 : ∀ w ∈ wsX20, w ∈ kt := by decide +kernel
theorem i_X3 : ∀ w ∈ wsX30, w ∈ kt := by decide +kernel
theorem i_X4 : ∀ w ∈ wsX40, w ∈ kt := by decide +kernel
theorem i_X5 : ∀ w ∈ wsX50, w ∈ kt := by decide +kernel
theorem i_X7 : ∀ w ∈ wsX70, w ∈ kt := by decide +kernel
theorem i_X8 : ∀ w ∈ wsX80, w ∈ kt := by decide +kernel
theorem i_X9 : ∀ w ∈ wsX90, w ∈ kt := by decide +kernel
/-- what a method of a family asks beside its cells: the classes, and the one link to a nest mate -/
def kX (D : va_G) (tys : List (ClassId × FieldType)) (U : State) : Prop := va_K D vwCl tys U ∧ va_Nw (.methodLinkNest RX6 84 yX8_isWithin RX8) U
theorem kX_calling {D : va_G} {tys : List (ClassId × FieldType)} {U : State} {g : JFrame} {mk : MethodId} {a : Array Value} (h : kX D tys U) : kX D tys (U.calling g mk a) := ⟨va_K.moved (u := U) (U := U.calling g mk a) (Vm.Alike.refl U.vm) h.1, va_Nw.same rfl rfl h.2⟩
theorem kX_warm {D : va_G} {tys : List (ClassId × FieldType)} {s U : State} (hW : s.WarmedH U.vm) (h : kX D tys s) : kX D tys U := ⟨va_K.moved hW.alike h.1, va_Nw.warmM hW h.2⟩
def kPre (D : va_G) (tys : List (ClassId × FieldType)) (w : va_W) (U : State) : Prop := va_P D vwCl w U.heap ∧ kX D tys U
/-- the contracts: an int (or boolean) comes back, or nothing; the world is then w' -/
def CTi (l : Launch) (y : MethodName) (cc : ByteArray) (maxL : Nat) (ret : FieldType) (rm : Room) (D : va_G) (tys : List (ClassId × FieldType)) (A : Nat → Prop) (av : List Value) (w : va_W) (r : Int32) (w' : va_W) : Prop :=
  Met l y (.code y cc maxL (some ret) :: kt) rm (va_Pc av (kPre D tys w)) (va_Qi (fun r' (_ : Unit) => r' = r) (fun _ t => va_P D vwCl w' t.heap) A) 0 0 A
def CTv (l : Launch) (y : MethodName) (cc : ByteArray) (maxL : Nat) (rm : Room) (D : va_G) (tys : List (ClassId × FieldType)) (A : Nat → Prop) (av : List Value) (w w' : va_W) : Prop :=
  Met l y (.code y cc maxL none :: kt) rm (va_Pc av (kPre D tys w)) (va_Qv (fun (_ : Unit) => True) (fun _ t => va_P D vwCl w' t.heap) A) 0 0 A
theorem ct_int {l : Launch} {y : MethodName} {cc : ByteArray} {maxL : Nat} {rm : Room} {D : va_G} {tys : List (ClassId × FieldType)} {A : Nat → Prop} {av : List Value} {w : va_W} {r : Int32} {w' : va_W} (hy : plainName y.cls = true) (hn : (lg_sl av).length ≤ maxL)
    (body : ∀ (p : Program) (e : Env) (s : State) (m : MethodId) (args : Array Value) (below : List Frame) (meth : Method) (c : Code) (Q : State → Prop) (ls : Array Slot), p.tables.exec = Jvm.exec → c.code = cc → c.maxLocals = maxL → s.vm.findClass y.cls = some m.cls → (∀ w ∈ kt, w.before args s = true) → kX D tys s →
      (∀ (H : Heap) (locs : List Loc) (ls : Array Slot) (pc : Nat), va_P D vwCl w' H → va_S A s.heap H locs → decode cc pc = .ok (.ireturn, 1) → W p l e rm s m args below meth c H locs 0 0 Q (F0 m pc ls [.int r])) →
      va_P D vwCl w s.heap → va_S A s.heap s.heap [] → lv_has ls maxL (lv_args 0 av) → W p l e rm s m args below meth c s.heap [] 0 0 Q (F0 m 0 ls [])) : CTi l y cc maxL .int rm D tys A av w r w' := by
  refine Met.ofW (cc := cc) (maxL := maxL) (ret := some .int) hy rfl ?_
  intro p e s m args below meth c s₁ B hml hv
  obtain ⟨rfl, hP, hX⟩ := hv
  have hr := B.returns
  have hts := atoms_spec (ws := .code y cc maxL (some .int) :: kt) B.pre
  have hlocks := B.notSynchronized
  have hl := lv_entry av (n := maxL) hn
  rw [lg_entry_eq]
  exact body p e s m _ below meth c _ _ B.exec B.bytes hml (findClass_of_methodNamed B.named) (fun w h => hts w (List.mem_cons_of_mem _ h)) hX
    (fun H locs ls pc hP1 hS hd => W.iret B.exec B.bytes hr (fun t ht hW => ⟨⟨r, (), rfl, rfl, by show va_P D vwCl w' t.heap; rw [ht]; exact hP1⟩, hS.F ht⟩) hS.2.2 hd) hP va_S.rf hl
theorem ct_bool {l : Launch} {y : MethodName} {cc : ByteArray} {maxL : Nat} {rm : Room} {D : va_G} {tys : List (ClassId × FieldType)} {A : Nat → Prop} {av : List Value} {w : va_W} {r : Int32} {w' : va_W} (hy : plainName y.cls = true) (hn : (lg_sl av).length ≤ maxL)
    (body : ∀ (p : Program) (e : Env) (s : State) (m : MethodId) (args : Array Value) (below : List Frame) (meth : Method) (c : Code) (Q : State → Prop) (ls : Array Slot), p.tables.exec = Jvm.exec → c.code = cc → c.maxLocals = maxL → s.vm.findClass y.cls = some m.cls → (∀ w ∈ kt, w.before args s = true) → kX D tys s →
      (∀ (H : Heap) (locs : List Loc) (ls : Array Slot) (pc : Nat), (r = 0 ∨ r = 1) → va_P D vwCl w' H → va_S A s.heap H locs → decode cc pc = .ok (.ireturn, 1) → W p l e rm s m args below meth c H locs 0 0 Q (F0 m pc ls [.int r])) →
      va_P D vwCl w s.heap → va_S A s.heap s.heap [] → lv_has ls maxL (lv_args 0 av) → W p l e rm s m args below meth c s.heap [] 0 0 Q (F0 m 0 ls [])) : CTi l y cc maxL .boolean rm D tys A av w r w' := by
  refine Met.ofW (cc := cc) (maxL := maxL) (ret := some .boolean) hy rfl ?_
  intro p e s m args below meth c s₁ B hml hv
  obtain ⟨rfl, hP, hX⟩ := hv
  have hr := B.returns
  have hts := atoms_spec (ws := .code y cc maxL (some .boolean) :: kt) B.pre
  have hlocks := B.notSynchronized
  have hl := lv_entry av (n := maxL) hn
  rw [lg_entry_eq]
  exact body p e s m _ below meth c _ _ B.exec B.bytes hml (findClass_of_methodNamed B.named) (fun w h => hts w (List.mem_cons_of_mem _ h)) hX
    (fun H locs ls pc h01 hP1 hS hd => W.zret B.exec B.bytes hr (by rcases h01 with h | h <;> (rw [h]; rfl)) (fun t ht hW => ⟨⟨r, (), rfl, rfl, by show va_P D vwCl w' t.heap; rw [ht]; exact hP1⟩, hS.F ht⟩) hS.2.2 hd) hP va_S.rf hl
theorem ct_void {l : Launch} {y : MethodName} {cc : ByteArray} {maxL : Nat} {rm : Room} {D : va_G} {tys : List (ClassId × FieldType)} {A : Nat → Prop} {av : List Value} {w : va_W} {w' : va_W} (hy : plainName y.cls = true) (hn : (lg_sl av).length ≤ maxL)
    (body : ∀ (p : Program) (e : Env) (s : State) (m : MethodId) (args : Array Value) (below : List Frame) (meth : Method) (c : Code) (Q : State → Prop) (ls : Array Slot), p.tables.exec = Jvm.exec → c.code = cc → c.maxLocals = maxL → s.vm.findClass y.cls = some m.cls → (∀ w ∈ kt, w.before args s = true) → kX D tys s →
      (∀ (H : Heap) (locs : List Loc) (ls : Array Slot) (pc : Nat), va_P D vwCl w' H → va_S A s.heap H locs → decode cc pc = .ok (.return_, 1) → W p l e rm s m args below meth c H locs 0 0 Q (F0 m pc ls [])) →
      va_P D vwCl w s.heap → va_S A s.heap s.heap [] → lv_has ls maxL (lv_args 0 av) → W p l e rm s m args below meth c s.heap [] 0 0 Q (F0 m 0 ls [])) : CTv l y cc maxL rm D tys A av w w' := by
  refine Met.ofW (cc := cc) (maxL := maxL) (ret := none) hy rfl ?_
  intro p e s m args below meth c s₁ B hml hv
  obtain ⟨rfl, hP, hX⟩ := hv
  have hr := B.returns
  have hts := atoms_spec (ws := .code y cc maxL none :: kt) B.pre
  have hlocks := B.notSynchronized
  have hl := lv_entry av (n := maxL) hn
  rw [lg_entry_eq]
  exact body p e s m _ below meth c _ _ B.exec B.bytes hml (findClass_of_methodNamed B.named) (fun w h => hts w (List.mem_cons_of_mem _ h)) hX
    (fun H locs ls pc hP1 hS hd => W.vret B.exec B.bytes hr (fun t ht hW => ⟨⟨(), rfl, trivial, by show va_P D vwCl w' t.heap; rw [ht]; exact hP1⟩, hS.F ht⟩) hS.2.2 hd) hP va_S.rf hl
/-- the words of a method that is called on an object, or statically -/
def kV (y : MethodName) (cc : ByteArray) (maxL : Nat) (ret : Option FieldType) (n : Nat) : Prop := Cond.code y cc maxL ret ∈ kt ∧ Cond.instanceMethod y ∈ kt ∧ Cond.selects y.cls y y ∈ kt ∧ Cond.initialized y.cls ∈ kt ∧ (y.cls ≠ "java/lang/invoke/MethodHandle" ∧ y.cls ≠ "java/lang/invoke/VarHandle" ∧ (parseMethodDescriptor y.desc).map (fun d => d.parameters.length) = some n)
def kF (y : MethodName) (cc : ByteArray) (maxL : Nat) (ret : Option FieldType) (n : Nat) : Prop := Cond.code y cc maxL ret ∈ kt ∧ Cond.static y ∈ kt ∧ Cond.initialized y.cls ∈ kt ∧ (y.cls ≠ "java/lang/invoke/MethodHandle" ∧ y.cls ≠ "java/lang/invoke/VarHandle" ∧ (parseMethodDescriptor y.desc).map (fun d => d.parameters.length) = some n)
theorem kt_code {y : MethodName} {cc : ByteArray} {maxL : Nat} {ret : Option FieldType} (h : Cond.code y cc maxL ret ∈ kt) : GoodIn kt (.code y cc maxL ret :: kt) := fun w hw => (List.mem_cons.mp hw).elim (fun e => by rw [e]; exact kt_good _ h) (kt_good w)
section CALLS
variable {p : Program} {l : Launch} {e : Env} {R : Room} {s : State} {m : MethodId} {args : Array Value} {below : List Frame} {meth : Method} {c : Code} {H : Heap} {locs : List Loc} {Q : State → Prop}
  {y : MethodName} {bytes cc : ByteArray} {maxL nL n index : Nat} {ret : FieldType} {rm : Room} {own : String} {b : Addr} {As rest st0 : List Value} {D : va_G} {tys : List (ClassId × FieldType)} {A : Nat → Prop} {w w' : va_W} {r : Int32} {pc : Nat} {ls : Array Slot} {H0 : Heap}
theorem kPre_pre {av : List Value} (hX : kX D tys s) (hP : va_P D vwCl w H) : FrameBlind (va_Pc av (kPre D tys w)) ∧ ∀ U : State, U.heap = H → s.WarmedH U.vm → va_Pc av (kPre D tys w) av.toArray U :=
  ⟨fun a U g mk q => ⟨q.1, q.2.1, kX_calling q.2.2⟩, fun U hU hW => ⟨rfl, by rw [hU]; exact hP, kX_warm hW hX⟩⟩
/-- a call on an object, an int comes back -/
theorem ct_cVi (hM : CTi l y bytes maxL ret rm D tys A (.ref b :: As) w r w') (hx : p.tables.exec = Jvm.exec) (hb : c.code = cc) (hml : c.maxLocals = nL) (hown : s.vm.findClass own = some m.cls) (ht : ∀ w ∈ kt, w.before args s = true) (hX : kX D tys s) (hP : va_P D vwCl w H) (hS : va_S A H0 H locs)
    (hk : kV y bytes maxL (some ret) n) (hlk : Cond.methodLink own index y ∈ kt) (hc0 : rm.cells = 0) (hs0 : rm.slots = 0) (hR : rm.frames + 1 ≤ R.frames ∧ 8 + (maxL + 11) + rm.locals ≤ R.locals) (hrecv : ∃ cellB : Cell, H[b]? = some cellB ∧ cellB.vm.isStatics = false ∧ s.vm.findClass y.cls = some cellB.cls)
    (hn : As.length = n) (hsz : ls.size = nL) (hst : st0 = As.reverse ++ .ref b :: rest) (hW : (rest.map fun v => v.category).sum ≤ 8) (hdg : decode cc pc = .ok (.invokevirtual index, 3))
    (kk : ∀ (H1 : Heap) (locs1 : List Loc), va_P D vwCl w' H1 → va_S A H0 H1 locs1 → W p l e R s m args below meth c H1 locs1 0 0 Q (F0 m (pc + 3) ls (.int r :: rest))) : W p l e R s m args below meth c H locs 0 0 Q (F0 m pc ls st0) := by
  obtain ⟨h1, h2, h3, h4, h5⟩ := hk
  have hpre := kPre_pre (av := .ref b :: As) hX hP
  have hcw : CallW R s args own y.cls index y bytes maxL (some ret) (.code y bytes maxL (some ret) :: kt) rm 0 0 n := ⟨callB_of n ht (kt_code h1) rfl hc0 hs0 (ht _ h4) (ht _ hlk) h5 hR, ht _ h2, ht _ h3⟩
  refine va_calli (va_runV (As := As) (rest := rest) (C := y.cls) ⟨hx, hb, hml, hown, ht⟩ hM hcw ⟨hpre.1, hrecv, hpre.2⟩ rfl hn hsz hst (lv_room hW) hdg ⟨Nat.zero_le _, Nat.zero_le _⟩) hS (fun _ _ h => h) (fun _ h => h) (fun r1 u t H1 locs1 hth hvm hw hB hz1 hk1 hS1 => ?_)
  rw [hth] at hB
  rw [hw]
  exact kk H1 locs1 hB hS1
theorem ct_cVv (hM : CTv l y bytes maxL rm D tys A (.ref b :: As) w w') (hx : p.tables.exec = Jvm.exec) (hb : c.code = cc) (hml : c.maxLocals = nL) (hown : s.vm.findClass own = some m.cls) (ht : ∀ w ∈ kt, w.before args s = true) (hX : kX D tys s) (hP : va_P D vwCl w H) (hS : va_S A H0 H locs)
    (hk : kV y bytes maxL none n) (hlk : Cond.methodLink own index y ∈ kt) (hc0 : rm.cells = 0) (hs0 : rm.slots = 0) (hR : rm.frames + 1 ≤ R.frames ∧ 8 + (maxL + 11) + rm.locals ≤ R.locals) (hrecv : ∃ cellB : Cell, H[b]? = some cellB ∧ cellB.vm.isStatics = false ∧ s.vm.findClass y.cls = some cellB.cls)
    (hn : As.length = n) (hsz : ls.size = nL) (hst : st0 = As.reverse ++ .ref b :: rest) (hW : (rest.map fun v => v.category).sum ≤ 8) (hdg : decode cc pc = .ok (.invokevirtual index, 3))
    (kk : ∀ (H1 : Heap) (locs1 : List Loc), va_P D vwCl w' H1 → va_S A H0 H1 locs1 → W p l e R s m args below meth c H1 locs1 0 0 Q (F0 m (pc + 3) ls rest)) : W p l e R s m args below meth c H locs 0 0 Q (F0 m pc ls st0) := by
  obtain ⟨h1, h2, h3, h4, h5⟩ := hk
  have hpre := kPre_pre (av := .ref b :: As) hX hP
  have hcw : CallW R s args own y.cls index y bytes maxL none (.code y bytes maxL none :: kt) rm 0 0 n := ⟨callB_of n ht (kt_code h1) rfl hc0 hs0 (ht _ h4) (ht _ hlk) h5 hR, ht _ h2, ht _ h3⟩
  refine va_callv (va_runV (As := As) (rest := rest) (C := y.cls) ⟨hx, hb, hml, hown, ht⟩ hM hcw ⟨hpre.1, hrecv, hpre.2⟩ rfl hn hsz hst (lv_room hW) hdg ⟨Nat.zero_le _, Nat.zero_le _⟩) hS (fun _ _ h => h) (fun _ h => h) (fun u t H1 locs1 hth hvm hw hB hz1 hk1 hS1 => ?_)
  rw [hth] at hB
  exact kk H1 locs1 hB hS1
theorem ct_cSi (hM : CTi l y bytes maxL ret rm D tys A As w r w') (hx : p.tables.exec = Jvm.exec) (hb : c.code = cc) (hml : c.maxLocals = nL) (hown : s.vm.findClass own = some m.cls) (ht : ∀ w ∈ kt, w.before args s = true) (hX : kX D tys s) (hP : va_P D vwCl w H) (hS : va_S A H0 H locs)
    (hk : kF y bytes maxL (some ret) n) (hlk : Cond.methodLink own index y ∈ kt) (hc0 : rm.cells = 0) (hs0 : rm.slots = 0) (hR : rm.frames + 1 ≤ R.frames ∧ 8 + (maxL + 11) + rm.locals ≤ R.locals)
    (hn : As.length = n) (hsz : ls.size = nL) (hst : st0 = As.reverse ++ rest) (hW : (rest.map fun v => v.category).sum ≤ 8) (hdg : decode cc pc = .ok (.invokestatic index, 3))
    (kk : ∀ (H1 : Heap) (locs1 : List Loc), va_P D vwCl w' H1 → va_S A H0 H1 locs1 → W p l e R s m args below meth c H1 locs1 0 0 Q (F0 m (pc + 3) ls (.int r :: rest))) : W p l e R s m args below meth c H locs 0 0 Q (F0 m pc ls st0) := by
  obtain ⟨h1, h2, h4, h5⟩ := hk
  have hpre := kPre_pre (av := As) hX hP
  have hcw : CallB R s args own index y bytes maxL (some ret) (.code y bytes maxL (some ret) :: kt) rm 0 0 n ∧ (Cond.static y).before args s = true := ⟨callB_of n ht (kt_code h1) rfl hc0 hs0 (ht _ h4) (ht _ hlk) h5 hR, ht _ h2⟩
  refine va_calli (va_runS (As := As) (rest := rest) ⟨hx, hb, hml, hown, ht⟩ hM hcw ⟨hpre.1, hpre.2⟩ rfl hn hsz hst (lv_room hW) hdg ⟨Nat.zero_le _, Nat.zero_le _⟩) hS (fun _ _ h => h) (fun _ h => h) (fun r1 u t H1 locs1 hth hvm hw hB hz1 hk1 hS1 => ?_)
  rw [hth] at hB
  rw [hw]
  exact kk H1 locs1 hB hS1
theorem ct_cNi {host : String} (hM : CTi l y bytes maxL ret rm D tys A As w r w') (hx : p.tables.exec = Jvm.exec) (hb : c.code = cc) (hml : c.maxLocals = nL) (hown : s.vm.findClass own = some m.cls) (ht : ∀ w ∈ kt, w.before args s = true) (hX : kX D tys s) (hP : va_P D vwCl w H) (hS : va_S A H0 H locs)
    (hk : kF y bytes maxL (some ret) n) (hlk : va_Nw (.methodLinkNest own index y host) s) (hc0 : rm.cells = 0) (hs0 : rm.slots = 0) (hR : rm.frames + 1 ≤ R.frames ∧ 8 + (maxL + 11) + rm.locals ≤ R.locals)
    (hn : As.length = n) (hsz : ls.size = nL) (hst : st0 = As.reverse ++ rest) (hW : (rest.map fun v => v.category).sum ≤ 8) (hdg : decode cc pc = .ok (.invokestatic index, 3))
    (kk : ∀ (H1 : Heap) (locs1 : List Loc), va_P D vwCl w' H1 → va_S A H0 H1 locs1 → W p l e R s m args below meth c H1 locs1 0 0 Q (F0 m (pc + 3) ls (.int r :: rest))) : W p l e R s m args below meth c H locs 0 0 Q (F0 m pc ls st0) := by
  obtain ⟨h1, h2, h4, h5⟩ := hk
  have hpre := kPre_pre (av := As) hX hP
  have hcw : va_CN R s args own index y host bytes maxL (some ret) (.code y bytes maxL (some ret) :: kt) rm 0 0 n ∧ (Cond.static y).before args s = true ∧ True := ⟨va_cnB n ht (kt_code h1) rfl hc0 hs0 hlk (ht _ h4) h5 hR, ht _ h2, trivial⟩
  refine va_calli (va_runSN (As := As) (rest := rest) ⟨hx, hb, hml, hown, ht⟩ hM hcw ⟨hpre.1, hpre.2⟩ rfl hn hsz hst (lv_room hW) hdg ⟨Nat.zero_le _, Nat.zero_le _⟩) hS (fun _ _ h => h) (fun _ h => h) (fun r1 u t H1 locs1 hth hvm hw hB hz1 hk1 hS1 => ?_)
  rw [hth] at hB
  rw [hw]
  exact kk H1 locs1 hB hS1
end CALLS
/-- out of a bind -/
theorem obE {α β : Type} {x : Option α} {f : α → Option β} {b : β} (h : x.bind f = some b) : ∃ a, x = some a ∧ f a = some b := by
  cases x with
  | none => cases h
  | some a => exact ⟨a, rfl, h⟩
theorem ngE {α : Type} {P : Prop} (d : Decidable P) {x : Option α} {b : α} (h : (if P then none else x) = some b) : ¬ P ∧ x = some b := by
  by_cases q : P
  · rw [if_pos q] at h; cases h
  · rw [if_neg q] at h; exact ⟨q, h⟩
theorem psE {α : Type} {P : Prop} (d : Decidable P) {x : Option α} {b : α} (h : (if P then x else none) = some b) : P ∧ x = some b := by
  by_cases q : P
  · rw [if_pos q] at h; exact ⟨q, h⟩
  · rw [if_neg q] at h; cases h
abbrev Tr : Type := Std.DTreeMap.Internal.Impl Nat (fun _ => Unit)
def tr_sz : Tr → Nat
  | .leaf => 0
  | .inner _ _ _ l r => tr_sz l + 1 + tr_sz r
theorem tr_t (s : Nat) (l r : Tr) : tr_sz (.inner 0 s () l r) = tr_sz l + 1 + tr_sz r := rfl
theorem tr_ind (t : Tr) : tr_sz t = tr_sz t := by
  induction t with
  | leaf => rfl
  | inner z k v l r ihl ihr => rfl
end
section
/-! ===== the two worlds: the component's cells (167) and the model's (15) ===== -/
abbrev Tau : Type := Nat → Nat → Int32
abbrev Sig : Type := Nat → Nat → Nat → Int32
def u1 (τ : Tau) (c : Nat) (f : Nat → Int32) : Tau := fun c' => if c' = c then f else τ c'
def u2 (τ : Tau) (c k : Nat) (v : Int32) : Tau := u1 τ c (upd (τ c) k v)
def u3 (σ : Sig) (i : Nat) (τ : Tau) : Sig := fun i' => if i' = i then τ else σ i'
theorem u3_at (σ : Sig) (i : Nat) (τ : Tau) : u3 σ i τ i = τ := by simp [u3]
theorem u3_ne (σ : Sig) {i j : Nat} (τ : Tau) (h : j ≠ i) : u3 σ i τ j = σ j := by simp [u3, h]
theorem u3_self (σ : Sig) (i : Nat) : u3 σ i (σ i) = σ := by
  funext j
  by_cases h : j = i
  · subst h; simp [u3]
  · simp [u3, h]
theorem u3_u3 (σ : Sig) (i : Nat) (τ τ' : Tau) : u3 (u3 σ i τ) i τ' = u3 σ i τ' := by
  funext j
  by_cases h : j = i <;> simp [u3, h]
theorem u1_at (τ : Tau) (c : Nat) (f : Nat → Int32) : u1 τ c f c = f := by simp [u1]
theorem u1_ne (τ : Tau) {c d : Nat} (f : Nat → Int32) (h : d ≠ c) : u1 τ c f d = τ d := by simp [u1, h]
theorem u1_u1 (τ : Tau) (c : Nat) (f g : Nat → Int32) : u1 (u1 τ c f) c g = u1 τ c g := by
  funext d
  by_cases h : d = c <;> simp [u1, h]
def gw (n : Nat) (ad : Nat → Nat) (ce : Nat → va_E) : va_W := (List.range n).map (fun k => (ad k, ce k))
theorem gw_at {n : Nat} {ad : Nat → Nat} {ce : Nat → va_E} {k : Nat} {e : va_E} (h : k < n) (he : ce k = e) : (gw n ad ce)[k]? = some (ad k, e) := by
  subst he
  simp [gw, h]
theorem gw_set {n : Nat} {ad : Nat → Nat} {ce ce' : Nat → va_E} {k : Nat} {e : va_E} (he : ce' k = e) (ho : ∀ j, j < n → j ≠ k → ce' j = ce j) : (gw n ad ce).set k (ad k, e) = gw n ad ce' := by
  apply List.ext_getElem?
  intro j
  subst he
  by_cases hj : j < n
  · by_cases e : j = k
    · subst e
      simp [gw, hj]
    · rw [List.getElem?_set_ne (Ne.symm e)]
      simp [gw, hj, ho j hj e]
  · have h1 : n ≤ j := Nat.not_lt.mp hj
    simp [gw, h1]
def gA (n : Nat) (ad : Nat → Nat) : Nat → Prop := fun q => ∃ k, k < n ∧ ad k = q
def gInj (n : Nat) (ad : Nat → Nat) : Prop := ∀ i j, i < n → j < n → ad i = ad j → i = j
theorem gw_get {n : Nat} {ad : Nat → Nat} {ce : Nat → va_E} {k : Nat} {q : Nat × va_E} (h : (gw n ad ce)[k]? = some q) : k < n ∧ q = (ad k, ce k) := by
  have hk : k < n := by
    have := (List.getElem?_eq_some_iff.mp h).1
    simpa [gw] using this
  refine ⟨hk, ?_⟩
  rw [gw_at hk rfl] at h
  exact (Option.some.inj h).symm
theorem gw_D {n : Nat} {ad : Nat → Nat} (hinj : gInj n ad) (ce : Nat → va_E) : va_D (gA n ad) (gw n ad ce) := by
  refine ⟨fun i j p q hi hj hpq => ?_, fun k q hk => ?_⟩
  · obtain ⟨h1, rfl⟩ := gw_get hi
    obtain ⟨h2, rfl⟩ := gw_get hj
    exact hinj i j h1 h2 hpq
  · obtain ⟨h1, rfl⟩ := gw_get hk
    exact ⟨k, h1, rfl⟩
/-- which row of a tree's state stands in its r-th cell -/
def cmp (r : Nat) : Nat := if r = 1 then 6 else if r = 8 then 7 else if r = 9 then 8 else r - 2
/-- the component's cells: sixteen trees of ten cells, then the index, its past, the two rows of references, two images, the draws -/
def cC (cI cT cM : ClassId) (ad : Nat → Nat) (σ : Sig) (k : Nat) : va_E :=
  if k < 160 then
    (if k % 10 = 0 then .inr (5, [.ref (ad (10 * (k / 10) + 1)), .ref (ad (10 * (k / 10) + (1 + 7))), .ref (ad (10 * (k / 10) + (1 + 8)))])
    else if k % 10 = 1 then .inr (3, [.ref (ad (10 * (k / 10) + (2 + 0))), .ref (ad (10 * (k / 10) + (2 + 1))), .ref (ad (10 * (k / 10) + (2 + 2))), .ref (ad (10 * (k / 10) + (2 + 3))), .ref (ad (10 * (k / 10) + (2 + 4))), .ref (ad (10 * (k / 10) + (2 + 5))), .int (σ (k / 10) 6 0), .int (σ (k / 10) 6 1)])
    else if k % 10 = 8 ∨ k % 10 = 9 then .inr (0, [.int (σ (k / 10) (k % 10 - 1) 0), .int (σ (k / 10) (k % 10 - 1) 1), .int (σ (k / 10) (k % 10 - 1) 2)])
    else .inl (cI, 60, .inl (σ (k / 10) (k % 10 - 2))))
  else if k = 160 then .inr (6, [.ref (ad (10 * 0)), .ref (ad (10 * 1)), .ref (ad 161), .ref (ad 163), .ref (ad 166)])
  else if k = 161 then .inr (4, [.ref (ad 162), .int (σ 16 0 0), .int (σ 16 0 1)])
  else if k = 162 then .inl (cT, 12, .inr (.inr (.inr (.inr (fun j => some (ad (10 * (2 + j))))))))
  else if k = 163 then .inl (cM, 2, .inr (.inr (.inr (.inr (fun j => some (ad (164 + j)))))))
  else if k = 164 ∨ k = 165 then .inr (2, [.ref (ad (10 * (14 + (k - 164)))), .int (σ 16 (1 + (k - 164)) 0), .int (σ 16 (1 + (k - 164)) 1)])
  else .inr (1, [.int (σ 16 3 0)])
def cw (cI cT cM : ClassId) (ad : Nat → Nat) (σ : Sig) : va_W := gw 167 ad (cC cI cT cM ad σ)
section CW
variable {cI cT cM : ClassId} {ad : Nat → Nat} {σ : Sig} {i : Nat}
theorem cw_tree (hi : i < 16) : (cw cI cT cM ad σ)[10 * i]? = some (ad (10 * i), .inr (5, [.ref (ad (10 * i + 1)), .ref (ad (10 * i + (1 + 7))), .ref (ad (10 * i + (1 + 8)))])) := by
  refine gw_at (by omega) ?_
  have h1 : 10 * i < 160 := by omega
  have h2 : (10 * i) % 10 = 0 := by omega
  have h3 : (10 * i) / 10 = i := by omega
  simp only [cC, h1, h2, h3, if_true]
theorem cw_nodes (hi : i < 16) : (cw cI cT cM ad σ)[10 * i + 1]? = some (ad (10 * i + 1), .inr (3, [.ref (ad (10 * i + (2 + 0))), .ref (ad (10 * i + (2 + 1))), .ref (ad (10 * i + (2 + 2))), .ref (ad (10 * i + (2 + 3))), .ref (ad (10 * i + (2 + 4))), .ref (ad (10 * i + (2 + 5))), .int (σ i 6 0), .int (σ i 6 1)])) := by
  refine gw_at (by omega) ?_
  have h1 : 10 * i + 1 < 160 := by omega
  have h2 : (10 * i + 1) % 10 = 1 := by omega
  have h3 : (10 * i + 1) / 10 = i := by omega
  simp only [cC, h1, h2, h3, if_true, if_neg (show ¬ ((1 : Nat) = 0) by decide)]
theorem cw_arr (hi : i < 16) {c : Nat} (hc : c < 6) : (cw cI cT cM ad σ)[10 * i + (2 + c)]? = some (ad (10 * i + (2 + c)), .inl (cI, 60, .inl (σ i c))) := by
  refine gw_at (by omega) ?_
  have h1 : 10 * i + (2 + c) < 160 := by omega
  have h2 : (10 * i + (2 + c)) % 10 = 2 + c := by omega
  have h3 : (10 * i + (2 + c)) / 10 = i := by omega
  have h4 : ¬ (2 + c = 0) := by omega
  have h5 : ¬ (2 + c = 1) := by omega
  have h6 : ¬ (2 + c = 8 ∨ 2 + c = 9) := by omega
  have h7 : 2 + c - 2 = c := by omega
  simp only [cC, h1, h2, h3, if_true, if_neg h4, if_neg h5, if_neg h6, h7]
theorem cw_cnt (hi : i < 16) {c : Nat} (hc : c = 7 ∨ c = 8) : (cw cI cT cM ad σ)[10 * i + (1 + c)]? = some (ad (10 * i + (1 + c)), .inr (0, [.int (σ i c 0), .int (σ i c 1), .int (σ i c 2)])) := by
  refine gw_at (by omega) ?_
  have h1 : 10 * i + (1 + c) < 160 := by omega
  have h2 : (10 * i + (1 + c)) % 10 = 1 + c := by omega
  have h3 : (10 * i + (1 + c)) / 10 = i := by omega
  have h4 : ¬ (1 + c = 0) := by omega
  have h5 : ¬ (1 + c = 1) := by omega
  have h6 : (1 + c = 8 ∨ 1 + c = 9) := by omega
  have h7 : 1 + c - 1 = c := by omega
  simp only [cC, h1, h2, h3, if_true, if_neg h4, if_neg h5, if_pos h6, h7]
theorem cw_ri : (cw cI cT cM ad σ)[160]? = some (ad 160, .inr (6, [.ref (ad (10 * 0)), .ref (ad (10 * 1)), .ref (ad 161), .ref (ad 163), .ref (ad 166)])) := gw_at (by omega) rfl
theorem cw_past : (cw cI cT cM ad σ)[161]? = some (ad 161, .inr (4, [.ref (ad 162), .int (σ 16 0 0), .int (σ 16 0 1)])) := gw_at (by omega) rfl
theorem cw_rows : (cw cI cT cM ad σ)[162]? = some (ad 162, .inl (cT, 12, .inr (.inr (.inr (.inr (fun j => some (ad (10 * (2 + j))))))))) := gw_at (by omega) rfl
theorem cw_images : (cw cI cT cM ad σ)[163]? = some (ad 163, .inl (cM, 2, .inr (.inr (.inr (.inr (fun j => some (ad (164 + j)))))))) := gw_at (by omega) rfl
theorem cw_img {j : Nat} (hj : j < 2) : (cw cI cT cM ad σ)[164 + j]? = some (ad (164 + j), .inr (2, [.ref (ad (10 * (14 + j))), .int (σ 16 (1 + j) 0), .int (σ 16 (1 + j) 1)])) := by
  rcases (show j = 0 ∨ j = 1 by omega) with rfl | rfl <;> exact gw_at (by omega) rfl
theorem cw_draws : (cw cI cT cM ad σ)[166]? = some (ad 166, .inr (1, [.int (σ 16 3 0)])) := gw_at (by omega) rfl
theorem cC_dep {σ σ' : Sig} (h : ∀ j, j < 16 → ∀ c, c < 9 → σ' j c = σ j c) (h16 : ∀ c, c < 4 → σ' 16 c = σ 16 c) (k : Nat) : cC cI cT cM ad σ' k = cC cI cT cM ad σ k := by
  unfold cC
  by_cases hk : k < 160
  · rw [if_pos hk, if_pos hk, h (k / 10) (by omega) 6 (by omega)]
    by_cases h8 : k % 10 = 8 ∨ k % 10 = 9
    · rw [if_pos h8, if_pos h8, h (k / 10) (by omega) (k % 10 - 1) (by omega)]
    · rw [if_neg h8, if_neg h8]
      by_cases h0 : k % 10 = 0
      · rw [if_pos h0, if_pos h0]
      · rw [h (k / 10) (by omega) (k % 10 - 2) (by omega)]
  · rw [if_neg hk, if_neg hk, h16 0 (by omega), h16 3 (by omega)]
    by_cases h8 : k = 164 ∨ k = 165
    · rw [if_pos h8, if_pos h8, h16 (1 + (k - 164)) (by omega)]
    · rw [if_neg h8, if_neg h8]
/-- one row of one tree is another: only its own cell changes -/
theorem cC_one (hi : i < 16) {r : Nat} (hr : 1 ≤ r ∧ r < 10) (f : Nat → Int32) {τ : Tau} (k : Nat) (hk : k ≠ 10 * i + r) : cC cI cT cM ad (u3 σ i (u1 τ (cmp r) f)) k = cC cI cT cM ad (u3 σ i τ) k := by
  unfold cC
  have h16 : ∀ (x : Tau) (c : Nat), u3 σ i x 16 c = σ 16 c := fun x c => by rw [u3_ne σ x (by omega)]
  by_cases hk1 : k < 160
  · rw [if_pos hk1, if_pos hk1]
    by_cases hki : k / 10 = i
    · have hr2 : k % 10 ≠ r := by omega
      rw [hki]
      simp only [u3_at]
      by_cases h0 : k % 10 = 0
      · rw [if_pos h0, if_pos h0]
      · rw [if_neg h0, if_neg h0]
        by_cases h1 : k % 10 = 1
        · rw [if_pos h1, if_pos h1, u1_ne τ f (show (6 : Nat) ≠ cmp r by unfold cmp; split; omega; split; omega; split <;> omega)]
        · rw [if_neg h1, if_neg h1]
          by_cases h8 : k % 10 = 8 ∨ k % 10 = 9
          · rw [if_pos h8, if_pos h8, u1_ne τ f (show k % 10 - 1 ≠ cmp r by unfold cmp; split; omega; split; omega; split <;> omega)]
          · rw [if_neg h8, if_neg h8, u1_ne τ f (show k % 10 - 2 ≠ cmp r by unfold cmp; split; omega; split; omega; split <;> omega)]
    · rw [u3_ne σ _ hki, u3_ne σ _ hki]
  · rw [if_neg hk1, if_neg hk1]
    simp only [h16]
theorem cw_store (hi : i < 16) {r : Nat} (hr : 1 ≤ r ∧ r < 10) (f : Nat → Int32) {τ : Tau} {e : va_E} (he : cC cI cT cM ad (u3 σ i (u1 τ (cmp r) f)) (10 * i + r) = e) : (cw cI cT cM ad (u3 σ i τ)).set (10 * i + r) (ad (10 * i + r), e) = cw cI cT cM ad (u3 σ i (u1 τ (cmp r) f)) :=
  gw_set he (fun j _ hj => cC_one hi hr f j hj)
theorem cw_ast (hi : i < 16) {c : Nat} (hc : c < 6) {τ : Tau} (f : Nat → Int32) : (cw cI cT cM ad (u3 σ i τ)).set (10 * i + (2 + c)) (ad (10 * i + (2 + c)), .inl (cI, 60, .inl f)) = cw cI cT cM ad (u3 σ i (u1 τ c f)) := by
  have hcm : cmp (2 + c) = c := by unfold cmp; rw [if_neg (by omega), if_neg (by omega), if_neg (by omega)]; omega
  have h := cw_store (cI := cI) (cT := cT) (cM := cM) (ad := ad) (σ := σ) hi (r := 2 + c) ⟨by omega, by omega⟩ f (τ := τ) rfl
  rw [hcm] at h
  rw [← h]
  congr 2
  have h2 := cw_arr (cI := cI) (cT := cT) (cM := cM) (ad := ad) (σ := u3 σ i (u1 τ c f)) hi hc
  rw [cw, gw_at (by omega) rfl] at h2
  rw [(Prod.mk.inj (Option.some.inj h2)).2, u3_at, u1_at]
theorem cw_nst (hi : i < 16) {τ : Tau} (f : Nat → Int32) : (cw cI cT cM ad (u3 σ i τ)).set (10 * i + 1) (ad (10 * i + 1), .inr (3, [.ref (ad (10 * i + (2 + 0))), .ref (ad (10 * i + (2 + 1))), .ref (ad (10 * i + (2 + 2))), .ref (ad (10 * i + (2 + 3))), .ref (ad (10 * i + (2 + 4))), .ref (ad (10 * i + (2 + 5))), .int (f 0), .int (f 1)])) = cw cI cT cM ad (u3 σ i (u1 τ 6 f)) := by
  have h := cw_store (cI := cI) (cT := cT) (cM := cM) (ad := ad) (σ := σ) hi (r := 1) ⟨by omega, by omega⟩ f (τ := τ) rfl
  rw [show cmp 1 = 6 from rfl] at h
  rw [← h]
  congr 2
  have h2 := cw_nodes (cI := cI) (cT := cT) (cM := cM) (ad := ad) (σ := u3 σ i (u1 τ 6 f)) hi
  rw [cw, gw_at (by omega) rfl] at h2
  rw [(Prod.mk.inj (Option.some.inj h2)).2, u3_at, u1_at]
theorem cw_cst (hi : i < 16) {c : Nat} (hc : c = 7 ∨ c = 8) {τ : Tau} (f : Nat → Int32) : (cw cI cT cM ad (u3 σ i τ)).set (10 * i + (1 + c)) (ad (10 * i + (1 + c)), .inr (0, [.int (f 0), .int (f 1), .int (f 2)])) = cw cI cT cM ad (u3 σ i (u1 τ c f)) := by
  have hcm : cmp (1 + c) = c := by rcases hc with rfl | rfl <;> rfl
  have h := cw_store (cI := cI) (cT := cT) (cM := cM) (ad := ad) (σ := σ) hi (r := 1 + c) ⟨by omega, by omega⟩ f (τ := τ) rfl
  rw [hcm] at h
  rw [← h]
  congr 2
  have h2 := cw_cnt (cI := cI) (cT := cT) (cM := cM) (ad := ad) (σ := u3 σ i (u1 τ c f)) hi hc
  rw [cw, gw_at (by omega) rfl] at h2
  rw [(Prod.mk.inj (Option.some.inj h2)).2, u3_at, u1_at]
theorem cC_glob {c : Nat} (f : Nat → Int32) {τ : Tau} (k : Nat) (hk0 : k < 167) (hk : k ≠ (if c = 0 then 161 else if c = 3 then 166 else 163 + c)) (hc : c < 4) : cC cI cT cM ad (u3 σ 16 (u1 τ c f)) k = cC cI cT cM ad (u3 σ 16 τ) k := by
  by_cases hk1 : k < 160
  · unfold cC
    rw [if_pos hk1, if_pos hk1]
    have hki : k / 10 ≠ 16 := by omega
    rw [u3_ne σ _ hki, u3_ne σ _ hki]
  · rcases (show k = 160 ∨ k = 161 ∨ k = 162 ∨ k = 163 ∨ k = 164 ∨ k = 165 ∨ k = 166 by omega) with rfl | rfl | rfl | rfl | rfl | rfl | rfl
    · rfl
    · have h : (0 : Nat) ≠ c := fun h => hk (by rw [← h]; rfl)
      simp [cC, u3_at, u1_ne τ f h]
    · rfl
    · rfl
    · have h : (1 : Nat) ≠ c := fun h => hk (by rw [← h]; rfl)
      simp [cC, u3_at, u1_ne τ f h]
    · have h : (2 : Nat) ≠ c := fun h => hk (by rw [← h]; rfl)
      simp [cC, u3_at, u1_ne τ f h]
    · have h : (3 : Nat) ≠ c := fun h => hk (by rw [← h]; rfl)
      simp [cC, u3_at, u1_ne τ f h]
theorem cw_pst {τ : Tau} (f : Nat → Int32) : (cw cI cT cM ad (u3 σ 16 τ)).set 161 (ad 161, .inr (4, [.ref (ad 162), .int (f 0), .int (f 1)])) = cw cI cT cM ad (u3 σ 16 (u1 τ 0 f)) := by
  refine gw_set (ce' := cC cI cT cM ad (u3 σ 16 (u1 τ 0 f))) ?_ (fun j hj0 hj => cC_glob f j hj0 (by simpa using hj) (by omega))
  simp [cC, u3_at, u1_at]
theorem cw_ist {τ : Tau} {j : Nat} (hj : j < 2) (f : Nat → Int32) : (cw cI cT cM ad (u3 σ 16 τ)).set (164 + j) (ad (164 + j), .inr (2, [.ref (ad (10 * (14 + j))), .int (f 0), .int (f 1)])) = cw cI cT cM ad (u3 σ 16 (u1 τ (1 + j) f)) := by
  rcases (show j = 0 ∨ j = 1 by omega) with rfl | rfl
  · refine gw_set (ce' := cC cI cT cM ad (u3 σ 16 (u1 τ (1 + 0) f))) ?_ (fun j hj0 hj => cC_glob f j hj0 (by simpa using hj) (by omega))
    simp [cC, u3_at, u1_at]
  · refine gw_set (ce' := cC cI cT cM ad (u3 σ 16 (u1 τ (1 + 1) f))) ?_ (fun j hj0 hj => cC_glob f j hj0 (by simpa using hj) (by omega))
    simp [cC, u3_at, u1_at]
theorem cw_dst {τ : Tau} (f : Nat → Int32) : (cw cI cT cM ad (u3 σ 16 τ)).set 166 (ad 166, .inr (1, [.int (f 0)])) = cw cI cT cM ad (u3 σ 16 (u1 τ 3 f)) := by
  refine gw_set (ce' := cC cI cT cM ad (u3 σ 16 (u1 τ 3 f))) ?_ (fun j hj0 hj => cC_glob f j hj0 (by simpa using hj) (by omega))
  simp [cC, u3_at, u1_at]
end CW

/-- the model's cells: the object and its fourteen rows -/
def mC (cI cZ : ClassId) (ad : Nat → Nat) (un sd : Int32) (now past images iseed : Nat → Int32) (kept : Nat → Int32) (order numof above pile aside fewest deep keys worths : Nat → Int32) : Nat → va_E
  | 0 => .inr (7, [.ref (ad 1), .ref (ad 2), .int un, .ref (ad 3), .ref (ad 4), .ref (ad 5), .int sd, .ref (ad 6), .ref (ad 7), .ref (ad 8), .ref (ad 9), .ref (ad 10), .ref (ad 11), .ref (ad 12), .ref (ad 13), .ref (ad 14)])
  | 1 => .inl (cI, 368, .inl now)
  | 2 => .inl (cI, 4416, .inl past)
  | 3 => .inl (cI, 736, .inl images)
  | 4 => .inl (cI, 2, .inl iseed)
  | 5 => .inl (cZ, 2, .inl kept)
  | 6 => .inl (cI, 60, .inl order)
  | 7 => .inl (cI, 60, .inl numof)
  | 8 => .inl (cI, 60, .inl above)
  | 9 => .inl (cI, 61, .inl pile)
  | 10 => .inl (cI, 368, .inl aside)
  | 11 => .inl (cI, 32, .inl fewest)
  | 12 => .inl (cI, 640, .inl deep)
  | 13 => .inl (cI, 60, .inl keys)
  | _ => .inl (cI, 60, .inl worths)
def mw (cI cZ : ClassId) (ad : Nat → Nat) (un sd : Int32) (now past images iseed : Nat → Int32) (kept : Nat → Int32) (order numof above pile aside fewest deep keys worths : Nat → Int32) : va_W := gw 15 ad (mC cI cZ ad un sd now past images iseed kept order numof above pile aside fewest deep keys worths)
section MW
variable {cI cZ : ClassId} {ad : Nat → Nat} {un sd : Int32} {now past images iseed kept order numof above pile aside fewest deep keys worths : Nat → Int32}
theorem mw_obj : (mw cI cZ ad un sd now past images iseed kept order numof above pile aside fewest deep keys worths)[0]? = some (ad 0, .inr (7, [.ref (ad 1), .ref (ad 2), .int un, .ref (ad 3), .ref (ad 4), .ref (ad 5), .int sd, .ref (ad 6), .ref (ad 7), .ref (ad 8), .ref (ad 9), .ref (ad 10), .ref (ad 11), .ref (ad 12), .ref (ad 13), .ref (ad 14)])) := gw_at (by omega) rfl
theorem mw_set_un (v : Int32) : (mw cI cZ ad un sd now past images iseed kept order numof above pile aside fewest deep keys worths).set 0 (ad 0, .inr (7, [.ref (ad 1), .ref (ad 2), .int v, .ref (ad 3), .ref (ad 4), .ref (ad 5), .int sd, .ref (ad 6), .ref (ad 7), .ref (ad 8), .ref (ad 9), .ref (ad 10), .ref (ad 11), .ref (ad 12), .ref (ad 13), .ref (ad 14)])) = mw cI cZ ad v sd now past images iseed kept order numof above pile aside fewest deep keys worths := gw_set rfl (fun j hj0 hj => by rcases (show j = 0 ∨ j = 1 ∨ j = 2 ∨ j = 3 ∨ j = 4 ∨ j = 5 ∨ j = 6 ∨ j = 7 ∨ j = 8 ∨ j = 9 ∨ j = 10 ∨ j = 11 ∨ j = 12 ∨ j = 13 ∨ j = 14 by omega) with rfl | rfl | rfl | rfl | rfl | rfl | rfl | rfl | rfl | rfl | rfl | rfl | rfl | rfl | rfl <;> first | rfl | exact absurd rfl hj)
theorem mw_set_sd (v : Int32) : (mw cI cZ ad un sd now past images iseed kept order numof above pile aside fewest deep keys worths).set 0 (ad 0, .inr (7, [.ref (ad 1), .ref (ad 2), .int un, .ref (ad 3), .ref (ad 4), .ref (ad 5), .int v, .ref (ad 6), .ref (ad 7), .ref (ad 8), .ref (ad 9), .ref (ad 10), .ref (ad 11), .ref (ad 12), .ref (ad 13), .ref (ad 14)])) = mw cI cZ ad un v now past images iseed kept order numof above pile aside fewest deep keys worths := gw_set rfl (fun j hj0 hj => by rcases (show j = 0 ∨ j = 1 ∨ j = 2 ∨ j = 3 ∨ j = 4 ∨ j = 5 ∨ j = 6 ∨ j = 7 ∨ j = 8 ∨ j = 9 ∨ j = 10 ∨ j = 11 ∨ j = 12 ∨ j = 13 ∨ j = 14 by omega) with rfl | rfl | rfl | rfl | rfl | rfl | rfl | rfl | rfl | rfl | rfl | rfl | rfl | rfl | rfl <;> first | rfl | exact absurd rfl hj)
theorem mw_now : (mw cI cZ ad un sd now past images iseed kept order numof above pile aside fewest deep keys worths)[1]? = some (ad 1, .inl (cI, 368, .inl now)) := gw_at (by omega) rfl
theorem mw_set_now (f : Nat → Int32) : (mw cI cZ ad un sd now past images iseed kept order numof above pile aside fewest deep keys worths).set 1 (ad 1, .inl (cI, 368, .inl f)) = mw cI cZ ad un sd f past images iseed kept order numof above pile aside fewest deep keys worths := gw_set rfl (fun j hj0 hj => by rcases (show j = 0 ∨ j = 1 ∨ j = 2 ∨ j = 3 ∨ j = 4 ∨ j = 5 ∨ j = 6 ∨ j = 7 ∨ j = 8 ∨ j = 9 ∨ j = 10 ∨ j = 11 ∨ j = 12 ∨ j = 13 ∨ j = 14 by omega) with rfl | rfl | rfl | rfl | rfl | rfl | rfl | rfl | rfl | rfl | rfl | rfl | rfl | rfl | rfl <;> first | rfl | exact absurd rfl hj)
theorem mw_past : (mw cI cZ ad un sd now past images iseed kept order numof above pile aside fewest deep keys worths)[2]? = some (ad 2, .inl (cI, 4416, .inl past)) := gw_at (by omega) rfl
theorem mw_set_past (f : Nat → Int32) : (mw cI cZ ad un sd now past images iseed kept order numof above pile aside fewest deep keys worths).set 2 (ad 2, .inl (cI, 4416, .inl f)) = mw cI cZ ad un sd now f images iseed kept order numof above pile aside fewest deep keys worths := gw_set rfl (fun j hj0 hj => by rcases (show j = 0 ∨ j = 1 ∨ j = 2 ∨ j = 3 ∨ j = 4 ∨ j = 5 ∨ j = 6 ∨ j = 7 ∨ j = 8 ∨ j = 9 ∨ j = 10 ∨ j = 11 ∨ j = 12 ∨ j = 13 ∨ j = 14 by omega) with rfl | rfl | rfl | rfl | rfl | rfl | rfl | rfl | rfl | rfl | rfl | rfl | rfl | rfl | rfl <;> first | rfl | exact absurd rfl hj)
theorem mw_images : (mw cI cZ ad un sd now past images iseed kept order numof above pile aside fewest deep keys worths)[3]? = some (ad 3, .inl (cI, 736, .inl images)) := gw_at (by omega) rfl
theorem mw_set_images (f : Nat → Int32) : (mw cI cZ ad un sd now past images iseed kept order numof above pile aside fewest deep keys worths).set 3 (ad 3, .inl (cI, 736, .inl f)) = mw cI cZ ad un sd now past f iseed kept order numof above pile aside fewest deep keys worths := gw_set rfl (fun j hj0 hj => by rcases (show j = 0 ∨ j = 1 ∨ j = 2 ∨ j = 3 ∨ j = 4 ∨ j = 5 ∨ j = 6 ∨ j = 7 ∨ j = 8 ∨ j = 9 ∨ j = 10 ∨ j = 11 ∨ j = 12 ∨ j = 13 ∨ j = 14 by omega) with rfl | rfl | rfl | rfl | rfl | rfl | rfl | rfl | rfl | rfl | rfl | rfl | rfl | rfl | rfl <;> first | rfl | exact absurd rfl hj)
theorem mw_iseed : (mw cI cZ ad un sd now past images iseed kept order numof above pile aside fewest deep keys worths)[4]? = some (ad 4, .inl (cI, 2, .inl iseed)) := gw_at (by omega) rfl
theorem mw_set_iseed (f : Nat → Int32) : (mw cI cZ ad un sd now past images iseed kept order numof above pile aside fewest deep keys worths).set 4 (ad 4, .inl (cI, 2, .inl f)) = mw cI cZ ad un sd now past images f kept order numof above pile aside fewest deep keys worths := gw_set rfl (fun j hj0 hj => by rcases (show j = 0 ∨ j = 1 ∨ j = 2 ∨ j = 3 ∨ j = 4 ∨ j = 5 ∨ j = 6 ∨ j = 7 ∨ j = 8 ∨ j = 9 ∨ j = 10 ∨ j = 11 ∨ j = 12 ∨ j = 13 ∨ j = 14 by omega) with rfl | rfl | rfl | rfl | rfl | rfl | rfl | rfl | rfl | rfl | rfl | rfl | rfl | rfl | rfl <;> first | rfl | exact absurd rfl hj)
theorem mw_kept : (mw cI cZ ad un sd now past images iseed kept order numof above pile aside fewest deep keys worths)[5]? = some (ad 5, .inl (cZ, 2, .inl kept)) := gw_at (by omega) rfl
theorem mw_set_kept (f : Nat → Int32) : (mw cI cZ ad un sd now past images iseed kept order numof above pile aside fewest deep keys worths).set 5 (ad 5, .inl (cZ, 2, .inl f)) = mw cI cZ ad un sd now past images iseed f order numof above pile aside fewest deep keys worths := gw_set rfl (fun j hj0 hj => by rcases (show j = 0 ∨ j = 1 ∨ j = 2 ∨ j = 3 ∨ j = 4 ∨ j = 5 ∨ j = 6 ∨ j = 7 ∨ j = 8 ∨ j = 9 ∨ j = 10 ∨ j = 11 ∨ j = 12 ∨ j = 13 ∨ j = 14 by omega) with rfl | rfl | rfl | rfl | rfl | rfl | rfl | rfl | rfl | rfl | rfl | rfl | rfl | rfl | rfl <;> first | rfl | exact absurd rfl hj)
theorem mw_order : (mw cI cZ ad un sd now past images iseed kept order numof above pile aside fewest deep keys worths)[6]? = some (ad 6, .inl (cI, 60, .inl order)) := gw_at (by omega) rfl
theorem mw_set_order (f : Nat → Int32) : (mw cI cZ ad un sd now past images iseed kept order numof above pile aside fewest deep keys worths).set 6 (ad 6, .inl (cI, 60, .inl f)) = mw cI cZ ad un sd now past images iseed kept f numof above pile aside fewest deep keys worths := gw_set rfl (fun j hj0 hj => by rcases (show j = 0 ∨ j = 1 ∨ j = 2 ∨ j = 3 ∨ j = 4 ∨ j = 5 ∨ j = 6 ∨ j = 7 ∨ j = 8 ∨ j = 9 ∨ j = 10 ∨ j = 11 ∨ j = 12 ∨ j = 13 ∨ j = 14 by omega) with rfl | rfl | rfl | rfl | rfl | rfl | rfl | rfl | rfl | rfl | rfl | rfl | rfl | rfl | rfl <;> first | rfl | exact absurd rfl hj)
theorem mw_numof : (mw cI cZ ad un sd now past images iseed kept order numof above pile aside fewest deep keys worths)[7]? = some (ad 7, .inl (cI, 60, .inl numof)) := gw_at (by omega) rfl
theorem mw_set_numof (f : Nat → Int32) : (mw cI cZ ad un sd now past images iseed kept order numof above pile aside fewest deep keys worths).set 7 (ad 7, .inl (cI, 60, .inl f)) = mw cI cZ ad un sd now past images iseed kept order f above pile aside fewest deep keys worths := gw_set rfl (fun j hj0 hj => by rcases (show j = 0 ∨ j = 1 ∨ j = 2 ∨ j = 3 ∨ j = 4 ∨ j = 5 ∨ j = 6 ∨ j = 7 ∨ j = 8 ∨ j = 9 ∨ j = 10 ∨ j = 11 ∨ j = 12 ∨ j = 13 ∨ j = 14 by omega) with rfl | rfl | rfl | rfl | rfl | rfl | rfl | rfl | rfl | rfl | rfl | rfl | rfl | rfl | rfl <;> first | rfl | exact absurd rfl hj)
theorem mw_above : (mw cI cZ ad un sd now past images iseed kept order numof above pile aside fewest deep keys worths)[8]? = some (ad 8, .inl (cI, 60, .inl above)) := gw_at (by omega) rfl
theorem mw_set_above (f : Nat → Int32) : (mw cI cZ ad un sd now past images iseed kept order numof above pile aside fewest deep keys worths).set 8 (ad 8, .inl (cI, 60, .inl f)) = mw cI cZ ad un sd now past images iseed kept order numof f pile aside fewest deep keys worths := gw_set rfl (fun j hj0 hj => by rcases (show j = 0 ∨ j = 1 ∨ j = 2 ∨ j = 3 ∨ j = 4 ∨ j = 5 ∨ j = 6 ∨ j = 7 ∨ j = 8 ∨ j = 9 ∨ j = 10 ∨ j = 11 ∨ j = 12 ∨ j = 13 ∨ j = 14 by omega) with rfl | rfl | rfl | rfl | rfl | rfl | rfl | rfl | rfl | rfl | rfl | rfl | rfl | rfl | rfl <;> first | rfl | exact absurd rfl hj)
theorem mw_pile : (mw cI cZ ad un sd now past images iseed kept order numof above pile aside fewest deep keys worths)[9]? = some (ad 9, .inl (cI, 61, .inl pile)) := gw_at (by omega) rfl
theorem mw_set_pile (f : Nat → Int32) : (mw cI cZ ad un sd now past images iseed kept order numof above pile aside fewest deep keys worths).set 9 (ad 9, .inl (cI, 61, .inl f)) = mw cI cZ ad un sd now past images iseed kept order numof above f aside fewest deep keys worths := gw_set rfl (fun j hj0 hj => by rcases (show j = 0 ∨ j = 1 ∨ j = 2 ∨ j = 3 ∨ j = 4 ∨ j = 5 ∨ j = 6 ∨ j = 7 ∨ j = 8 ∨ j = 9 ∨ j = 10 ∨ j = 11 ∨ j = 12 ∨ j = 13 ∨ j = 14 by omega) with rfl | rfl | rfl | rfl | rfl | rfl | rfl | rfl | rfl | rfl | rfl | rfl | rfl | rfl | rfl <;> first | rfl | exact absurd rfl hj)
theorem mw_aside : (mw cI cZ ad un sd now past images iseed kept order numof above pile aside fewest deep keys worths)[10]? = some (ad 10, .inl (cI, 368, .inl aside)) := gw_at (by omega) rfl
theorem mw_set_aside (f : Nat → Int32) : (mw cI cZ ad un sd now past images iseed kept order numof above pile aside fewest deep keys worths).set 10 (ad 10, .inl (cI, 368, .inl f)) = mw cI cZ ad un sd now past images iseed kept order numof above pile f fewest deep keys worths := gw_set rfl (fun j hj0 hj => by rcases (show j = 0 ∨ j = 1 ∨ j = 2 ∨ j = 3 ∨ j = 4 ∨ j = 5 ∨ j = 6 ∨ j = 7 ∨ j = 8 ∨ j = 9 ∨ j = 10 ∨ j = 11 ∨ j = 12 ∨ j = 13 ∨ j = 14 by omega) with rfl | rfl | rfl | rfl | rfl | rfl | rfl | rfl | rfl | rfl | rfl | rfl | rfl | rfl | rfl <;> first | rfl | exact absurd rfl hj)
theorem mw_fewest : (mw cI cZ ad un sd now past images iseed kept order numof above pile aside fewest deep keys worths)[11]? = some (ad 11, .inl (cI, 32, .inl fewest)) := gw_at (by omega) rfl
theorem mw_set_fewest (f : Nat → Int32) : (mw cI cZ ad un sd now past images iseed kept order numof above pile aside fewest deep keys worths).set 11 (ad 11, .inl (cI, 32, .inl f)) = mw cI cZ ad un sd now past images iseed kept order numof above pile aside f deep keys worths := gw_set rfl (fun j hj0 hj => by rcases (show j = 0 ∨ j = 1 ∨ j = 2 ∨ j = 3 ∨ j = 4 ∨ j = 5 ∨ j = 6 ∨ j = 7 ∨ j = 8 ∨ j = 9 ∨ j = 10 ∨ j = 11 ∨ j = 12 ∨ j = 13 ∨ j = 14 by omega) with rfl | rfl | rfl | rfl | rfl | rfl | rfl | rfl | rfl | rfl | rfl | rfl | rfl | rfl | rfl <;> first | rfl | exact absurd rfl hj)
theorem mw_deep : (mw cI cZ ad un sd now past images iseed kept order numof above pile aside fewest deep keys worths)[12]? = some (ad 12, .inl (cI, 640, .inl deep)) := gw_at (by omega) rfl
theorem mw_set_deep (f : Nat → Int32) : (mw cI cZ ad un sd now past images iseed kept order numof above pile aside fewest deep keys worths).set 12 (ad 12, .inl (cI, 640, .inl f)) = mw cI cZ ad un sd now past images iseed kept order numof above pile aside fewest f keys worths := gw_set rfl (fun j hj0 hj => by rcases (show j = 0 ∨ j = 1 ∨ j = 2 ∨ j = 3 ∨ j = 4 ∨ j = 5 ∨ j = 6 ∨ j = 7 ∨ j = 8 ∨ j = 9 ∨ j = 10 ∨ j = 11 ∨ j = 12 ∨ j = 13 ∨ j = 14 by omega) with rfl | rfl | rfl | rfl | rfl | rfl | rfl | rfl | rfl | rfl | rfl | rfl | rfl | rfl | rfl <;> first | rfl | exact absurd rfl hj)
theorem mw_keys : (mw cI cZ ad un sd now past images iseed kept order numof above pile aside fewest deep keys worths)[13]? = some (ad 13, .inl (cI, 60, .inl keys)) := gw_at (by omega) rfl
theorem mw_set_keys (f : Nat → Int32) : (mw cI cZ ad un sd now past images iseed kept order numof above pile aside fewest deep keys worths).set 13 (ad 13, .inl (cI, 60, .inl f)) = mw cI cZ ad un sd now past images iseed kept order numof above pile aside fewest deep f worths := gw_set rfl (fun j hj0 hj => by rcases (show j = 0 ∨ j = 1 ∨ j = 2 ∨ j = 3 ∨ j = 4 ∨ j = 5 ∨ j = 6 ∨ j = 7 ∨ j = 8 ∨ j = 9 ∨ j = 10 ∨ j = 11 ∨ j = 12 ∨ j = 13 ∨ j = 14 by omega) with rfl | rfl | rfl | rfl | rfl | rfl | rfl | rfl | rfl | rfl | rfl | rfl | rfl | rfl | rfl <;> first | rfl | exact absurd rfl hj)
theorem mw_worths : (mw cI cZ ad un sd now past images iseed kept order numof above pile aside fewest deep keys worths)[14]? = some (ad 14, .inl (cI, 60, .inl worths)) := gw_at (by omega) rfl
theorem mw_set_worths (f : Nat → Int32) : (mw cI cZ ad un sd now past images iseed kept order numof above pile aside fewest deep keys worths).set 14 (ad 14, .inl (cI, 60, .inl f)) = mw cI cZ ad un sd now past images iseed kept order numof above pile aside fewest deep keys f := gw_set rfl (fun j hj0 hj => by rcases (show j = 0 ∨ j = 1 ∨ j = 2 ∨ j = 3 ∨ j = 4 ∨ j = 5 ∨ j = 6 ∨ j = 7 ∨ j = 8 ∨ j = 9 ∨ j = 10 ∨ j = 11 ∨ j = 12 ∨ j = 13 ∨ j = 14 by omega) with rfl | rfl | rfl | rfl | rfl | rfl | rfl | rfl | rfl | rfl | rfl | rfl | rfl | rfl | rfl <;> first | rfl | exact absurd rfl hj)
end MW
end
section
/-! ===== rows over the two worlds ===== -/
section TW
variable {cI cT cM : ClassId} {ad : Nat → Nat} {σ : Sig} {i : Nat} {τ : Tau}
theorem ct_nodes (hi : i < 16) : (cw cI cT cM ad (u3 σ i τ))[10 * i + 1]? = some (ad (10 * i + 1), .inr (3, [.ref (ad (10 * i + (2 + 0))), .ref (ad (10 * i + (2 + 1))), .ref (ad (10 * i + (2 + 2))), .ref (ad (10 * i + (2 + 3))), .ref (ad (10 * i + (2 + 4))), .ref (ad (10 * i + (2 + 5))), .int (τ 6 0), .int (τ 6 1)])) := by
  have h := cw_nodes (cI := cI) (cT := cT) (cM := cM) (ad := ad) (σ := u3 σ i τ) hi
  rw [u3_at] at h
  exact h
theorem ct_arr (hi : i < 16) {c : Nat} (hc : c < 6) : (cw cI cT cM ad (u3 σ i τ))[10 * i + (2 + c)]? = some (ad (10 * i + (2 + c)), .inl (cI, 60, .inl (τ c))) := by
  have h := cw_arr (cI := cI) (cT := cT) (cM := cM) (ad := ad) (σ := u3 σ i τ) hi hc
  rw [u3_at] at h
  exact h
theorem ct_cnt (hi : i < 16) {c : Nat} (hc : c = 7 ∨ c = 8) : (cw cI cT cM ad (u3 σ i τ))[10 * i + (1 + c)]? = some (ad (10 * i + (1 + c)), .inr (0, [.int (τ c 0), .int (τ c 1), .int (τ c 2)])) := by
  have h := cw_cnt (cI := cI) (cT := cT) (cM := cM) (ad := ad) (σ := u3 σ i τ) hi hc
  rw [u3_at] at h
  exact h
end TW
/-- the component's array types -/
abbrev cTy (cI cT cM : ClassId) : List (ClassId × FieldType) := [(cI, .int), (cT, .object "RankIndex$Tree"), (cM, .object "RankIndex$Image")]
abbrev mTy (cI cZ : ClassId) : List (ClassId × FieldType) := [(cI, .int), (cZ, .boolean)]
section ROWS
variable {p : Program} {l : Launch} {e : Env} {R : Room} {s : State} {m : MethodId} {args : Array Value} {below : List Frame} {meth : Method} {c : Code} {H : Heap} {locs : List Loc} {Q : State → Prop} {cells slots : Nat}
  {cc : ByteArray} {pc : Nat} {ls : Array Slot} {rest : List Value} {D : va_G} {H0 : Heap} {cI cT cM : ClassId} {ad : Nat → Nat} {σ : Sig} {i : Nat} {τ : Tau} {own : String} {index : Nat}
theorem cr_iast (hD : gInj 167 ad) (hx : p.tables.exec = Jvm.exec) (hb : c.code = cc) (hX : kX D (cTy cI cT cM) s) (hP : va_P D vwCl (cw cI cT cM ad (u3 σ i τ)) H) (hS : va_S (gA 167 ad) H0 H locs) (hi : i < 16) {a : Nat} (ha : a < 6) {j x : Int32} (hin : ¬ (j < 0 ∨ 60 ≤ j.toNatClampNeg)) (hdg : decode cc pc = .ok (.iastore, 1))
    (kk : ∀ (H1 : Heap) (locs1 : List Loc), va_P D vwCl (cw cI cT cM ad (u3 σ i (u2 τ a j.toNatClampNeg x))) H1 → va_S (gA 167 ad) H0 H1 locs1 → W p l e R s m args below meth c H1 locs1 cells slots Q (F0 m (pc + 1) ls rest)) : W p l e R s m args below meth c H locs cells slots Q (F0 m pc ls (.int x :: .int j :: .ref (ad (10 * i + (2 + a))) :: rest)) := by
  refine va_iast hx hb hX.1 hP (gw_D hD _) hS (10 * i + (2 + a)) 0 (ct_arr hi ha) rfl hin hdg (fun H1 locs1 hP1 _ hS1 => ?_)
  rw [cw_ast hi ha] at hP1
  exact kk H1 locs1 hP1 hS1
theorem cr_ild (hx : p.tables.exec = Jvm.exec) (hb : c.code = cc) (hX : kX D (cTy cI cT cM) s) (hP : va_P D vwCl (cw cI cT cM ad (u3 σ i τ)) H) (hi : i < 16) {a : Nat} (ha : a < 6) {j : Int32} (hin : ¬ (j < 0 ∨ 60 ≤ j.toNatClampNeg)) (hdg : decode cc pc = .ok (.iaload, 1))
    (kk : W p l e R s m args below meth c H locs cells slots Q (F0 m (pc + 1) ls (.int (τ a j.toNatClampNeg) :: rest))) : W p l e R s m args below meth c H locs cells slots Q (F0 m pc ls (.int j :: .ref (ad (10 * i + (2 + a))) :: rest)) :=
  va_iald hx hb hX.1 hP (10 * i + (2 + a)) 0 (ct_arr hi ha) rfl hin hdg kk
theorem cr_putTop (hD : gInj 167 ad) (hx : p.tables.exec = Jvm.exec) (hb : c.code = cc) (ht : ∀ w ∈ kt, w.before args s = true) (hown : s.vm.findClass own = some m.cls) (hX : kX D (cTy cI cT cM) s) (hP : va_P D vwCl (cw cI cT cM ad (u3 σ i τ)) H) (hS : va_S (gA 167 ad) H0 H locs) (hi : i < 16) (hl : Cond.fieldLink own index "RankIndex$Nodes" "top" "I" ∈ kt) {x : Int32} (hdg : decode cc pc = .ok (.putfield index, 3))
    (kk : ∀ (H1 : Heap) (locs1 : List Loc), va_P D vwCl (cw cI cT cM ad (u3 σ i (u2 τ 6 0 x))) H1 → va_S (gA 167 ad) H0 H1 locs1 → W p l e R s m args below meth c H1 locs1 cells slots Q (F0 m (pc + 3) ls rest)) : W p l e R s m args below meth c H locs cells slots Q (F0 m pc ls (.int x :: .ref (ad (10 * i + 1)) :: rest)) := by
  refine va_put (D := D) (ci := 3) (v := .int x) (ty := .int) hx hb ht i_X4 tyX4 tyX4_ok nmX4 hown hX.1 hP (gw_D hD _) hS (10 * i + 1) (ct_nodes hi) rfl 6 (by decide) (ht _ hl) (fun _ h9 => h9) rfl (by decide +kernel) rfl rfl (Nat.le_of_ble_eq_true rfl) hdg (fun H1 locs1 hP1 _ hS1 => ?_)
  have e := cw_nst (cI := cI) (cT := cT) (cM := cM) (ad := ad) (σ := σ) hi (τ := τ) (upd (τ 6) 0 x)
  exact kk H1 locs1 (by rw [u2, ← e]; exact hP1) hS1
theorem cr_putCount (hD : gInj 167 ad) (hx : p.tables.exec = Jvm.exec) (hb : c.code = cc) (ht : ∀ w ∈ kt, w.before args s = true) (hown : s.vm.findClass own = some m.cls) (hX : kX D (cTy cI cT cM) s) (hP : va_P D vwCl (cw cI cT cM ad (u3 σ i τ)) H) (hS : va_S (gA 167 ad) H0 H locs) (hi : i < 16) (hl : Cond.fieldLink own index "RankIndex$Nodes" "count" "I" ∈ kt) {x : Int32} (hdg : decode cc pc = .ok (.putfield index, 3))
    (kk : ∀ (H1 : Heap) (locs1 : List Loc), va_P D vwCl (cw cI cT cM ad (u3 σ i (u2 τ 6 1 x))) H1 → va_S (gA 167 ad) H0 H1 locs1 → W p l e R s m args below meth c H1 locs1 cells slots Q (F0 m (pc + 3) ls rest)) : W p l e R s m args below meth c H locs cells slots Q (F0 m pc ls (.int x :: .ref (ad (10 * i + 1)) :: rest)) := by
  refine va_put (D := D) (ci := 3) (v := .int x) (ty := .int) hx hb ht i_X4 tyX4 tyX4_ok nmX4 hown hX.1 hP (gw_D hD _) hS (10 * i + 1) (ct_nodes hi) rfl 7 (by decide) (ht _ hl) (fun _ h9 => h9) rfl (by decide +kernel) rfl rfl (Nat.le_of_ble_eq_true rfl) hdg (fun H1 locs1 hP1 _ hS1 => ?_)
  have e := cw_nst (cI := cI) (cT := cT) (cM := cM) (ad := ad) (σ := σ) hi (τ := τ) (upd (τ 6) 1 x)
  exact kk H1 locs1 (by rw [u2, ← e]; exact hP1) hS1
theorem cr_putC {f : Nat} {nm : String} (hD : gInj 167 ad) (hx : p.tables.exec = Jvm.exec) (hb : c.code = cc) (ht : ∀ w ∈ kt, w.before args s = true) (hown : s.vm.findClass own = some m.cls) (hX : kX D (cTy cI cT cM) s) (hP : va_P D vwCl (cw cI cT cM ad (u3 σ i τ)) H) (hS : va_S (gA 167 ad) H0 H locs) (hi : i < 16) {a : Nat} (ha : a = 7 ∨ a = 8) (hf : f = 0 ∧ nm = "promoted" ∨ f = 1 ∧ nm = "demoted" ∨ f = 2 ∧ nm = "turns") (hl : Cond.fieldLink own index "RankIndex$Counts" nm "I" ∈ kt) {x : Int32} (hdg : decode cc pc = .ok (.putfield index, 3))
    (kk : ∀ (H1 : Heap) (locs1 : List Loc), va_P D vwCl (cw cI cT cM ad (u3 σ i (u2 τ a f x))) H1 → va_S (gA 167 ad) H0 H1 locs1 → W p l e R s m args below meth c H1 locs1 cells slots Q (F0 m (pc + 3) ls rest)) : W p l e R s m args below meth c H locs cells slots Q (F0 m pc ls (.int x :: .ref (ad (10 * i + (1 + a))) :: rest)) := by
  have e := cw_cst (cI := cI) (cT := cT) (cM := cM) (ad := ad) (σ := σ) hi ha (τ := τ) (upd (τ a) f x)
  rcases hf with ⟨rfl, rfl⟩ | ⟨rfl, rfl⟩ | ⟨rfl, rfl⟩
  · refine va_put (D := D) (ci := 0) (v := .int x) (ty := .int) hx hb ht i_X1 tyX1 tyX1_ok nmX1 hown hX.1 hP (gw_D hD _) hS (10 * i + (1 + a)) (ct_cnt hi ha) rfl 0 (by decide) (ht _ hl) (fun _ h9 => h9) rfl (by decide +kernel) rfl rfl (Nat.le_of_ble_eq_true rfl) hdg (fun H1 locs1 hP1 _ hS1 => ?_)
    exact kk H1 locs1 (by rw [u2, ← e]; exact hP1) hS1
  · refine va_put (D := D) (ci := 0) (v := .int x) (ty := .int) hx hb ht i_X1 tyX1 tyX1_ok nmX1 hown hX.1 hP (gw_D hD _) hS (10 * i + (1 + a)) (ct_cnt hi ha) rfl 1 (by decide) (ht _ hl) (fun _ h9 => h9) rfl (by decide +kernel) rfl rfl (Nat.le_of_ble_eq_true rfl) hdg (fun H1 locs1 hP1 _ hS1 => ?_)
    exact kk H1 locs1 (by rw [u2, ← e]; exact hP1) hS1
  · refine va_put (D := D) (ci := 0) (v := .int x) (ty := .int) hx hb ht i_X1 tyX1 tyX1_ok nmX1 hown hX.1 hP (gw_D hD _) hS (10 * i + (1 + a)) (ct_cnt hi ha) rfl 2 (by decide) (ht _ hl) (fun _ h9 => h9) rfl (by decide +kernel) rfl rfl (Nat.le_of_ble_eq_true rfl) hdg (fun H1 locs1 hP1 _ hS1 => ?_)
    exact kk H1 locs1 (by rw [u2, ← e]; exact hP1) hS1
theorem cr_putPast {f : Nat} {nm : String} (hD : gInj 167 ad) (hx : p.tables.exec = Jvm.exec) (hb : c.code = cc) (ht : ∀ w ∈ kt, w.before args s = true) (hown : s.vm.findClass own = some m.cls) (hX : kX D (cTy cI cT cM) s) (hP : va_P D vwCl (cw cI cT cM ad σ) H) (hS : va_S (gA 167 ad) H0 H locs) (hf : f = 0 ∧ nm = "next" ∨ f = 1 ∧ nm = "held") (hl : Cond.fieldLink own index "RankIndex$Past" nm "I" ∈ kt) {x : Int32} (hdg : decode cc pc = .ok (.putfield index, 3))
    (kk : ∀ (H1 : Heap) (locs1 : List Loc), va_P D vwCl (cw cI cT cM ad (u3 σ 16 (u2 (σ 16) 0 f x))) H1 → va_S (gA 167 ad) H0 H1 locs1 → W p l e R s m args below meth c H1 locs1 cells slots Q (F0 m (pc + 3) ls rest)) : W p l e R s m args below meth c H locs cells slots Q (F0 m pc ls (.int x :: .ref (ad 161) :: rest)) := by
  have e := cw_pst (cI := cI) (cT := cT) (cM := cM) (ad := ad) (σ := σ) (τ := σ 16) (upd (σ 16 0) f x)
  rw [u3_self] at e
  rcases hf with ⟨rfl, rfl⟩ | ⟨rfl, rfl⟩
  · refine va_put (D := D) (ci := 4) (v := .int x) (ty := .int) hx hb ht i_X5 tyX5 tyX5_ok nmX5 hown hX.1 hP (gw_D hD _) hS 161 cw_past rfl 1 (by decide) (ht _ hl) (fun _ h9 => h9) rfl (by decide +kernel) rfl rfl (Nat.le_of_ble_eq_true rfl) hdg (fun H1 locs1 hP1 _ hS1 => ?_)
    exact kk H1 locs1 (by rw [u2, ← e]; exact hP1) hS1
  · refine va_put (D := D) (ci := 4) (v := .int x) (ty := .int) hx hb ht i_X5 tyX5 tyX5_ok nmX5 hown hX.1 hP (gw_D hD _) hS 161 cw_past rfl 2 (by decide) (ht _ hl) (fun _ h9 => h9) rfl (by decide +kernel) rfl rfl (Nat.le_of_ble_eq_true rfl) hdg (fun H1 locs1 hP1 _ hS1 => ?_)
    exact kk H1 locs1 (by rw [u2, ← e]; exact hP1) hS1
theorem cr_putSeed {j : Nat} (hD : gInj 167 ad) (hx : p.tables.exec = Jvm.exec) (hb : c.code = cc) (ht : ∀ w ∈ kt, w.before args s = true) (hown : s.vm.findClass own = some m.cls) (hX : kX D (cTy cI cT cM) s) (hP : va_P D vwCl (cw cI cT cM ad σ) H) (hS : va_S (gA 167 ad) H0 H locs) (hj : j < 2) (hl : Cond.fieldLink own index "RankIndex$Image" "seedValue" "I" ∈ kt) {x : Int32} (hdg : decode cc pc = .ok (.putfield index, 3))
    (kk : ∀ (H1 : Heap) (locs1 : List Loc), va_P D vwCl (cw cI cT cM ad (u3 σ 16 (u2 (σ 16) (1 + j) 0 x))) H1 → va_S (gA 167 ad) H0 H1 locs1 → W p l e R s m args below meth c H1 locs1 cells slots Q (F0 m (pc + 3) ls rest)) : W p l e R s m args below meth c H locs cells slots Q (F0 m pc ls (.int x :: .ref (ad (164 + j)) :: rest)) := by
  have e := cw_ist (cI := cI) (cT := cT) (cM := cM) (ad := ad) (σ := σ) (τ := σ 16) hj (upd (σ 16 (1 + j)) 0 x)
  rw [u3_self] at e
  refine va_put (D := D) (ci := 2) (v := .int x) (ty := .int) hx hb ht i_X3 tyX3 tyX3_ok nmX3 hown hX.1 hP (gw_D hD _) hS (164 + j) (cw_img hj) rfl 1 (by decide) (ht _ hl) (fun _ h9 => h9) rfl (by decide +kernel) rfl rfl (Nat.le_of_ble_eq_true rfl) hdg (fun H1 locs1 hP1 _ hS1 => ?_)
  exact kk H1 locs1 (by rw [u2, ← e]; exact hP1) hS1
theorem cr_putKept {j : Nat} (hD : gInj 167 ad) (hx : p.tables.exec = Jvm.exec) (hb : c.code = cc) (ht : ∀ w ∈ kt, w.before args s = true) (hown : s.vm.findClass own = some m.cls) (hX : kX D (cTy cI cT cM) s) (hP : va_P D vwCl (cw cI cT cM ad σ) H) (hS : va_S (gA 167 ad) H0 H locs) (hj : j < 2) (hl : Cond.fieldLink own index "RankIndex$Image" "kept" "Z" ∈ kt) (hdg : decode cc pc = .ok (.putfield index, 3))
    (kk : ∀ (H1 : Heap) (locs1 : List Loc), va_P D vwCl (cw cI cT cM ad (u3 σ 16 (u2 (σ 16) (1 + j) 1 1))) H1 → va_S (gA 167 ad) H0 H1 locs1 → W p l e R s m args below meth c H1 locs1 cells slots Q (F0 m (pc + 3) ls rest)) : W p l e R s m args below meth c H locs cells slots Q (F0 m pc ls (.int 1 :: .ref (ad (164 + j)) :: rest)) := by
  have e := cw_ist (cI := cI) (cT := cT) (cM := cM) (ad := ad) (σ := σ) (τ := σ 16) hj (upd (σ 16 (1 + j)) 1 1)
  rw [u3_self] at e
  refine va_put (D := D) (ci := 2) (v := .int 1) (ty := .boolean) hx hb ht i_X3 tyX3 tyX3_ok nmX3 hown hX.1 hP (gw_D hD _) hS (164 + j) (cw_img hj) rfl 2 (by decide) (ht _ hl) (fun _ h9 => h9) rfl (by decide +kernel) rfl rfl (Nat.le_of_ble_eq_true rfl) hdg (fun H1 locs1 hP1 _ hS1 => ?_)
  exact kk H1 locs1 (by rw [u2, ← e]; exact hP1) hS1
theorem cr_putDraw (hD : gInj 167 ad) (hx : p.tables.exec = Jvm.exec) (hb : c.code = cc) (ht : ∀ w ∈ kt, w.before args s = true) (hown : s.vm.findClass own = some m.cls) (hX : kX D (cTy cI cT cM) s) (hP : va_P D vwCl (cw cI cT cM ad σ) H) (hS : va_S (gA 167 ad) H0 H locs) (hl : Cond.fieldLink own index "RankIndex$Draws" "value" "I" ∈ kt) {x : Int32} (hdg : decode cc pc = .ok (.putfield index, 3))
    (kk : ∀ (H1 : Heap) (locs1 : List Loc), va_P D vwCl (cw cI cT cM ad (u3 σ 16 (u2 (σ 16) 3 0 x))) H1 → va_S (gA 167 ad) H0 H1 locs1 → W p l e R s m args below meth c H1 locs1 cells slots Q (F0 m (pc + 3) ls rest)) : W p l e R s m args below meth c H locs cells slots Q (F0 m pc ls (.int x :: .ref (ad 166) :: rest)) := by
  have e := cw_dst (cI := cI) (cT := cT) (cM := cM) (ad := ad) (σ := σ) (τ := σ 16) (upd (σ 16 3) 0 x)
  rw [u3_self] at e
  refine va_put (D := D) (ci := 1) (v := .int x) (ty := .int) hx hb ht i_X2 tyX2 tyX2_ok nmX2 hown hX.1 hP (gw_D hD _) hS 166 cw_draws rfl 0 (by decide) (ht _ hl) (fun _ h9 => h9) rfl (by decide +kernel) rfl rfl (Nat.le_of_ble_eq_true rfl) hdg (fun H1 locs1 hP1 _ hS1 => ?_)
  exact kk H1 locs1 (by rw [u2, ← e]; exact hP1) hS1
/-- System.arraycopy of sixty numbers, from a row of tree j to the same row of tree i -/
theorem cr_copy {j : Nat} (hD : gInj 167 ad) (hx : p.tables.exec = Jvm.exec) (hb : c.code = cc) (hml : c.maxLocals = ls.size) (ht : ∀ w ∈ kt, w.before args s = true) (hown : s.vm.findClass own = some m.cls) (hX : kX D (cTy cI cT cM) s) (hP : va_P D vwCl (cw cI cT cM ad (u3 σ i τ)) H) (hS : va_S (gA 167 ad) H0 H locs) (hi : i < 16) (hj : j < 16) (hij : j ≠ i) {a : Nat} (ha : a < 6) (hl : Cond.methodLink own index arraycopyName ∈ kt)
    (hframes : 1 ≤ R.frames) (hlocals : (rest.map fun v => v.category).sum + (nativeFrameWords "java/lang/System" "arraycopy" 5 + 11) ≤ R.locals) (hdg : decode cc pc = .ok (.invokestatic index, 3))
    (kk : ∀ (H1 : Heap) (locs1 : List Loc), va_P D vwCl (cw cI cT cM ad (u3 σ i (u1 τ a (va_cpy (σ j a) (τ a) 0 0 60)))) H1 → va_S (gA 167 ad) H0 H1 locs1 → W p l e R s m args below meth c H1 locs1 cells slots Q (F0 m (pc + 3) ls rest)) : W p l e R s m args below meth c H locs cells slots Q (F0 m pc ls (.int 60 :: .int 0 :: .ref (ad (10 * i + (2 + a))) :: .int 0 :: .ref (ad (10 * j + (2 + a))) :: rest)) := by
  have e0 := cw_arr (cI := cI) (cT := cT) (cM := cM) (ad := ad) (σ := u3 σ i τ) hj ha
  rw [u3_ne σ τ hij] at e0
  refine va_copyi hx hb hml hown (ht _ hl) (ht _ kNM_arraycopyName) (ht _ kSM_arraycopyName) (ht _ kIN_RJ10) hX.1 hP (gw_D hD _) hS (10 * j + (2 + a)) (10 * i + (2 + a)) 0 0 e0 (ct_arr hi ha) rfl rfl rfl (by decide) (by decide) (by decide) (Nat.le_of_ble_eq_true rfl) (Nat.le_of_ble_eq_true rfl) (fun _ _ => rfl) hframes hlocals hdg (fun H1 locs1 hP1 _ hS1 => ?_)
  have e := cw_ast (cI := cI) (cT := cT) (cM := cM) (ad := ad) (σ := σ) hi ha (τ := τ) (va_cpy (σ j a) (τ a) 0 0 60)
  exact kk H1 locs1 (by rw [← e]; exact hP1) hS1
theorem P_u3 (i : Nat) (hP : va_P D vwCl (cw cI cT cM ad σ) H) : va_P D vwCl (cw cI cT cM ad (u3 σ i (σ i))) H := by rw [u3_self]; exact hP
end ROWS
end
