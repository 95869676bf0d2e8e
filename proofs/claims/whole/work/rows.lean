section
-- ===== PART A: goes FIRST, ahead of the names: the tables' words, and 'selects' of the private methods out of them =====
/-- a private method of a class that the tables say can be made, by its rows of tables_1 -/
def lw_okq (q : MethodName × Nat) : Prop := (q.1.cls ≠ "java/lang/invoke/MethodHandle" ∧ q.1.cls ≠ "java/lang/invoke/VarHandle") ∧ Cond.instantiable q.1.cls q.2 ∈ tables_1 ∧ Cond.privateMethod q.1 ∈ tables_1 ∧ Cond.instanceMethod q.1 ∈ tables_1
theorem lw_p0 : lw_okq (⟨"MatchForge", "give", "(III)V"⟩, 11) := ⟨⟨by decide +kernel, by decide +kernel⟩, List.mem_of_getElem? (i := 16) (by decide +kernel), List.mem_of_getElem? (i := 314) (by decide +kernel), List.mem_of_getElem? (i := 315) (by decide +kernel)⟩
theorem lw_p1 : lw_okq (⟨"MatchForge$Types", "settlePlain", "()V"⟩, 7) := ⟨⟨by decide +kernel, by decide +kernel⟩, List.mem_of_getElem? (i := 24) (by decide +kernel), List.mem_of_getElem? (i := 330) (by decide +kernel), List.mem_of_getElem? (i := 331) (by decide +kernel)⟩
theorem lw_p2 : lw_okq (⟨"MatchForge$Types", "settlePlainOf", "(I)V"⟩, 7) := ⟨⟨by decide +kernel, by decide +kernel⟩, List.mem_of_getElem? (i := 24) (by decide +kernel), List.mem_of_getElem? (i := 334) (by decide +kernel), List.mem_of_getElem? (i := 335) (by decide +kernel)⟩
theorem lw_p3 : lw_okq (⟨"MatchForge$Types", "smallestBy", "(II)I"⟩, 7) := ⟨⟨by decide +kernel, by decide +kernel⟩, List.mem_of_getElem? (i := 24) (by decide +kernel), List.mem_of_getElem? (i := 338) (by decide +kernel), List.mem_of_getElem? (i := 339) (by decide +kernel)⟩
theorem lw_p4 : lw_okq (⟨"MatchForge$Terms", "join", "(II)V"⟩, 11) := ⟨⟨by decide +kernel, by decide +kernel⟩, List.mem_of_getElem? (i := 58) (by decide +kernel), List.mem_of_getElem? (i := 362) (by decide +kernel), List.mem_of_getElem? (i := 363) (by decide +kernel)⟩
theorem lw_p5 : lw_okq (⟨"MatchForge", "addMade", "(LMatchForge$Terms;II)I"⟩, 11) := ⟨⟨by decide +kernel, by decide +kernel⟩, List.mem_of_getElem? (i := 16) (by decide +kernel), List.mem_of_getElem? (i := 370) (by decide +kernel), List.mem_of_getElem? (i := 371) (by decide +kernel)⟩
theorem lw_p6 : lw_okq (⟨"MatchForge", "isMatch", "(I)Z"⟩, 11) := ⟨⟨by decide +kernel, by decide +kernel⟩, List.mem_of_getElem? (i := 16) (by decide +kernel), List.mem_of_getElem? (i := 568) (by decide +kernel), List.mem_of_getElem? (i := 569) (by decide +kernel)⟩
theorem lw_p7 : lw_okq (⟨"MatchForge", "isGuard", "(III)Z"⟩, 11) := ⟨⟨by decide +kernel, by decide +kernel⟩, List.mem_of_getElem? (i := 16) (by decide +kernel), List.mem_of_getElem? (i := 577) (by decide +kernel), List.mem_of_getElem? (i := 578) (by decide +kernel)⟩
theorem lw_p8 : lw_okq (⟨"MatchForge$Builder", "begin", "(LMatchForge$Match;)V"⟩, 18) := ⟨⟨by decide +kernel, by decide +kernel⟩, List.mem_of_getElem? (i := 113) (by decide +kernel), List.mem_of_getElem? (i := 597) (by decide +kernel), List.mem_of_getElem? (i := 598) (by decide +kernel)⟩
theorem lw_p9 : lw_okq (⟨"MatchForge$Builder", "putParts", "(III)I"⟩, 18) := ⟨⟨by decide +kernel, by decide +kernel⟩, List.mem_of_getElem? (i := 113) (by decide +kernel), List.mem_of_getElem? (i := 638) (by decide +kernel), List.mem_of_getElem? (i := 639) (by decide +kernel)⟩
theorem lw_p10 : lw_okq (⟨"MatchForge$Builder", "stripNames", "(II)I"⟩, 18) := ⟨⟨by decide +kernel, by decide +kernel⟩, List.mem_of_getElem? (i := 113) (by decide +kernel), List.mem_of_getElem? (i := 642) (by decide +kernel), List.mem_of_getElem? (i := 643) (by decide +kernel)⟩
theorem lw_p11 : lw_okq (⟨"MatchForge$Builder", "keep", "(II)V"⟩, 18) := ⟨⟨by decide +kernel, by decide +kernel⟩, List.mem_of_getElem? (i := 113) (by decide +kernel), List.mem_of_getElem? (i := 650) (by decide +kernel), List.mem_of_getElem? (i := 651) (by decide +kernel)⟩
theorem lw_p12 : lw_okq (⟨"MatchForge$Builder", "putOff", "(II)V"⟩, 18) := ⟨⟨by decide +kernel, by decide +kernel⟩, List.mem_of_getElem? (i := 113) (by decide +kernel), List.mem_of_getElem? (i := 654) (by decide +kernel), List.mem_of_getElem? (i := 655) (by decide +kernel)⟩
theorem lw_p13 : lw_okq (⟨"MatchForge$Builder", "loadRows", "(I)V"⟩, 18) := ⟨⟨by decide +kernel, by decide +kernel⟩, List.mem_of_getElem? (i := 113) (by decide +kernel), List.mem_of_getElem? (i := 658) (by decide +kernel), List.mem_of_getElem? (i := 659) (by decide +kernel)⟩
theorem lw_p14 : lw_okq (⟨"MatchForge$Builder", "splitFirst", "()V"⟩, 18) := ⟨⟨by decide +kernel, by decide +kernel⟩, List.mem_of_getElem? (i := 113) (by decide +kernel), List.mem_of_getElem? (i := 663) (by decide +kernel), List.mem_of_getElem? (i := 664) (by decide +kernel)⟩
theorem lw_p15 : lw_okq (⟨"MatchForge$Builder", "placeThatCounts", "()I"⟩, 18) := ⟨⟨by decide +kernel, by decide +kernel⟩, List.mem_of_getElem? (i := 113) (by decide +kernel), List.mem_of_getElem? (i := 667) (by decide +kernel), List.mem_of_getElem? (i := 668) (by decide +kernel)⟩
def lw_privs_1 : List (MethodName × Nat) := [(⟨"MatchForge", "give", "(III)V"⟩, 11), (⟨"MatchForge$Types", "settlePlain", "()V"⟩, 7), (⟨"MatchForge$Types", "settlePlainOf", "(I)V"⟩, 7), (⟨"MatchForge$Types", "smallestBy", "(II)I"⟩, 7), (⟨"MatchForge$Terms", "join", "(II)V"⟩, 11), (⟨"MatchForge", "addMade", "(LMatchForge$Terms;II)I"⟩, 11), (⟨"MatchForge", "isMatch", "(I)Z"⟩, 11), (⟨"MatchForge", "isGuard", "(III)Z"⟩, 11), (⟨"MatchForge$Builder", "begin", "(LMatchForge$Match;)V"⟩, 18), (⟨"MatchForge$Builder", "putParts", "(III)I"⟩, 18), (⟨"MatchForge$Builder", "stripNames", "(II)I"⟩, 18), (⟨"MatchForge$Builder", "keep", "(II)V"⟩, 18), (⟨"MatchForge$Builder", "putOff", "(II)V"⟩, 18), (⟨"MatchForge$Builder", "loadRows", "(I)V"⟩, 18), (⟨"MatchForge$Builder", "splitFirst", "()V"⟩, 18), (⟨"MatchForge$Builder", "placeThatCounts", "()I"⟩, 18)]
theorem lw_r1 : ∀ q ∈ lw_privs_1, lw_okq q := List.forall_mem_cons.mpr ⟨lw_p0, List.forall_mem_cons.mpr ⟨lw_p1, List.forall_mem_cons.mpr ⟨lw_p2, List.forall_mem_cons.mpr ⟨lw_p3, List.forall_mem_cons.mpr ⟨lw_p4, List.forall_mem_cons.mpr ⟨lw_p5, List.forall_mem_cons.mpr ⟨lw_p6, List.forall_mem_cons.mpr ⟨lw_p7, List.forall_mem_cons.mpr ⟨lw_p8, List.forall_mem_cons.mpr ⟨lw_p9, List.forall_mem_cons.mpr ⟨lw_p10, List.forall_mem_cons.mpr ⟨lw_p11, List.forall_mem_cons.mpr ⟨lw_p12, List.forall_mem_cons.mpr ⟨lw_p13, List.forall_mem_cons.mpr ⟨lw_p14, List.forall_mem_cons.mpr ⟨lw_p15, fun _ h => absurd h List.not_mem_nil⟩⟩⟩⟩⟩⟩⟩⟩⟩⟩⟩⟩⟩⟩⟩⟩
theorem lw_p16 : lw_okq (⟨"MatchForge$Builder", "isEither", "(II)Z"⟩, 18) := ⟨⟨by decide +kernel, by decide +kernel⟩, List.mem_of_getElem? (i := 113) (by decide +kernel), List.mem_of_getElem? (i := 671) (by decide +kernel), List.mem_of_getElem? (i := 672) (by decide +kernel)⟩
theorem lw_p17 : lw_okq (⟨"MatchForge$Builder", "patternAt", "(II)I"⟩, 18) := ⟨⟨by decide +kernel, by decide +kernel⟩, List.mem_of_getElem? (i := 113) (by decide +kernel), List.mem_of_getElem? (i := 675) (by decide +kernel), List.mem_of_getElem? (i := 676) (by decide +kernel)⟩
theorem lw_p18 : lw_okq (⟨"MatchForge$Builder", "split", "(II)V"⟩, 18) := ⟨⟨by decide +kernel, by decide +kernel⟩, List.mem_of_getElem? (i := 113) (by decide +kernel), List.mem_of_getElem? (i := 679) (by decide +kernel), List.mem_of_getElem? (i := 680) (by decide +kernel)⟩
theorem lw_p19 : lw_okq (⟨"MatchForge$Builder", "splitAll", "(I)V"⟩, 18) := ⟨⟨by decide +kernel, by decide +kernel⟩, List.mem_of_getElem? (i := 113) (by decide +kernel), List.mem_of_getElem? (i := 683) (by decide +kernel), List.mem_of_getElem? (i := 684) (by decide +kernel)⟩
theorem lw_p20 : lw_okq (⟨"MatchForge$Builder", "endNode", "(I)V"⟩, 18) := ⟨⟨by decide +kernel, by decide +kernel⟩, List.mem_of_getElem? (i := 113) (by decide +kernel), List.mem_of_getElem? (i := 687) (by decide +kernel), List.mem_of_getElem? (i := 688) (by decide +kernel)⟩
theorem lw_p21 : lw_okq (⟨"MatchForge$Builder", "tellNames", "(II)V"⟩, 18) := ⟨⟨by decide +kernel, by decide +kernel⟩, List.mem_of_getElem? (i := 113) (by decide +kernel), List.mem_of_getElem? (i := 695) (by decide +kernel), List.mem_of_getElem? (i := 696) (by decide +kernel)⟩
theorem lw_p22 : lw_okq (⟨"MatchForge$Builder", "growTest", "(II)V"⟩, 18) := ⟨⟨by decide +kernel, by decide +kernel⟩, List.mem_of_getElem? (i := 113) (by decide +kernel), List.mem_of_getElem? (i := 703) (by decide +kernel), List.mem_of_getElem? (i := 704) (by decide +kernel)⟩
theorem lw_p23 : lw_okq (⟨"MatchForge$Builder", "gatherLabels", "(I)V"⟩, 18) := ⟨⟨by decide +kernel, by decide +kernel⟩, List.mem_of_getElem? (i := 113) (by decide +kernel), List.mem_of_getElem? (i := 707) (by decide +kernel), List.mem_of_getElem? (i := 708) (by decide +kernel)⟩
theorem lw_p24 : lw_okq (⟨"MatchForge$Builder", "gatherLabel", "(I)V"⟩, 18) := ⟨⟨by decide +kernel, by decide +kernel⟩, List.mem_of_getElem? (i := 113) (by decide +kernel), List.mem_of_getElem? (i := 711) (by decide +kernel), List.mem_of_getElem? (i := 712) (by decide +kernel)⟩
theorem lw_p25 : lw_okq (⟨"MatchForge$Builder", "growBranch", "(IIIZ)V"⟩, 18) := ⟨⟨by decide +kernel, by decide +kernel⟩, List.mem_of_getElem? (i := 113) (by decide +kernel), List.mem_of_getElem? (i := 715) (by decide +kernel), List.mem_of_getElem? (i := 716) (by decide +kernel)⟩
theorem lw_p26 : lw_okq (⟨"MatchForge$Builder", "leastAbsent", "()I"⟩, 18) := ⟨⟨by decide +kernel, by decide +kernel⟩, List.mem_of_getElem? (i := 113) (by decide +kernel), List.mem_of_getElem? (i := 721) (by decide +kernel), List.mem_of_getElem? (i := 722) (by decide +kernel)⟩
theorem lw_p27 : lw_okq (⟨"MatchForge$Walk", "branchOf", "(LMatchForge$Tree;I)I"⟩, 5) := ⟨⟨by decide +kernel, by decide +kernel⟩, List.mem_of_getElem? (i := 197) (by decide +kernel), List.mem_of_getElem? (i := 731) (by decide +kernel), List.mem_of_getElem? (i := 732) (by decide +kernel)⟩
theorem lw_p28 : lw_okq (⟨"MatchForge$Walk", "openParts", "(II)V"⟩, 5) := ⟨⟨by decide +kernel, by decide +kernel⟩, List.mem_of_getElem? (i := 197) (by decide +kernel), List.mem_of_getElem? (i := 735) (by decide +kernel), List.mem_of_getElem? (i := 736) (by decide +kernel)⟩
theorem lw_p29 : lw_okq (⟨"MatchForge$Walk", "asks", "(LMatchForge$Match;I)Z"⟩, 5) := ⟨⟨by decide +kernel, by decide +kernel⟩, List.mem_of_getElem? (i := 197) (by decide +kernel), List.mem_of_getElem? (i := 740) (by decide +kernel), List.mem_of_getElem? (i := 741) (by decide +kernel)⟩
theorem lw_p30 : lw_okq (⟨"MatchForge$Walk", "bind", "(LMatchForge$Tree;I)V"⟩, 5) := ⟨⟨by decide +kernel, by decide +kernel⟩, List.mem_of_getElem? (i := 197) (by decide +kernel), List.mem_of_getElem? (i := 748) (by decide +kernel), List.mem_of_getElem? (i := 749) (by decide +kernel)⟩
theorem lw_p31 : lw_okq (⟨"MatchForge$Teller", "markWay", "(LMatchForge$Tree;)V"⟩, 6) := ⟨⟨by decide +kernel, by decide +kernel⟩, List.mem_of_getElem? (i := 241) (by decide +kernel), List.mem_of_getElem? (i := 768) (by decide +kernel), List.mem_of_getElem? (i := 769) (by decide +kernel)⟩
def lw_privs_2 : List (MethodName × Nat) := [(⟨"MatchForge$Builder", "isEither", "(II)Z"⟩, 18), (⟨"MatchForge$Builder", "patternAt", "(II)I"⟩, 18), (⟨"MatchForge$Builder", "split", "(II)V"⟩, 18), (⟨"MatchForge$Builder", "splitAll", "(I)V"⟩, 18), (⟨"MatchForge$Builder", "endNode", "(I)V"⟩, 18), (⟨"MatchForge$Builder", "tellNames", "(II)V"⟩, 18), (⟨"MatchForge$Builder", "growTest", "(II)V"⟩, 18), (⟨"MatchForge$Builder", "gatherLabels", "(I)V"⟩, 18), (⟨"MatchForge$Builder", "gatherLabel", "(I)V"⟩, 18), (⟨"MatchForge$Builder", "growBranch", "(IIIZ)V"⟩, 18), (⟨"MatchForge$Builder", "leastAbsent", "()I"⟩, 18), (⟨"MatchForge$Walk", "branchOf", "(LMatchForge$Tree;I)I"⟩, 5), (⟨"MatchForge$Walk", "openParts", "(II)V"⟩, 5), (⟨"MatchForge$Walk", "asks", "(LMatchForge$Match;I)Z"⟩, 5), (⟨"MatchForge$Walk", "bind", "(LMatchForge$Tree;I)V"⟩, 5), (⟨"MatchForge$Teller", "markWay", "(LMatchForge$Tree;)V"⟩, 6)]
theorem lw_r2 : ∀ q ∈ lw_privs_2, lw_okq q := List.forall_mem_cons.mpr ⟨lw_p16, List.forall_mem_cons.mpr ⟨lw_p17, List.forall_mem_cons.mpr ⟨lw_p18, List.forall_mem_cons.mpr ⟨lw_p19, List.forall_mem_cons.mpr ⟨lw_p20, List.forall_mem_cons.mpr ⟨lw_p21, List.forall_mem_cons.mpr ⟨lw_p22, List.forall_mem_cons.mpr ⟨lw_p23, List.forall_mem_cons.mpr ⟨lw_p24, List.forall_mem_cons.mpr ⟨lw_p25, List.forall_mem_cons.mpr ⟨lw_p26, List.forall_mem_cons.mpr ⟨lw_p27, List.forall_mem_cons.mpr ⟨lw_p28, List.forall_mem_cons.mpr ⟨lw_p29, List.forall_mem_cons.mpr ⟨lw_p30, List.forall_mem_cons.mpr ⟨lw_p31, fun _ h => absurd h List.not_mem_nil⟩⟩⟩⟩⟩⟩⟩⟩⟩⟩⟩⟩⟩⟩⟩⟩
theorem lw_p32 : lw_okq (⟨"MatchForge$Teller", "spell", "(LMatchForge$Match;)I"⟩, 6) := ⟨⟨by decide +kernel, by decide +kernel⟩, List.mem_of_getElem? (i := 241) (by decide +kernel), List.mem_of_getElem? (i := 773) (by decide +kernel), List.mem_of_getElem? (i := 774) (by decide +kernel)⟩
theorem lw_p33 : lw_okq (⟨"MatchForge", "allRows", "()I"⟩, 11) := ⟨⟨by decide +kernel, by decide +kernel⟩, List.mem_of_getElem? (i := 16) (by decide +kernel), List.mem_of_getElem? (i := 791) (by decide +kernel), List.mem_of_getElem? (i := 792) (by decide +kernel)⟩
theorem lw_p34 : lw_okq (⟨"MatchForge", "agrees", "(LMatchForge$Match;)Z"⟩, 11) := ⟨⟨by decide +kernel, by decide +kernel⟩, List.mem_of_getElem? (i := 16) (by decide +kernel), List.mem_of_getElem? (i := 803) (by decide +kernel), List.mem_of_getElem? (i := 804) (by decide +kernel)⟩
theorem lw_p35 : lw_okq (⟨"MatchForge$Judge", "allFit", "(LMatchForge$Match;I[I)Z"⟩, 3) := ⟨⟨by decide +kernel, by decide +kernel⟩, List.mem_of_getElem? (i := 225) (by decide +kernel), List.mem_of_getElem? (i := 814) (by decide +kernel), List.mem_of_getElem? (i := 815) (by decide +kernel)⟩
theorem lw_p36 : lw_okq (⟨"MatchForge$Judge", "fits", "(III)Z"⟩, 3) := ⟨⟨by decide +kernel, by decide +kernel⟩, List.mem_of_getElem? (i := 225) (by decide +kernel), List.mem_of_getElem? (i := 819) (by decide +kernel), List.mem_of_getElem? (i := 820) (by decide +kernel)⟩
theorem lw_p37 : lw_okq (⟨"MatchForge$Judge", "partsFit", "(III)Z"⟩, 3) := ⟨⟨by decide +kernel, by decide +kernel⟩, List.mem_of_getElem? (i := 225) (by decide +kernel), List.mem_of_getElem? (i := 824) (by decide +kernel), List.mem_of_getElem? (i := 825) (by decide +kernel)⟩
theorem lw_p38 : lw_okq (⟨"MatchForge$Judge", "holds", "(LMatchForge$Match;I)Z"⟩, 3) := ⟨⟨by decide +kernel, by decide +kernel⟩, List.mem_of_getElem? (i := 225) (by decide +kernel), List.mem_of_getElem? (i := 829) (by decide +kernel), List.mem_of_getElem? (i := 830) (by decide +kernel)⟩
theorem lw_p39 : lw_okq (⟨"MatchForgeModel", "isType", "(I)Z"⟩, 56) := ⟨⟨by decide +kernel, by decide +kernel⟩, List.mem_of_getElem? (i := 833) (by decide +kernel), List.mem_of_getElem? (i := 1020) (by decide +kernel), List.mem_of_getElem? (i := 1021) (by decide +kernel)⟩
theorem lw_p40 : lw_okq (⟨"MatchForgeModel", "findPlains", "()V"⟩, 56) := ⟨⟨by decide +kernel, by decide +kernel⟩, List.mem_of_getElem? (i := 833) (by decide +kernel), List.mem_of_getElem? (i := 1024) (by decide +kernel), List.mem_of_getElem? (i := 1025) (by decide +kernel)⟩
theorem lw_p41 : lw_okq (⟨"MatchForgeModel", "madeSize", "(II)I"⟩, 56) := ⟨⟨by decide +kernel, by decide +kernel⟩, List.mem_of_getElem? (i := 833) (by decide +kernel), List.mem_of_getElem? (i := 1028) (by decide +kernel), List.mem_of_getElem? (i := 1029) (by decide +kernel)⟩
theorem lw_p42 : lw_okq (⟨"MatchForgeModel", "addValue", "(III)I"⟩, 56) := ⟨⟨by decide +kernel, by decide +kernel⟩, List.mem_of_getElem? (i := 833) (by decide +kernel), List.mem_of_getElem? (i := 1036) (by decide +kernel), List.mem_of_getElem? (i := 1037) (by decide +kernel)⟩
theorem lw_p43 : lw_okq (⟨"MatchForgeModel", "isMaker", "(II)Z"⟩, 56) := ⟨⟨by decide +kernel, by decide +kernel⟩, List.mem_of_getElem? (i := 833) (by decide +kernel), List.mem_of_getElem? (i := 1044) (by decide +kernel), List.mem_of_getElem? (i := 1045) (by decide +kernel)⟩
theorem lw_p44 : lw_okq (⟨"MatchForgeModel", "countOf", "(II)I"⟩, 56) := ⟨⟨by decide +kernel, by decide +kernel⟩, List.mem_of_getElem? (i := 833) (by decide +kernel), List.mem_of_getElem? (i := 1048) (by decide +kernel), List.mem_of_getElem? (i := 1049) (by decide +kernel)⟩
theorem lw_p45 : lw_okq (⟨"MatchForgeModel", "partType", "(III)I"⟩, 56) := ⟨⟨by decide +kernel, by decide +kernel⟩, List.mem_of_getElem? (i := 833) (by decide +kernel), List.mem_of_getElem? (i := 1055) (by decide +kernel), List.mem_of_getElem? (i := 1056) (by decide +kernel)⟩
theorem lw_p46 : lw_okq (⟨"MatchForgeModel", "isValueOf", "(II)Z"⟩, 56) := ⟨⟨by decide +kernel, by decide +kernel⟩, List.mem_of_getElem? (i := 833) (by decide +kernel), List.mem_of_getElem? (i := 1059) (by decide +kernel), List.mem_of_getElem? (i := 1060) (by decide +kernel)⟩
theorem lw_p47 : lw_okq (⟨"MatchForgeModel", "addPattern", "(IIIIIZ)I"⟩, 56) := ⟨⟨by decide +kernel, by decide +kernel⟩, List.mem_of_getElem? (i := 833) (by decide +kernel), List.mem_of_getElem? (i := 1070) (by decide +kernel), List.mem_of_getElem? (i := 1071) (by decide +kernel)⟩
def lw_privs_3 : List (MethodName × Nat) := [(⟨"MatchForge$Teller", "spell", "(LMatchForge$Match;)I"⟩, 6), (⟨"MatchForge", "allRows", "()I"⟩, 11), (⟨"MatchForge", "agrees", "(LMatchForge$Match;)Z"⟩, 11), (⟨"MatchForge$Judge", "allFit", "(LMatchForge$Match;I[I)Z"⟩, 3), (⟨"MatchForge$Judge", "fits", "(III)Z"⟩, 3), (⟨"MatchForge$Judge", "partsFit", "(III)Z"⟩, 3), (⟨"MatchForge$Judge", "holds", "(LMatchForge$Match;I)Z"⟩, 3), (⟨"MatchForgeModel", "isType", "(I)Z"⟩, 56), (⟨"MatchForgeModel", "findPlains", "()V"⟩, 56), (⟨"MatchForgeModel", "madeSize", "(II)I"⟩, 56), (⟨"MatchForgeModel", "addValue", "(III)I"⟩, 56), (⟨"MatchForgeModel", "isMaker", "(II)Z"⟩, 56), (⟨"MatchForgeModel", "countOf", "(II)I"⟩, 56), (⟨"MatchForgeModel", "partType", "(III)I"⟩, 56), (⟨"MatchForgeModel", "isValueOf", "(II)Z"⟩, 56), (⟨"MatchForgeModel", "addPattern", "(IIIIIZ)I"⟩, 56)]
theorem lw_r3 : ∀ q ∈ lw_privs_3, lw_okq q := List.forall_mem_cons.mpr ⟨lw_p32, List.forall_mem_cons.mpr ⟨lw_p33, List.forall_mem_cons.mpr ⟨lw_p34, List.forall_mem_cons.mpr ⟨lw_p35, List.forall_mem_cons.mpr ⟨lw_p36, List.forall_mem_cons.mpr ⟨lw_p37, List.forall_mem_cons.mpr ⟨lw_p38, List.forall_mem_cons.mpr ⟨lw_p39, List.forall_mem_cons.mpr ⟨lw_p40, List.forall_mem_cons.mpr ⟨lw_p41, List.forall_mem_cons.mpr ⟨lw_p42, List.forall_mem_cons.mpr ⟨lw_p43, List.forall_mem_cons.mpr ⟨lw_p44, List.forall_mem_cons.mpr ⟨lw_p45, List.forall_mem_cons.mpr ⟨lw_p46, List.forall_mem_cons.mpr ⟨lw_p47, fun _ h => absurd h List.not_mem_nil⟩⟩⟩⟩⟩⟩⟩⟩⟩⟩⟩⟩⟩⟩⟩⟩
theorem lw_p48 : lw_okq (⟨"MatchForgeModel", "isPattern", "(I)Z"⟩, 56) := ⟨⟨by decide +kernel, by decide +kernel⟩, List.mem_of_getElem? (i := 833) (by decide +kernel), List.mem_of_getElem? (i := 1078) (by decide +kernel), List.mem_of_getElem? (i := 1079) (by decide +kernel)⟩
theorem lw_p49 : lw_okq (⟨"MatchForgeModel", "hasName", "(II)Z"⟩, 56) := ⟨⟨by decide +kernel, by decide +kernel⟩, List.mem_of_getElem? (i := 833) (by decide +kernel), List.mem_of_getElem? (i := 1082) (by decide +kernel), List.mem_of_getElem? (i := 1083) (by decide +kernel)⟩
theorem lw_p50 : lw_okq (⟨"MatchForgeModel", "isMatch", "(I)Z"⟩, 56) := ⟨⟨by decide +kernel, by decide +kernel⟩, List.mem_of_getElem? (i := 833) (by decide +kernel), List.mem_of_getElem? (i := 1106) (by decide +kernel), List.mem_of_getElem? (i := 1107) (by decide +kernel)⟩
theorem lw_p51 : lw_okq (⟨"MatchForgeModel", "typeOfName", "(II)I"⟩, 56) := ⟨⟨by decide +kernel, by decide +kernel⟩, List.mem_of_getElem? (i := 833) (by decide +kernel), List.mem_of_getElem? (i := 1110) (by decide +kernel), List.mem_of_getElem? (i := 1111) (by decide +kernel)⟩
theorem lw_p52 : lw_okq (⟨"MatchForgeModel", "forget", "()V"⟩, 56) := ⟨⟨by decide +kernel, by decide +kernel⟩, List.mem_of_getElem? (i := 833) (by decide +kernel), List.mem_of_getElem? (i := 1118) (by decide +kernel), List.mem_of_getElem? (i := 1119) (by decide +kernel)⟩
theorem lw_p53 : lw_okq (⟨"MatchForgeModel", "look", "(I)V"⟩, 56) := ⟨⟨by decide +kernel, by decide +kernel⟩, List.mem_of_getElem? (i := 833) (by decide +kernel), List.mem_of_getElem? (i := 1122) (by decide +kernel), List.mem_of_getElem? (i := 1123) (by decide +kernel)⟩
theorem lw_p54 : lw_okq (⟨"MatchForgeModel", "goThrough", "(IZIII)V"⟩, 56) := ⟨⟨by decide +kernel, by decide +kernel⟩, List.mem_of_getElem? (i := 833) (by decide +kernel), List.mem_of_getElem? (i := 1126) (by decide +kernel), List.mem_of_getElem? (i := 1127) (by decide +kernel)⟩
theorem lw_p55 : lw_okq (⟨"MatchForgeModel", "newPlace", "(II)I"⟩, 56) := ⟨⟨by decide +kernel, by decide +kernel⟩, List.mem_of_getElem? (i := 833) (by decide +kernel), List.mem_of_getElem? (i := 1130) (by decide +kernel), List.mem_of_getElem? (i := 1131) (by decide +kernel)⟩
theorem lw_p56 : lw_okq (⟨"MatchForgeModel", "pushRow", "(II)I"⟩, 56) := ⟨⟨by decide +kernel, by decide +kernel⟩, List.mem_of_getElem? (i := 833) (by decide +kernel), List.mem_of_getElem? (i := 1134) (by decide +kernel), List.mem_of_getElem? (i := 1135) (by decide +kernel)⟩
theorem lw_p57 : lw_okq (⟨"MatchForgeModel", "patternOf", "(III)I"⟩, 56) := ⟨⟨by decide +kernel, by decide +kernel⟩, List.mem_of_getElem? (i := 833) (by decide +kernel), List.mem_of_getElem? (i := 1138) (by decide +kernel), List.mem_of_getElem? (i := 1139) (by decide +kernel)⟩
theorem lw_p58 : lw_okq (⟨"MatchForgeModel", "setCell", "(IIII)V"⟩, 56) := ⟨⟨by decide +kernel, by decide +kernel⟩, List.mem_of_getElem? (i := 833) (by decide +kernel), List.mem_of_getElem? (i := 1142) (by decide +kernel), List.mem_of_getElem? (i := 1143) (by decide +kernel)⟩
theorem lw_p59 : lw_okq (⟨"MatchForgeModel", "node", "(III)V"⟩, 56) := ⟨⟨by decide +kernel, by decide +kernel⟩, List.mem_of_getElem? (i := 833) (by decide +kernel), List.mem_of_getElem? (i := 1146) (by decide +kernel), List.mem_of_getElem? (i := 1147) (by decide +kernel)⟩
theorem lw_p60 : lw_okq (⟨"MatchForgeModel", "firstOpen", "(II)I"⟩, 56) := ⟨⟨by decide +kernel, by decide +kernel⟩, List.mem_of_getElem? (i := 833) (by decide +kernel), List.mem_of_getElem? (i := 1150) (by decide +kernel), List.mem_of_getElem? (i := 1151) (by decide +kernel)⟩
theorem lw_p61 : lw_okq (⟨"MatchForgeModel", "cell", "(II)I"⟩, 56) := ⟨⟨by decide +kernel, by decide +kernel⟩, List.mem_of_getElem? (i := 833) (by decide +kernel), List.mem_of_getElem? (i := 1154) (by decide +kernel), List.mem_of_getElem? (i := 1155) (by decide +kernel)⟩
theorem lw_p62 : lw_okq (⟨"MatchForgeModel", "isEither", "(II)Z"⟩, 56) := ⟨⟨by decide +kernel, by decide +kernel⟩, List.mem_of_getElem? (i := 833) (by decide +kernel), List.mem_of_getElem? (i := 1158) (by decide +kernel), List.mem_of_getElem? (i := 1159) (by decide +kernel)⟩
theorem lw_p63 : lw_okq (⟨"MatchForgeModel", "split", "(IIIII)V"⟩, 56) := ⟨⟨by decide +kernel, by decide +kernel⟩, List.mem_of_getElem? (i := 833) (by decide +kernel), List.mem_of_getElem? (i := 1162) (by decide +kernel), List.mem_of_getElem? (i := 1163) (by decide +kernel)⟩
def lw_privs_4 : List (MethodName × Nat) := [(⟨"MatchForgeModel", "isPattern", "(I)Z"⟩, 56), (⟨"MatchForgeModel", "hasName", "(II)Z"⟩, 56), (⟨"MatchForgeModel", "isMatch", "(I)Z"⟩, 56), (⟨"MatchForgeModel", "typeOfName", "(II)I"⟩, 56), (⟨"MatchForgeModel", "forget", "()V"⟩, 56), (⟨"MatchForgeModel", "look", "(I)V"⟩, 56), (⟨"MatchForgeModel", "goThrough", "(IZIII)V"⟩, 56), (⟨"MatchForgeModel", "newPlace", "(II)I"⟩, 56), (⟨"MatchForgeModel", "pushRow", "(II)I"⟩, 56), (⟨"MatchForgeModel", "patternOf", "(III)I"⟩, 56), (⟨"MatchForgeModel", "setCell", "(IIII)V"⟩, 56), (⟨"MatchForgeModel", "node", "(III)V"⟩, 56), (⟨"MatchForgeModel", "firstOpen", "(II)I"⟩, 56), (⟨"MatchForgeModel", "cell", "(II)I"⟩, 56), (⟨"MatchForgeModel", "isEither", "(II)Z"⟩, 56), (⟨"MatchForgeModel", "split", "(IIIII)V"⟩, 56)]
theorem lw_r4 : ∀ q ∈ lw_privs_4, lw_okq q := List.forall_mem_cons.mpr ⟨lw_p48, List.forall_mem_cons.mpr ⟨lw_p49, List.forall_mem_cons.mpr ⟨lw_p50, List.forall_mem_cons.mpr ⟨lw_p51, List.forall_mem_cons.mpr ⟨lw_p52, List.forall_mem_cons.mpr ⟨lw_p53, List.forall_mem_cons.mpr ⟨lw_p54, List.forall_mem_cons.mpr ⟨lw_p55, List.forall_mem_cons.mpr ⟨lw_p56, List.forall_mem_cons.mpr ⟨lw_p57, List.forall_mem_cons.mpr ⟨lw_p58, List.forall_mem_cons.mpr ⟨lw_p59, List.forall_mem_cons.mpr ⟨lw_p60, List.forall_mem_cons.mpr ⟨lw_p61, List.forall_mem_cons.mpr ⟨lw_p62, List.forall_mem_cons.mpr ⟨lw_p63, fun _ h => absurd h List.not_mem_nil⟩⟩⟩⟩⟩⟩⟩⟩⟩⟩⟩⟩⟩⟩⟩⟩
theorem lw_p64 : lw_okq (⟨"MatchForgeModel", "copyRow", "(III)V"⟩, 56) := ⟨⟨by decide +kernel, by decide +kernel⟩, List.mem_of_getElem? (i := 833) (by decide +kernel), List.mem_of_getElem? (i := 1166) (by decide +kernel), List.mem_of_getElem? (i := 1167) (by decide +kernel)⟩
theorem lw_p65 : lw_okq (⟨"MatchForgeModel", "failure", "()V"⟩, 56) := ⟨⟨by decide +kernel, by decide +kernel⟩, List.mem_of_getElem? (i := 833) (by decide +kernel), List.mem_of_getElem? (i := 1170) (by decide +kernel), List.mem_of_getElem? (i := 1171) (by decide +kernel)⟩
theorem lw_p66 : lw_okq (⟨"MatchForgeModel", "countNode", "(I)Z"⟩, 56) := ⟨⟨by decide +kernel, by decide +kernel⟩, List.mem_of_getElem? (i := 833) (by decide +kernel), List.mem_of_getElem? (i := 1174) (by decide +kernel), List.mem_of_getElem? (i := 1175) (by decide +kernel)⟩
theorem lw_p67 : lw_okq (⟨"MatchForgeModel", "tell", "(I)V"⟩, 56) := ⟨⟨by decide +kernel, by decide +kernel⟩, List.mem_of_getElem? (i := 833) (by decide +kernel), List.mem_of_getElem? (i := 1178) (by decide +kernel), List.mem_of_getElem? (i := 1179) (by decide +kernel)⟩
theorem lw_p68 : lw_okq (⟨"MatchForgeModel", "tellPlain", "(I)V"⟩, 56) := ⟨⟨by decide +kernel, by decide +kernel⟩, List.mem_of_getElem? (i := 833) (by decide +kernel), List.mem_of_getElem? (i := 1182) (by decide +kernel), List.mem_of_getElem? (i := 1183) (by decide +kernel)⟩
theorem lw_p69 : lw_okq (⟨"MatchForgeModel", "put", "(I)V"⟩, 56) := ⟨⟨by decide +kernel, by decide +kernel⟩, List.mem_of_getElem? (i := 833) (by decide +kernel), List.mem_of_getElem? (i := 1186) (by decide +kernel), List.mem_of_getElem? (i := 1187) (by decide +kernel)⟩
theorem lw_p70 : lw_okq (⟨"MatchForgeModel", "leaf", "(III)V"⟩, 56) := ⟨⟨by decide +kernel, by decide +kernel⟩, List.mem_of_getElem? (i := 833) (by decide +kernel), List.mem_of_getElem? (i := 1190) (by decide +kernel), List.mem_of_getElem? (i := 1191) (by decide +kernel)⟩
theorem lw_p71 : lw_okq (⟨"MatchForgeModel", "test", "(IIII)V"⟩, 56) := ⟨⟨by decide +kernel, by decide +kernel⟩, List.mem_of_getElem? (i := 833) (by decide +kernel), List.mem_of_getElem? (i := 1194) (by decide +kernel), List.mem_of_getElem? (i := 1195) (by decide +kernel)⟩
theorem lw_p72 : lw_okq (⟨"MatchForgeModel", "branch", "(IIIIZII)V"⟩, 56) := ⟨⟨by decide +kernel, by decide +kernel⟩, List.mem_of_getElem? (i := 833) (by decide +kernel), List.mem_of_getElem? (i := 1198) (by decide +kernel), List.mem_of_getElem? (i := 1199) (by decide +kernel)⟩
theorem lw_p73 : lw_okq (⟨"MatchForgeModel", "leastOther", "(III)I"⟩, 56) := ⟨⟨by decide +kernel, by decide +kernel⟩, List.mem_of_getElem? (i := 833) (by decide +kernel), List.mem_of_getElem? (i := 1202) (by decide +kernel), List.mem_of_getElem? (i := 1203) (by decide +kernel)⟩
theorem lw_p74 : lw_okq (⟨"MatchForgeModel", "takes", "(IIIII)Z"⟩, 56) := ⟨⟨by decide +kernel, by decide +kernel⟩, List.mem_of_getElem? (i := 833) (by decide +kernel), List.mem_of_getElem? (i := 1206) (by decide +kernel), List.mem_of_getElem? (i := 1207) (by decide +kernel)⟩
theorem lw_p75 : lw_okq (⟨"MatchForgeModel", "doesMatch", "(II)Z"⟩, 56) := ⟨⟨by decide +kernel, by decide +kernel⟩, List.mem_of_getElem? (i := 833) (by decide +kernel), List.mem_of_getElem? (i := 1210) (by decide +kernel), List.mem_of_getElem? (i := 1211) (by decide +kernel)⟩
def lw_privs_5 : List (MethodName × Nat) := [(⟨"MatchForgeModel", "copyRow", "(III)V"⟩, 56), (⟨"MatchForgeModel", "failure", "()V"⟩, 56), (⟨"MatchForgeModel", "countNode", "(I)Z"⟩, 56), (⟨"MatchForgeModel", "tell", "(I)V"⟩, 56), (⟨"MatchForgeModel", "tellPlain", "(I)V"⟩, 56), (⟨"MatchForgeModel", "put", "(I)V"⟩, 56), (⟨"MatchForgeModel", "leaf", "(III)V"⟩, 56), (⟨"MatchForgeModel", "test", "(IIII)V"⟩, 56), (⟨"MatchForgeModel", "branch", "(IIIIZII)V"⟩, 56), (⟨"MatchForgeModel", "leastOther", "(III)I"⟩, 56), (⟨"MatchForgeModel", "takes", "(IIIII)Z"⟩, 56), (⟨"MatchForgeModel", "doesMatch", "(II)Z"⟩, 56)]
theorem lw_r5 : ∀ q ∈ lw_privs_5, lw_okq q := List.forall_mem_cons.mpr ⟨lw_p64, List.forall_mem_cons.mpr ⟨lw_p65, List.forall_mem_cons.mpr ⟨lw_p66, List.forall_mem_cons.mpr ⟨lw_p67, List.forall_mem_cons.mpr ⟨lw_p68, List.forall_mem_cons.mpr ⟨lw_p69, List.forall_mem_cons.mpr ⟨lw_p70, List.forall_mem_cons.mpr ⟨lw_p71, List.forall_mem_cons.mpr ⟨lw_p72, List.forall_mem_cons.mpr ⟨lw_p73, List.forall_mem_cons.mpr ⟨lw_p74, List.forall_mem_cons.mpr ⟨lw_p75, fun _ h => absurd h List.not_mem_nil⟩⟩⟩⟩⟩⟩⟩⟩⟩⟩⟩⟩
def lw_privs : List (MethodName × Nat) := lw_privs_1 ++ (lw_privs_2 ++ (lw_privs_3 ++ (lw_privs_4 ++ (lw_privs_5))))
def lw_tbl : List Cond := k2_sels lw_privs ++ tables_1
theorem lw_privs_ok : ∀ q ∈ lw_privs, lw_okq q := by
  show ∀ q ∈ lw_privs_1 ++ (lw_privs_2 ++ (lw_privs_3 ++ (lw_privs_4 ++ (lw_privs_5)))), lw_okq q
  exact List.forall_mem_append.mpr ⟨lw_r1, List.forall_mem_append.mpr ⟨lw_r2, List.forall_mem_append.mpr ⟨lw_r3, List.forall_mem_append.mpr ⟨lw_r4, lw_r5⟩⟩⟩⟩
end
section
def RX0 : String := "MatchForge$Builder"
def TX0 : u_T := fun k => match k with
  | 0 => ("MatchForge$Builder", "types", "LMatchForge$Types;", true)
  | 1 => ("MatchForge$Builder", "patterns", "LMatchForge$Terms;", true)
  | 2 => ("MatchForge$Builder", "states", "LMatchForge$Cells;", true)
  | 3 => ("MatchForge$Builder", "lists", "LMatchForge$Cells;", true)
  | 4 => ("MatchForge$Builder", "pending", "[I", true)
  | 5 => ("MatchForge$Builder", "waiting", "I", false)
  | 6 => ("MatchForge$Builder", "nodeRows", "[I", true)
  | 7 => ("MatchForge$Builder", "nodeRowCount", "[I", true)
  | 8 => ("MatchForge$Builder", "rows", "[I", true)
  | 9 => ("MatchForge$Builder", "rowCount", "I", false)
  | 10 => ("MatchForge$Builder", "labels", "[I", true)
  | 11 => ("MatchForge$Builder", "labelCount", "I", false)
  | 12 => ("MatchForge$Builder", "parts", "[I", true)
  | 13 => ("MatchForge$Builder", "partCount", "I", false)
  | 14 => ("MatchForge$Builder", "before", "[I", true)
  | 15 => ("MatchForge$Builder", "names", "I", false)
  | 16 => ("MatchForge$Builder", "match", "LMatchForge$Match;", false)
  | _ => ("MatchForge$Builder", "tree", "LMatchForge$Tree;", false)
def tyX0 : Nat → FieldType := fun k => match k with
  | 0 => .object "MatchForge$Types"
  | 1 => .object "MatchForge$Terms"
  | 2 => .object "MatchForge$Cells"
  | 3 => .object "MatchForge$Cells"
  | 4 => .array .int
  | 5 => .int
  | 6 => .array .int
  | 7 => .array .int
  | 8 => .array .int
  | 9 => .int
  | 10 => .array .int
  | 11 => .int
  | 12 => .array .int
  | 13 => .int
  | 14 => .array .int
  | 15 => .int
  | 16 => .object "MatchForge$Match"
  | _ => .object "MatchForge$Tree"
theorem nmX0 : ∀ a, a < 18 → ∀ b, b < 18 → a ≠ b → (TX0 a).2.1 ≠ (TX0 b).2.1 := by decide +kernel
theorem tyX0_ok : ∀ k, k < 18 → parseFieldDescriptor (TX0 k).2.2.1 = some (tyX0 k) := by decide +kernel
abbrev cX0_init : ByteArray := prog_2_method_1_code
def yX0_init : MethodName := ⟨RX0, "<init>", "(LMatchForge$Types;LMatchForge$Terms;)V"⟩
abbrev cX0_stands : ByteArray := prog_2_method_2_code
def yX0_stands : MethodName := ⟨RX0, "stands", "(LMatchForge$Match;)Z"⟩
abbrev cX0_begin : ByteArray := prog_2_method_3_code
def yX0_begin : MethodName := ⟨RX0, "begin", "(LMatchForge$Match;)V"⟩
abbrev cX0_keep : ByteArray := prog_2_method_4_code
def yX0_keep : MethodName := ⟨RX0, "keep", "(II)V"⟩
abbrev cX0_putOff : ByteArray := prog_2_method_5_code
def yX0_putOff : MethodName := ⟨RX0, "putOff", "(II)V"⟩
abbrev cX0_loadRows : ByteArray := prog_2_method_6_code
def yX0_loadRows : MethodName := ⟨RX0, "loadRows", "(I)V"⟩
abbrev cX0_placeThatCounts : ByteArray := prog_2_method_7_code
def yX0_placeThatCounts : MethodName := ⟨RX0, "placeThatCounts", "()I"⟩
abbrev cX0_splitFirst : ByteArray := prog_2_method_8_code
def yX0_splitFirst : MethodName := ⟨RX0, "splitFirst", "()V"⟩
abbrev cX0_splitAll : ByteArray := prog_2_method_9_code
def yX0_splitAll : MethodName := ⟨RX0, "splitAll", "(I)V"⟩
abbrev cX0_isEither : ByteArray := prog_2_method_10_code
def yX0_isEither : MethodName := ⟨RX0, "isEither", "(II)Z"⟩
abbrev cX0_split : ByteArray := prog_2_method_11_code
def yX0_split : MethodName := ⟨RX0, "split", "(II)V"⟩
abbrev cX0_patternAt : ByteArray := prog_2_method_12_code
def yX0_patternAt : MethodName := ⟨RX0, "patternAt", "(II)I"⟩
abbrev cX0_putParts : ByteArray := prog_2_method_13_code
def yX0_putParts : MethodName := ⟨RX0, "putParts", "(III)I"⟩
abbrev cX0_stripNames : ByteArray := prog_2_method_14_code
def yX0_stripNames : MethodName := ⟨RX0, "stripNames", "(II)I"⟩
abbrev cX0_endNode : ByteArray := prog_2_method_15_code
def yX0_endNode : MethodName := ⟨RX0, "endNode", "(I)V"⟩
abbrev cX0_tellNames : ByteArray := prog_2_method_16_code
def yX0_tellNames : MethodName := ⟨RX0, "tellNames", "(II)V"⟩
abbrev cX0_growTest : ByteArray := prog_2_method_17_code
def yX0_growTest : MethodName := ⟨RX0, "growTest", "(II)V"⟩
abbrev cX0_gatherLabels : ByteArray := prog_2_method_18_code
def yX0_gatherLabels : MethodName := ⟨RX0, "gatherLabels", "(I)V"⟩
abbrev cX0_gatherLabel : ByteArray := prog_2_method_19_code
def yX0_gatherLabel : MethodName := ⟨RX0, "gatherLabel", "(I)V"⟩
abbrev cX0_leastAbsent : ByteArray := prog_2_method_20_code
def yX0_leastAbsent : MethodName := ⟨RX0, "leastAbsent", "()I"⟩
abbrev cX0_growBranch : ByteArray := prog_2_method_21_code
def yX0_growBranch : MethodName := ⟨RX0, "growBranch", "(IIIZ)V"⟩
def RX1 : String := "MatchForge$Cells"
def TX1 : u_T := fun k => match k with
  | 0 => ("MatchForge$Cells", "size", "I", false)
  | 1 => ("MatchForge$Cells", "first", "[I", false)
  | 2 => ("MatchForge$Cells", "second", "[I", false)
  | _ => ("MatchForge$Cells", "third", "[I", false)
def tyX1 : Nat → FieldType := fun k => match k with
  | 0 => .int
  | 1 => .array .int
  | 2 => .array .int
  | _ => .array .int
theorem nmX1 : ∀ a, a < 4 → ∀ b, b < 4 → a ≠ b → (TX1 a).2.1 ≠ (TX1 b).2.1 := by decide +kernel
theorem tyX1_ok : ∀ k, k < 4 → parseFieldDescriptor (TX1 k).2.2.1 = some (tyX1 k) := by decide +kernel
abbrev cX1_init : ByteArray := prog_3_method_1_code
def yX1_init : MethodName := ⟨RX1, "<init>", "()V"⟩
abbrev cX1_add : ByteArray := prog_3_method_2_code
def yX1_add : MethodName := ⟨RX1, "add", "(III)I"⟩
def RX2 : String := "MatchForge$Judge"
def TX2 : u_T := fun k => match k with
  | 0 => ("MatchForge$Judge", "patterns", "LMatchForge$Terms;", true)
  | 1 => ("MatchForge$Judge", "values", "LMatchForge$Terms;", true)
  | _ => ("MatchForge$Judge", "standsFor", "[I", true)
def tyX2 : Nat → FieldType := fun k => match k with
  | 0 => .object "MatchForge$Terms"
  | 1 => .object "MatchForge$Terms"
  | _ => .array .int
theorem nmX2 : ∀ a, a < 3 → ∀ b, b < 3 → a ≠ b → (TX2 a).2.1 ≠ (TX2 b).2.1 := by decide +kernel
theorem tyX2_ok : ∀ k, k < 3 → parseFieldDescriptor (TX2 k).2.2.1 = some (tyX2 k) := by decide +kernel
abbrev cX2_init : ByteArray := prog_4_method_1_code
def yX2_init : MethodName := ⟨RX2, "<init>", "(LMatchForge$Terms;LMatchForge$Terms;)V"⟩
abbrev cX2_rowFor : ByteArray := prog_4_method_2_code
def yX2_rowFor : MethodName := ⟨RX2, "rowFor", "(LMatchForge$Match;[I)I"⟩
abbrev cX2_allFit : ByteArray := prog_4_method_3_code
def yX2_allFit : MethodName := ⟨RX2, "allFit", "(LMatchForge$Match;I[I)Z"⟩
abbrev cX2_holds : ByteArray := prog_4_method_4_code
def yX2_holds : MethodName := ⟨RX2, "holds", "(LMatchForge$Match;I)Z"⟩
abbrev cX2_fits : ByteArray := prog_4_method_5_code
def yX2_fits : MethodName := ⟨RX2, "fits", "(III)Z"⟩
abbrev cX2_partsFit : ByteArray := prog_4_method_6_code
def yX2_partsFit : MethodName := ⟨RX2, "partsFit", "(III)Z"⟩
def RX3 : String := "MatchForge$Match"
def TX3 : u_T := fun k => match k with
  | 0 => ("MatchForge$Match", "places", "I", true)
  | 1 => ("MatchForge$Match", "types", "[I", true)
  | 2 => ("MatchForge$Match", "rows", "I", false)
  | 3 => ("MatchForge$Match", "patterns", "[I", true)
  | 4 => ("MatchForge$Match", "less", "[I", true)
  | 5 => ("MatchForge$Match", "more", "[I", true)
  | 6 => ("MatchForge$Match", "tree", "LMatchForge$Tree;", true)
  | _ => ("MatchForge$Match", "stale", "Z", false)
def tyX3 : Nat → FieldType := fun k => match k with
  | 0 => .int
  | 1 => .array .int
  | 2 => .int
  | 3 => .array .int
  | 4 => .array .int
  | 5 => .array .int
  | 6 => .object "MatchForge$Tree"
  | _ => .boolean
theorem nmX3 : ∀ a, a < 8 → ∀ b, b < 8 → a ≠ b → (TX3 a).2.1 ≠ (TX3 b).2.1 := by decide +kernel
theorem tyX3_ok : ∀ k, k < 8 → parseFieldDescriptor (TX3 k).2.2.1 = some (tyX3 k) := by decide +kernel
abbrev cX3_init : ByteArray := prog_5_method_1_code
def yX3_init : MethodName := ⟨RX3, "<init>", "(I[I)V"⟩
abbrev cX3_addRow : ByteArray := prog_5_method_2_code
def yX3_addRow : MethodName := ⟨RX3, "addRow", "([III)I"⟩
abbrev cX3_patternOf : ByteArray := prog_5_method_3_code
def yX3_patternOf : MethodName := ⟨RX3, "patternOf", "(II)I"⟩
abbrev cX3_isGuarded : ByteArray := prog_5_method_4_code
def yX3_isGuarded : MethodName := ⟨RX3, "isGuarded", "(I)Z"⟩
abbrev cX3_isOfOneType : ByteArray := prog_5_method_5_code
def yX3_isOfOneType : MethodName := ⟨RX3, "isOfOneType", "()Z"⟩
def RX4 : String := "MatchForge$Teller"
def TX4 : u_T := fun k => match k with
  | 0 => ("MatchForge$Teller", "types", "LMatchForge$Types;", true)
  | 1 => ("MatchForge$Teller", "told", "[I", false)
  | 2 => ("MatchForge$Teller", "draft", "[I", false)
  | 3 => ("MatchForge$Teller", "size", "I", false)
  | 4 => ("MatchForge$Teller", "branchAt", "[I", true)
  | _ => ("MatchForge$Teller", "open", "[I", true)
def tyX4 : Nat → FieldType := fun k => match k with
  | 0 => .object "MatchForge$Types"
  | 1 => .array .int
  | 2 => .array .int
  | 3 => .int
  | 4 => .array .int
  | _ => .array .int
theorem nmX4 : ∀ a, a < 6 → ∀ b, b < 6 → a ≠ b → (TX4 a).2.1 ≠ (TX4 b).2.1 := by decide +kernel
theorem tyX4_ok : ∀ k, k < 6 → parseFieldDescriptor (TX4 k).2.2.1 = some (tyX4 k) := by decide +kernel
abbrev cX4_init : ByteArray := prog_6_method_1_code
def yX4_init : MethodName := ⟨RX4, "<init>", "(LMatchForge$Types;)V"⟩
abbrev cX4_tell : ByteArray := prog_6_method_2_code
def yX4_tell : MethodName := ⟨RX4, "tell", "(LMatchForge$Match;)I"⟩
abbrev cX4_markWay : ByteArray := prog_6_method_3_code
def yX4_markWay : MethodName := ⟨RX4, "markWay", "(LMatchForge$Tree;)V"⟩
abbrev cX4_spell : ByteArray := prog_6_method_4_code
def yX4_spell : MethodName := ⟨RX4, "spell", "(LMatchForge$Match;)I"⟩
def RX5 : String := "MatchForge$Terms"
def TX5 : u_T := fun k => match k with
  | 0 => ("MatchForge$Terms", "largest", "I", true)
  | 1 => ("MatchForge$Terms", "size", "I", false)
  | 2 => ("MatchForge$Terms", "kind", "[I", true)
  | 3 => ("MatchForge$Terms", "typeOf", "[I", true)
  | 4 => ("MatchForge$Terms", "label", "[I", true)
  | 5 => ("MatchForge$Terms", "weight", "[I", true)
  | 6 => ("MatchForge$Terms", "partCount", "[I", true)
  | 7 => ("MatchForge$Terms", "parts", "[I", true)
  | 8 => ("MatchForge$Terms", "names", "[I", true)
  | 9 => ("MatchForge$Terms", "numberNames", "[I", true)
  | _ => ("MatchForge$Terms", "forks", "[Z", true)
def tyX5 : Nat → FieldType := fun k => match k with
  | 0 => .int
  | 1 => .int
  | 2 => .array .int
  | 3 => .array .int
  | 4 => .array .int
  | 5 => .array .int
  | 6 => .array .int
  | 7 => .array .int
  | 8 => .array .int
  | 9 => .array .int
  | _ => .array .boolean
theorem nmX5 : ∀ a, a < 11 → ∀ b, b < 11 → a ≠ b → (TX5 a).2.1 ≠ (TX5 b).2.1 := by decide +kernel
theorem tyX5_ok : ∀ k, k < 11 → parseFieldDescriptor (TX5 k).2.2.1 = some (tyX5 k) := by decide +kernel
abbrev cX5_init : ByteArray := prog_7_method_1_code
def yX5_init : MethodName := ⟨RX5, "<init>", "(I)V"⟩
abbrev cX5_has : ByteArray := prog_7_method_2_code
def yX5_has : MethodName := ⟨RX5, "has", "(I)Z"⟩
abbrev cX5_isOf : ByteArray := prog_7_method_3_code
def yX5_isOf : MethodName := ⟨RX5, "isOf", "(II)Z"⟩
abbrev cX5_areOf : ByteArray := prog_7_method_4_code
def yX5_areOf : MethodName := ⟨RX5, "areOf", "([I[II)Z"⟩
abbrev cX5_areAlike : ByteArray := prog_7_method_5_code
def yX5_areAlike : MethodName := ⟨RX5, "areAlike", "(II)Z"⟩
abbrev cX5_haveNamesApart : ByteArray := prog_7_method_6_code
def yX5_haveNamesApart : MethodName := ⟨RX5, "haveNamesApart", "([II)Z"⟩
abbrev cX5_partOf : ByteArray := prog_7_method_7_code
def yX5_partOf : MethodName := ⟨RX5, "partOf", "(II)I"⟩
abbrev cX5_add : ByteArray := prog_7_method_8_code
def yX5_add : MethodName := ⟨RX5, "add", "(III[II)I"⟩
abbrev cX5_join : ByteArray := prog_7_method_9_code
def yX5_join : MethodName := ⟨RX5, "join", "(II)V"⟩
def RX6 : String := "MatchForge$Tree"
def TX6 : u_T := fun k => match k with
  | 0 => ("MatchForge$Tree", "tooLarge", "Z", false)
  | 1 => ("MatchForge$Tree", "size", "I", false)
  | 2 => ("MatchForge$Tree", "needed", "I", false)
  | 3 => ("MatchForge$Tree", "firstFailure", "I", false)
  | 4 => ("MatchForge$Tree", "placeCount", "I", false)
  | 5 => ("MatchForge$Tree", "tally", "[I", true)
  | 6 => ("MatchForge$Tree", "placeType", "[I", true)
  | 7 => ("MatchForge$Tree", "kind", "[I", true)
  | 8 => ("MatchForge$Tree", "row", "[I", true)
  | 9 => ("MatchForge$Tree", "place", "[I", true)
  | 10 => ("MatchForge$Tree", "parent", "[I", true)
  | 11 => ("MatchForge$Tree", "firstBranch", "[I", true)
  | 12 => ("MatchForge$Tree", "branches", "[I", true)
  | 13 => ("MatchForge$Tree", "label", "[I", true)
  | 14 => ("MatchForge$Tree", "others", "[Z", true)
  | 15 => ("MatchForge$Tree", "firstPlace", "[I", true)
  | _ => ("MatchForge$Tree", "nameAt", "[I", true)
def tyX6 : Nat → FieldType := fun k => match k with
  | 0 => .boolean
  | 1 => .int
  | 2 => .int
  | 3 => .int
  | 4 => .int
  | 5 => .array .int
  | 6 => .array .int
  | 7 => .array .int
  | 8 => .array .int
  | 9 => .array .int
  | 10 => .array .int
  | 11 => .array .int
  | 12 => .array .int
  | 13 => .array .int
  | 14 => .array .boolean
  | 15 => .array .int
  | _ => .array .int
theorem nmX6 : ∀ a, a < 17 → ∀ b, b < 17 → a ≠ b → (TX6 a).2.1 ≠ (TX6 b).2.1 := by decide +kernel
theorem tyX6_ok : ∀ k, k < 17 → parseFieldDescriptor (TX6 k).2.2.1 = some (tyX6 k) := by decide +kernel
abbrev cX6_init : ByteArray := prog_8_method_1_code
def yX6_init : MethodName := ⟨RX6, "<init>", "()V"⟩
abbrev cX6_clear : ByteArray := prog_8_method_2_code
def yX6_clear : MethodName := ⟨RX6, "clear", "()V"⟩
abbrev cX6_become : ByteArray := prog_8_method_3_code
def yX6_become : MethodName := ⟨RX6, "become", "(II)V"⟩
abbrev cX6_addPlace : ByteArray := prog_8_method_4_code
def yX6_addPlace : MethodName := ⟨RX6, "addPlace", "(I)V"⟩
abbrev cX6_addBranches : ByteArray := prog_8_method_5_code
def yX6_addBranches : MethodName := ⟨RX6, "addBranches", "(II)I"⟩
abbrev cX6_placeOfName : ByteArray := prog_8_method_6_code
def yX6_placeOfName : MethodName := ⟨RX6, "placeOfName", "(II)I"⟩
def RX7 : String := "MatchForge$Types"
def TX7 : u_T := fun k => match k with
  | 0 => ("MatchForge$Types", "size", "I", false)
  | 1 => ("MatchForge$Types", "allMakers", "I", false)
  | 2 => ("MatchForge$Types", "makers", "[I", true)
  | 3 => ("MatchForge$Types", "partCount", "[I", true)
  | 4 => ("MatchForge$Types", "partType", "[I", true)
  | 5 => ("MatchForge$Types", "plainSize", "[I", true)
  | _ => ("MatchForge$Types", "plainMaker", "[I", true)
def tyX7 : Nat → FieldType := fun k => match k with
  | 0 => .int
  | 1 => .int
  | 2 => .array .int
  | 3 => .array .int
  | 4 => .array .int
  | 5 => .array .int
  | _ => .array .int
theorem nmX7 : ∀ a, a < 7 → ∀ b, b < 7 → a ≠ b → (TX7 a).2.1 ≠ (TX7 b).2.1 := by decide +kernel
theorem tyX7_ok : ∀ k, k < 7 → parseFieldDescriptor (TX7 k).2.2.1 = some (tyX7 k) := by decide +kernel
abbrev cX7_init : ByteArray := prog_9_method_1_code
def yX7_init : MethodName := ⟨RX7, "<init>", "()V"⟩
abbrev cX7_isType : ByteArray := prog_9_method_2_code
def yX7_isType : MethodName := ⟨RX7, "isType", "(I)Z"⟩
abbrev cX7_isMaker : ByteArray := prog_9_method_3_code
def yX7_isMaker : MethodName := ⟨RX7, "isMaker", "(II)Z"⟩
abbrev cX7_partsOf : ByteArray := prog_9_method_4_code
def yX7_partsOf : MethodName := ⟨RX7, "partsOf", "(II)I"⟩
abbrev cX7_partTypeOf : ByteArray := prog_9_method_5_code
def yX7_partTypeOf : MethodName := ⟨RX7, "partTypeOf", "(III)I"⟩
abbrev cX7_areTypes : ByteArray := prog_9_method_6_code
def yX7_areTypes : MethodName := ⟨RX7, "areTypes", "([II)Z"⟩
abbrev cX7_allHaveValues : ByteArray := prog_9_method_7_code
def yX7_allHaveValues : MethodName := ⟨RX7, "allHaveValues", "()Z"⟩
abbrev cX7_addType : ByteArray := prog_9_method_8_code
def yX7_addType : MethodName := ⟨RX7, "addType", "()I"⟩
abbrev cX7_addMaker : ByteArray := prog_9_method_9_code
def yX7_addMaker : MethodName := ⟨RX7, "addMaker", "(II[I)I"⟩
abbrev cX7_settlePlain : ByteArray := prog_9_method_10_code
def yX7_settlePlain : MethodName := ⟨RX7, "settlePlain", "()V"⟩
abbrev cX7_settlePlainOf : ByteArray := prog_9_method_11_code
def yX7_settlePlainOf : MethodName := ⟨RX7, "settlePlainOf", "(I)V"⟩
abbrev cX7_smallestBy : ByteArray := prog_9_method_12_code
def yX7_smallestBy : MethodName := ⟨RX7, "smallestBy", "(II)I"⟩
def RX8 : String := "MatchForge$Walk"
def TX8 : u_T := fun k => match k with
  | 0 => ("MatchForge$Walk", "values", "LMatchForge$Terms;", true)
  | 1 => ("MatchForge$Walk", "standsFor", "[I", true)
  | 2 => ("MatchForge$Walk", "tests", "I", false)
  | 3 => ("MatchForge$Walk", "questions", "I", false)
  | _ => ("MatchForge$Walk", "at", "[I", true)
def tyX8 : Nat → FieldType := fun k => match k with
  | 0 => .object "MatchForge$Terms"
  | 1 => .array .int
  | 2 => .int
  | 3 => .int
  | _ => .array .int
theorem nmX8 : ∀ a, a < 5 → ∀ b, b < 5 → a ≠ b → (TX8 a).2.1 ≠ (TX8 b).2.1 := by decide +kernel
theorem tyX8_ok : ∀ k, k < 5 → parseFieldDescriptor (TX8 k).2.2.1 = some (tyX8 k) := by decide +kernel
abbrev cX8_init : ByteArray := prog_10_method_1_code
def yX8_init : MethodName := ⟨RX8, "<init>", "(LMatchForge$Terms;)V"⟩
abbrev cX8_clear : ByteArray := prog_10_method_2_code
def yX8_clear : MethodName := ⟨RX8, "clear", "()V"⟩
abbrev cX8_follow : ByteArray := prog_10_method_3_code
def yX8_follow : MethodName := ⟨RX8, "follow", "(LMatchForge$Match;[I)I"⟩
abbrev cX8_branchOf : ByteArray := prog_10_method_4_code
def yX8_branchOf : MethodName := ⟨RX8, "branchOf", "(LMatchForge$Tree;I)I"⟩
abbrev cX8_openParts : ByteArray := prog_10_method_5_code
def yX8_openParts : MethodName := ⟨RX8, "openParts", "(II)V"⟩
abbrev cX8_asks : ByteArray := prog_10_method_6_code
def yX8_asks : MethodName := ⟨RX8, "asks", "(LMatchForge$Match;I)Z"⟩
abbrev cX8_bind : ByteArray := prog_10_method_7_code
def yX8_bind : MethodName := ⟨RX8, "bind", "(LMatchForge$Tree;I)V"⟩
def RX9 : String := "MatchForge"
def TX9 : u_T := fun k => match k with
  | 0 => ("MatchForge", "types", "LMatchForge$Types;", true)
  | 1 => ("MatchForge", "values", "LMatchForge$Terms;", true)
  | 2 => ("MatchForge", "patterns", "LMatchForge$Terms;", true)
  | 3 => ("MatchForge", "matches", "[LMatchForge$Match;", true)
  | 4 => ("MatchForge", "matchCount", "I", false)
  | 5 => ("MatchForge", "builder", "LMatchForge$Builder;", true)
  | 6 => ("MatchForge", "latest", "LMatchForge$Walk;", true)
  | 7 => ("MatchForge", "trial", "LMatchForge$Walk;", true)
  | 8 => ("MatchForge", "judge", "LMatchForge$Judge;", true)
  | 9 => ("MatchForge", "teller", "LMatchForge$Teller;", true)
  | _ => ("MatchForge", "given", "[I", true)
def tyX9 : Nat → FieldType := fun k => match k with
  | 0 => .object "MatchForge$Types"
  | 1 => .object "MatchForge$Terms"
  | 2 => .object "MatchForge$Terms"
  | 3 => .array (.object "MatchForge$Match")
  | 4 => .int
  | 5 => .object "MatchForge$Builder"
  | 6 => .object "MatchForge$Walk"
  | 7 => .object "MatchForge$Walk"
  | 8 => .object "MatchForge$Judge"
  | 9 => .object "MatchForge$Teller"
  | _ => .array .int
theorem nmX9 : ∀ a, a < 11 → ∀ b, b < 11 → a ≠ b → (TX9 a).2.1 ≠ (TX9 b).2.1 := by decide +kernel
theorem tyX9_ok : ∀ k, k < 11 → parseFieldDescriptor (TX9 k).2.2.1 = some (tyX9 k) := by decide +kernel
abbrev cX9_init : ByteArray := prog_1_method_1_code
def yX9_init : MethodName := ⟨RX9, "<init>", "()V"⟩
abbrev cX9_type : ByteArray := prog_1_method_2_code
def yX9_type : MethodName := ⟨RX9, "type", "()I"⟩
abbrev cX9_maker : ByteArray := prog_1_method_3_code
def yX9_maker : MethodName := ⟨RX9, "maker", "(IIIII)I"⟩
abbrev cX9_number : ByteArray := prog_1_method_4_code
def yX9_number : MethodName := ⟨RX9, "number", "(I)I"⟩
abbrev cX9_make : ByteArray := prog_1_method_5_code
def yX9_make : MethodName := ⟨RX9, "make", "(IIIII)I"⟩
abbrev cX9_any : ByteArray := prog_1_method_6_code
def yX9_any : MethodName := ⟨RX9, "any", "(II)I"⟩
abbrev cX9_also : ByteArray := prog_1_method_7_code
def yX9_also : MethodName := ⟨RX9, "also", "(II)I"⟩
abbrev cX9_exactly : ByteArray := prog_1_method_8_code
def yX9_exactly : MethodName := ⟨RX9, "exactly", "(I)I"⟩
abbrev cX9_made : ByteArray := prog_1_method_9_code
def yX9_made : MethodName := ⟨RX9, "made", "(IIIII)I"⟩
abbrev cX9_either : ByteArray := prog_1_method_10_code
def yX9_either : MethodName := ⟨RX9, "either", "(II)I"⟩
abbrev cX9_match : ByteArray := prog_1_method_11_code
def yX9_match : MethodName := ⟨RX9, "match", "(IIII)I"⟩
abbrev cX9_row : ByteArray := prog_1_method_12_code
def yX9_row : MethodName := ⟨RX9, "row", "(IIIIII)I"⟩
abbrev cX9_run : ByteArray := prog_1_method_13_code
def yX9_run : MethodName := ⟨RX9, "run", "(IIII)I"⟩
abbrev cX9_took : ByteArray := prog_1_method_14_code
def yX9_took : MethodName := ⟨RX9, "took", "(I)I"⟩
abbrev cX9_tree : ByteArray := prog_1_method_15_code
def yX9_tree : MethodName := ⟨RX9, "tree", "(II)I"⟩
abbrev cX9_missing : ByteArray := prog_1_method_16_code
def yX9_missing : MethodName := ⟨RX9, "missing", "(I)I"⟩
abbrev cX9_part : ByteArray := prog_1_method_17_code
def yX9_part : MethodName := ⟨RX9, "part", "(I)I"⟩
abbrev cX9_plain : ByteArray := prog_1_method_18_code
def yX9_plain : MethodName := ⟨RX9, "plain", "(I)I"⟩
abbrev cX9_count : ByteArray := prog_1_method_19_code
def yX9_count : MethodName := ⟨RX9, "count", "(I)I"⟩
abbrev cX9_check : ByteArray := prog_1_method_20_code
def yX9_check : MethodName := ⟨RX9, "check", "()I"⟩
abbrev cX9_give : ByteArray := prog_1_method_21_code
def yX9_give : MethodName := ⟨RX9, "give", "(III)V"⟩
abbrev cX9_addMade : ByteArray := prog_1_method_22_code
def yX9_addMade : MethodName := ⟨RX9, "addMade", "(LMatchForge$Terms;II)I"⟩
abbrev cX9_isMatch : ByteArray := prog_1_method_23_code
def yX9_isMatch : MethodName := ⟨RX9, "isMatch", "(I)Z"⟩
abbrev cX9_isName : ByteArray := prog_1_method_24_code
def yX9_isName : MethodName := ⟨RX9, "isName", "(I)Z"⟩
abbrev cX9_inBits : ByteArray := prog_1_method_25_code
def yX9_inBits : MethodName := ⟨RX9, "inBits", "(II)Z"⟩
abbrev cX9_isGuard : ByteArray := prog_1_method_26_code
def yX9_isGuard : MethodName := ⟨RX9, "isGuard", "(III)Z"⟩
abbrev cX9_allRows : ByteArray := prog_1_method_27_code
def yX9_allRows : MethodName := ⟨RX9, "allRows", "()I"⟩
abbrev cX9_agrees : ByteArray := prog_1_method_28_code
def yX9_agrees : MethodName := ⟨RX9, "agrees", "(LMatchForge$Match;)Z"⟩
def RX10 : String := "MatchForgeModel"
def TX10 : u_T := fun k => match k with
  | 0 => ("MatchForgeModel", "thrown", "I", false)
  | 1 => ("MatchForgeModel", "types", "I", false)
  | 2 => ("MatchForgeModel", "makers", "[I", true)
  | 3 => ("MatchForgeModel", "counts", "[I", true)
  | 4 => ("MatchForgeModel", "parts", "[I", true)
  | 5 => ("MatchForgeModel", "plains", "[I", true)
  | 6 => ("MatchForgeModel", "valueTypes", "[I", true)
  | 7 => ("MatchForgeModel", "valueHeads", "[I", true)
  | 8 => ("MatchForgeModel", "valueParts", "[I", true)
  | 9 => ("MatchForgeModel", "valueSizes", "[I", true)
  | 10 => ("MatchForgeModel", "values", "I", false)
  | 11 => ("MatchForgeModel", "kinds", "[I", true)
  | 12 => ("MatchForgeModel", "patternTypes", "[I", true)
  | 13 => ("MatchForgeModel", "heads", "[I", true)
  | 14 => ("MatchForgeModel", "patternParts", "[I", true)
  | 15 => ("MatchForgeModel", "sizes", "[I", true)
  | 16 => ("MatchForgeModel", "names", "[I", true)
  | 17 => ("MatchForgeModel", "eithers", "[Z", true)
  | 18 => ("MatchForgeModel", "patterns", "I", false)
  | 19 => ("MatchForgeModel", "widths", "[I", true)
  | 20 => ("MatchForgeModel", "matchTypes", "[I", true)
  | 21 => ("MatchForgeModel", "rows", "[I", true)
  | 22 => ("MatchForgeModel", "rowPatterns", "[I", true)
  | 23 => ("MatchForgeModel", "lesser", "[I", true)
  | 24 => ("MatchForgeModel", "greater", "[I", true)
  | 25 => ("MatchForgeModel", "matches", "I", false)
  | 26 => ("MatchForgeModel", "took", "[I", true)
  | 27 => ("MatchForgeModel", "stands", "[I", true)
  | 28 => ("MatchForgeModel", "rowNumbers", "[I", true)
  | 29 => ("MatchForgeModel", "cellsFrom", "[I", true)
  | 30 => ("MatchForgeModel", "placesOfNames", "[I", true)
  | 31 => ("MatchForgeModel", "high", "I", false)
  | 32 => ("MatchForgeModel", "cells", "[S", true)
  | 33 => ("MatchForgeModel", "cellHigh", "I", false)
  | 34 => ("MatchForgeModel", "lists", "[I", true)
  | 35 => ("MatchForgeModel", "listHigh", "I", false)
  | 36 => ("MatchForgeModel", "placeTypes", "[I", true)
  | 37 => ("MatchForgeModel", "isTested", "[Z", true)
  | 38 => ("MatchForgeModel", "tested", "[I", true)
  | 39 => ("MatchForgeModel", "wasOthers", "[Z", true)
  | 40 => ("MatchForgeModel", "firstPart", "[I", true)
  | 41 => ("MatchForgeModel", "placeValues", "[I", true)
  | 42 => ("MatchForgeModel", "places", "I", false)
  | 43 => ("MatchForgeModel", "match", "I", false)
  | 44 => ("MatchForgeModel", "follows", "Z", false)
  | 45 => ("MatchForgeModel", "tooLarge", "Z", false)
  | 46 => ("MatchForgeModel", "nodes", "I", false)
  | 47 => ("MatchForgeModel", "sums", "[I", true)
  | 48 => ("MatchForgeModel", "found", "Z", false)
  | 49 => ("MatchForgeModel", "draft", "[I", true)
  | 50 => ("MatchForgeModel", "draftSize", "I", false)
  | 51 => ("MatchForgeModel", "looked", "[Z", true)
  | 52 => ("MatchForgeModel", "large", "[Z", true)
  | 53 => ("MatchForgeModel", "results", "[I", true)
  | 54 => ("MatchForgeModel", "missing", "[I", true)
  | _ => ("MatchForgeModel", "missingSize", "I", false)
def tyX10 : Nat → FieldType := fun k => match k with
  | 0 => .int
  | 1 => .int
  | 2 => .array .int
  | 3 => .array .int
  | 4 => .array .int
  | 5 => .array .int
  | 6 => .array .int
  | 7 => .array .int
  | 8 => .array .int
  | 9 => .array .int
  | 10 => .int
  | 11 => .array .int
  | 12 => .array .int
  | 13 => .array .int
  | 14 => .array .int
  | 15 => .array .int
  | 16 => .array .int
  | 17 => .array .boolean
  | 18 => .int
  | 19 => .array .int
  | 20 => .array .int
  | 21 => .array .int
  | 22 => .array .int
  | 23 => .array .int
  | 24 => .array .int
  | 25 => .int
  | 26 => .array .int
  | 27 => .array .int
  | 28 => .array .int
  | 29 => .array .int
  | 30 => .array .int
  | 31 => .int
  | 32 => .array .short
  | 33 => .int
  | 34 => .array .int
  | 35 => .int
  | 36 => .array .int
  | 37 => .array .boolean
  | 38 => .array .int
  | 39 => .array .boolean
  | 40 => .array .int
  | 41 => .array .int
  | 42 => .int
  | 43 => .int
  | 44 => .boolean
  | 45 => .boolean
  | 46 => .int
  | 47 => .array .int
  | 48 => .boolean
  | 49 => .array .int
  | 50 => .int
  | 51 => .array .boolean
  | 52 => .array .boolean
  | 53 => .array .int
  | 54 => .array .int
  | _ => .int
theorem nmX10 : ∀ a, a < 56 → ∀ b, b < 56 → a ≠ b → (TX10 a).2.1 ≠ (TX10 b).2.1 := by decide +kernel
theorem tyX10_ok : ∀ k, k < 56 → parseFieldDescriptor (TX10 k).2.2.1 = some (tyX10 k) := by decide +kernel
abbrev cX10_init : ByteArray := prog_12_method_1_code
def yX10_init : MethodName := ⟨RX10, "<init>", "()V"⟩
abbrev cX10_isType : ByteArray := prog_12_method_3_code
def yX10_isType : MethodName := ⟨RX10, "isType", "(I)Z"⟩
abbrev cX10_type : ByteArray := prog_12_method_4_code
def yX10_type : MethodName := ⟨RX10, "type", "()I"⟩
abbrev cX10_maker : ByteArray := prog_12_method_5_code
def yX10_maker : MethodName := ⟨RX10, "maker", "(IIIII)I"⟩
abbrev cX10_madeSize : ByteArray := prog_12_method_6_code
def yX10_madeSize : MethodName := ⟨RX10, "madeSize", "(II)I"⟩
abbrev cX10_findPlains : ByteArray := prog_12_method_7_code
def yX10_findPlains : MethodName := ⟨RX10, "findPlains", "()V"⟩
abbrev cX10_isMaker : ByteArray := prog_12_method_8_code
def yX10_isMaker : MethodName := ⟨RX10, "isMaker", "(II)Z"⟩
abbrev cX10_countOf : ByteArray := prog_12_method_9_code
def yX10_countOf : MethodName := ⟨RX10, "countOf", "(II)I"⟩
abbrev cX10_partType : ByteArray := prog_12_method_10_code
def yX10_partType : MethodName := ⟨RX10, "partType", "(III)I"⟩
abbrev cX10_addValue : ByteArray := prog_12_method_11_code
def yX10_addValue : MethodName := ⟨RX10, "addValue", "(III)I"⟩
abbrev cX10_number : ByteArray := prog_12_method_12_code
def yX10_number : MethodName := ⟨RX10, "number", "(I)I"⟩
abbrev cX10_isValueOf : ByteArray := prog_12_method_13_code
def yX10_isValueOf : MethodName := ⟨RX10, "isValueOf", "(II)Z"⟩
abbrev cX10_pick : ByteArray := prog_12_method_14_code
def yX10_pick : MethodName := ⟨RX10, "pick", "(IIII)I"⟩
abbrev cX10_make : ByteArray := prog_12_method_15_code
def yX10_make : MethodName := ⟨RX10, "make", "(IIIII)I"⟩
abbrev cX10_addPattern : ByteArray := prog_12_method_16_code
def yX10_addPattern : MethodName := ⟨RX10, "addPattern", "(IIIIIZ)I"⟩
abbrev cX10_isName : ByteArray := prog_12_method_17_code
def yX10_isName : MethodName := ⟨RX10, "isName", "(I)Z"⟩
abbrev cX10_isPattern : ByteArray := prog_12_method_18_code
def yX10_isPattern : MethodName := ⟨RX10, "isPattern", "(I)Z"⟩
abbrev cX10_hasName : ByteArray := prog_12_method_19_code
def yX10_hasName : MethodName := ⟨RX10, "hasName", "(II)Z"⟩
abbrev cX10_any : ByteArray := prog_12_method_20_code
def yX10_any : MethodName := ⟨RX10, "any", "(II)I"⟩
abbrev cX10_also : ByteArray := prog_12_method_21_code
def yX10_also : MethodName := ⟨RX10, "also", "(II)I"⟩
abbrev cX10_exactly : ByteArray := prog_12_method_22_code
def yX10_exactly : MethodName := ⟨RX10, "exactly", "(I)I"⟩
abbrev cX10_made : ByteArray := prog_12_method_23_code
def yX10_made : MethodName := ⟨RX10, "made", "(IIIII)I"⟩
abbrev cX10_either : ByteArray := prog_12_method_24_code
def yX10_either : MethodName := ⟨RX10, "either", "(II)I"⟩
abbrev cX10_match : ByteArray := prog_12_method_25_code
def yX10_match : MethodName := ⟨RX10, "match", "(IIII)I"⟩
abbrev cX10_isMatch : ByteArray := prog_12_method_26_code
def yX10_isMatch : MethodName := ⟨RX10, "isMatch", "(I)Z"⟩
abbrev cX10_patternOf : ByteArray := prog_12_method_27_code
def yX10_patternOf : MethodName := ⟨RX10, "patternOf", "(III)I"⟩
abbrev cX10_typeOfName : ByteArray := prog_12_method_28_code
def yX10_typeOfName : MethodName := ⟨RX10, "typeOfName", "(II)I"⟩
abbrev cX10_row : ByteArray := prog_12_method_29_code
def yX10_row : MethodName := ⟨RX10, "row", "(IIIIII)I"⟩
abbrev cX10_doesMatch : ByteArray := prog_12_method_30_code
def yX10_doesMatch : MethodName := ⟨RX10, "doesMatch", "(II)Z"⟩
abbrev cX10_takes : ByteArray := prog_12_method_31_code
def yX10_takes : MethodName := ⟨RX10, "takes", "(IIIII)Z"⟩
abbrev cX10_newPlace : ByteArray := prog_12_method_32_code
def yX10_newPlace : MethodName := ⟨RX10, "newPlace", "(II)I"⟩
abbrev cX10_pushRow : ByteArray := prog_12_method_33_code
def yX10_pushRow : MethodName := ⟨RX10, "pushRow", "(II)I"⟩
abbrev cX10_cell : ByteArray := prog_12_method_34_code
def yX10_cell : MethodName := ⟨RX10, "cell", "(II)I"⟩
abbrev cX10_setCell : ByteArray := prog_12_method_35_code
def yX10_setCell : MethodName := ⟨RX10, "setCell", "(IIII)V"⟩
abbrev cX10_copyRow : ByteArray := prog_12_method_36_code
def yX10_copyRow : MethodName := ⟨RX10, "copyRow", "(III)V"⟩
abbrev cX10_goThrough : ByteArray := prog_12_method_37_code
def yX10_goThrough : MethodName := ⟨RX10, "goThrough", "(IZIII)V"⟩
abbrev cX10_countNode : ByteArray := prog_12_method_38_code
def yX10_countNode : MethodName := ⟨RX10, "countNode", "(I)Z"⟩
abbrev cX10_firstOpen : ByteArray := prog_12_method_39_code
def yX10_firstOpen : MethodName := ⟨RX10, "firstOpen", "(II)I"⟩
abbrev cX10_isEither : ByteArray := prog_12_method_40_code
def yX10_isEither : MethodName := ⟨RX10, "isEither", "(II)Z"⟩
abbrev cX10_split : ByteArray := prog_12_method_41_code
def yX10_split : MethodName := ⟨RX10, "split", "(IIIII)V"⟩
abbrev cX10_node : ByteArray := prog_12_method_42_code
def yX10_node : MethodName := ⟨RX10, "node", "(III)V"⟩
abbrev cX10_failure : ByteArray := prog_12_method_43_code
def yX10_failure : MethodName := ⟨RX10, "failure", "()V"⟩
abbrev cX10_leaf : ByteArray := prog_12_method_44_code
def yX10_leaf : MethodName := ⟨RX10, "leaf", "(III)V"⟩
abbrev cX10_test : ByteArray := prog_12_method_45_code
def yX10_test : MethodName := ⟨RX10, "test", "(IIII)V"⟩
abbrev cX10_leastOther : ByteArray := prog_12_method_46_code
def yX10_leastOther : MethodName := ⟨RX10, "leastOther", "(III)I"⟩
abbrev cX10_branch : ByteArray := prog_12_method_47_code
def yX10_branch : MethodName := ⟨RX10, "branch", "(IIIIZII)V"⟩
abbrev cX10_put : ByteArray := prog_12_method_48_code
def yX10_put : MethodName := ⟨RX10, "put", "(I)V"⟩
abbrev cX10_tellPlain : ByteArray := prog_12_method_49_code
def yX10_tellPlain : MethodName := ⟨RX10, "tellPlain", "(I)V"⟩
abbrev cX10_tell : ByteArray := prog_12_method_50_code
def yX10_tell : MethodName := ⟨RX10, "tell", "(I)V"⟩
abbrev cX10_look : ByteArray := prog_12_method_51_code
def yX10_look : MethodName := ⟨RX10, "look", "(I)V"⟩
abbrev cX10_forget : ByteArray := prog_12_method_52_code
def yX10_forget : MethodName := ⟨RX10, "forget", "()V"⟩
abbrev cX10_run : ByteArray := prog_12_method_53_code
def yX10_run : MethodName := ⟨RX10, "run", "(IIII)I"⟩
abbrev cX10_took : ByteArray := prog_12_method_54_code
def yX10_took : MethodName := ⟨RX10, "took", "(I)I"⟩
abbrev cX10_tree : ByteArray := prog_12_method_55_code
def yX10_tree : MethodName := ⟨RX10, "tree", "(II)I"⟩
abbrev cX10_missing : ByteArray := prog_12_method_56_code
def yX10_missing : MethodName := ⟨RX10, "missing", "(I)I"⟩
abbrev cX10_part : ByteArray := prog_12_method_57_code
def yX10_part : MethodName := ⟨RX10, "part", "(I)I"⟩
abbrev cX10_plain : ByteArray := prog_12_method_58_code
def yX10_plain : MethodName := ⟨RX10, "plain", "(I)I"⟩
abbrev cX10_sumOf : ByteArray := prog_12_method_59_code
def yX10_sumOf : MethodName := ⟨RX10, "sumOf", "([II)I"⟩
abbrev cX10_count : ByteArray := prog_12_method_60_code
def yX10_count : MethodName := ⟨RX10, "count", "(I)I"⟩
abbrev cX10_check : ByteArray := prog_12_method_61_code
def yX10_check : MethodName := ⟨RX10, "check", "()I"⟩
def RJx8e188 : String := "java/lang/Cloneable"
def TJx8e188 : u_T := fun k => match k with
  | _ => ("", "", "", false)
def tyJx8e188 : Nat → FieldType := fun k => match k with
  | _ => .int
theorem nmJx8e188 : ∀ a, a < 0 → ∀ b, b < 0 → a ≠ b → (TJx8e188 a).2.1 ≠ (TJx8e188 b).2.1 := by decide +kernel
theorem tyJx8e188_ok : ∀ k, k < 0 → parseFieldDescriptor (TJx8e188 k).2.2.1 = some (tyJx8e188 k) := by decide +kernel
def RJ9 : String := "java/lang/Math"
def TJ9 : u_T := fun k => match k with
  | _ => ("", "", "", false)
def tyJ9 : Nat → FieldType := fun k => match k with
  | _ => .int
theorem nmJ9 : ∀ a, a < 0 → ∀ b, b < 0 → a ≠ b → (TJ9 a).2.1 ≠ (TJ9 b).2.1 := by decide +kernel
theorem tyJ9_ok : ∀ k, k < 0 → parseFieldDescriptor (TJ9 k).2.2.1 = some (tyJ9 k) := by decide +kernel
abbrev cJ9_max_7cf53 : ByteArray := prog_14_method_65_code
def yJ9_max_7cf53 : MethodName := ⟨RJ9, "max", "(II)I"⟩
abbrev cJ9_min_7cf53 : ByteArray := prog_14_method_69_code
def yJ9_min_7cf53 : MethodName := ⟨RJ9, "min", "(II)I"⟩
def RJ10 : String := "java/lang/System"
def TJ10 : u_T := fun k => match k with
  | _ => ("", "", "", false)
def tyJ10 : Nat → FieldType := fun k => match k with
  | _ => .int
theorem nmJ10 : ∀ a, a < 0 → ∀ b, b < 0 → a ≠ b → (TJ10 a).2.1 ≠ (TJ10 b).2.1 := by decide +kernel
theorem tyJ10_ok : ∀ k, k < 0 → parseFieldDescriptor (TJ10 k).2.2.1 = some (tyJ10 k) := by decide +kernel
def RJ7 : String := "java/util/Arrays"
def TJ7 : u_T := fun k => match k with
  | _ => ("", "", "", false)
def tyJ7 : Nat → FieldType := fun k => match k with
  | _ => .int
theorem nmJ7 : ∀ a, a < 0 → ∀ b, b < 0 → a ≠ b → (TJ7 a).2.1 ≠ (TJ7 b).2.1 := by decide +kernel
theorem tyJ7_ok : ∀ k, k < 0 → parseFieldDescriptor (TJ7 k).2.2.1 = some (tyJ7 k) := by decide +kernel
abbrev cJ7_fill_53178 : ByteArray := prog_16_method_103_code
def yJ7_fill_53178 : MethodName := ⟨RJ7, "fill", "([II)V"⟩
abbrev cJ7_copyOf_59c91 : ByteArray := prog_16_method_123_code
def yJ7_copyOf_59c91 : MethodName := ⟨RJ7, "copyOf", "([II)[I"⟩
def RL : String := "MatchForgeLaw"
abbrev cL_law : ByteArray := code
def yL_law : MethodName := ⟨RL, "law", "([I)Z"⟩
abbrev vwCl : List vw_C := [(RX0, TX0, 18), (RX1, TX1, 4), (RX2, TX2, 3), (RX3, TX3, 8), (RX4, TX4, 6), (RX5, TX5, 11), (RX6, TX6, 17), (RX7, TX7, 7), (RX8, TX8, 5), (RX9, TX9, 11), (RX10, TX10, 56)]
end
section
/-! ===== A SMALL MACHINE over logical cells: values, memory, one stretch of code, methods by number. Pure: nothing of the JVM but its Instr ===== -/
abbrev xV : Type := Int ⊕ Option Nat
abbrev xM : Type := Nat → Int → Int
/-- cells made, slots made, shapes (kind, length), contents -/
abbrev xS : Type := Nat × Nat × (Nat → Nat × Nat) × xM
/-- pc, instruction, two numbers that the tables resolve -/
abbrev xI : Type := Nat × Instr × Nat × Nat
abbrev xL : Type := List (Option xV)
/-- an Int as the int that it stands for -/
def wr (x : Int) : Int := (Int32.ofInt x).toInt
def xref (x : Int) : Option Nat := if x < 0 then none else some x.toNat
def xenc : Option Nat → Int
  | none => -1
  | some k => (k : Int)
def xup (M : xM) (k : Nat) (i v : Int) : xM := fun k' i' => if k' = k ∧ i' = i then v else M k' i'
def xnew {α : Type} (M : Nat → α) (n : Nat) (f : α) : Nat → α := fun k => if k = n then f else M k
def xcpy (M : xM) (s : Nat) (sp : Int) (d : Nat) (dp n : Int) : xM := fun k i => if k = d ∧ dp ≤ i ∧ i < dp + n then M s (sp + (i - dp)) else M k i
def xc : ClassFile.Cond → Int → Int → Prop
  | .eq, x, y => x = y
  | .ne, x, y => ¬ x = y
  | .lt, x, y => x < y
  | .ge, x, y => y ≤ x
  | .gt, x, y => y < x
  | .le, x, y => x ≤ y
def xor32 (x y : Int) : Int := (Int32.ofInt x ||| Int32.ofInt y).toInt
def xand32 (x y : Int) : Int := (Int32.ofInt x &&& Int32.ofInt y).toInt
def xxor32 (x y : Int) : Int := (Int32.ofInt x ^^^ Int32.ofInt y).toInt
def xshl32 (x y : Int) : Int := (Int32.ofInt x <<< (Int32.ofInt y &&& 31)).toInt
def xshr32 (x y : Int) : Int := (Int32.ofInt x >>> (Int32.ofInt y &&& 31)).toInt
def xi2s (x : Int) : Int := (Int32.ofInt x).toInt16.toInt32.toInt
/-- an index within an array of the kind t -/
def xin (S : xS) (k t : Nat) (i : Int) : Prop := k < S.1 ∧ (S.2.2.1 k).1 = t ∧ 0 ≤ wr i ∧ wr i < ((S.2.2.1 k).2 : Int)
/-- an object of the class code a -/
def xob (S : xS) (k a : Nat) : Prop := k < S.1 ∧ (S.2.2.1 k).1 = 10 + a
abbrev xR : Type := Option Prop × xL × List xV × xS
/-- what one field holds -/
def xget (T : Nat → Nat → Nat × Nat) (a j k : Nat) (M : xM) : xV := match (T a j).1 with
  | 0 => .inl (M k (j : Int))
  | 4 => .inl (M k (j : Int))
  | 1 => .inr (some (k + (T a j).2))
  | 2 => .inr (some (T a j).2)
  | _ => .inr (xref (M k (j : Int)))
/-- what may be put into one field, as a number -/
def xput (T : Nat → Nat → Nat × Nat) (a j : Nat) (S : xS) (v : xV) : Option (Option Prop × Int) := match (T a j).1, v with
  | 0, .inl x => some (none, x)
  | 4, .inl x => some (some (x = 0 ∨ x = 1), x)
  | 3, .inr none => some (none, -1)
  | 3, .inr (some t) => some (some (t < S.1), (t : Int))
  | _, _ => none
def xseal (T : Nat → Nat → Nat × Nat) (N : Nat → Nat) (a k : Nat) (M : xM) : Prop := ∀ j, j < N a → ((T a j).1 = 1 → M k (j : Int) = ((k + (T a j).2 : Nat) : Int)) ∧ ((T a j).1 = 2 → M k (j : Int) = ((T a j).2 : Int))
/-- a new object's numbers: null for references -/
def xfresh (T : Nat → Nat → Nat × Nat) (a : Nat) : Int → Int := fun i => if (T a i.toNat).1 = 0 ∨ (T a i.toNat).1 = 4 then 0 else -1
/-- the instructions without a road of their own -/
def xsim (T : Nat → Nat → Nat × Nat) (N : Nat → Nat) (ins : Instr) (a b : Nat) (ls : xL) (st : List xV) (S : xS) : Option xR := match ins with
  | .iconst n => some (none, ls, .inl n :: st, S)
  | .bipush n => some (none, ls, .inl n :: st, S)
  | .sipush n => some (none, ls, .inl n :: st, S)
  | .ldc _ => some (none, ls, .inl (a : Int) :: st, S)
  | .aconst_null => some (none, ls, .inr none :: st, S)
  | .iload_n k => match ls[(k : Nat)]? with
    | some (some (.inl x)) => some (none, ls, .inl x :: st, S)
    | _ => none
  | .iload k => match ls[k]? with
    | some (some (.inl x)) => some (none, ls, .inl x :: st, S)
    | _ => none
  | .aload_n k => match ls[(k : Nat)]? with
    | some (some (.inr x)) => some (none, ls, .inr x :: st, S)
    | _ => none
  | .aload k => match ls[k]? with
    | some (some (.inr x)) => some (none, ls, .inr x :: st, S)
    | _ => none
  | .istore_n k => match st with
    | .inl x :: st => some (none, ls.set (k : Nat) (some (.inl x)), st, S)
    | _ => none
  | .istore k => match st with
    | .inl x :: st => some (none, ls.set k (some (.inl x)), st, S)
    | _ => none
  | .astore_n k => match st with
    | .inr x :: st => some (none, ls.set (k : Nat) (some (.inr x)), st, S)
    | _ => none
  | .astore k => match st with
    | .inr x :: st => some (none, ls.set k (some (.inr x)), st, S)
    | _ => none
  | .iinc k n => match ls[k]? with
    | some (some (.inl x)) => some (none, ls.set k (some (.inl (x + n))), st, S)
    | _ => none
  | .iadd => match st with
    | .inl y :: .inl x :: st => some (none, ls, .inl (x + y) :: st, S)
    | _ => none
  | .isub => match st with
    | .inl y :: .inl x :: st => some (none, ls, .inl (x - y) :: st, S)
    | _ => none
  | .imul => match st with
    | .inl y :: .inl x :: st => some (none, ls, .inl (x * y) :: st, S)
    | _ => none
  | .iand => match st with
    | .inl y :: .inl x :: st => some (none, ls, .inl (xand32 x y) :: st, S)
    | _ => none
  | .ior => match st with
    | .inl y :: .inl x :: st => some (none, ls, .inl (xor32 x y) :: st, S)
    | _ => none
  | .ixor => match st with
    | .inl y :: .inl x :: st => some (none, ls, .inl (xxor32 x y) :: st, S)
    | _ => none
  | .ishl => match st with
    | .inl y :: .inl x :: st => some (none, ls, .inl (xshl32 x y) :: st, S)
    | _ => none
  | .ishr => match st with
    | .inl y :: .inl x :: st => some (none, ls, .inl (xshr32 x y) :: st, S)
    | _ => none
  | .i2s => match st with
    | .inl x :: st => some (none, ls, .inl (xi2s x) :: st, S)
    | _ => none
  | .dup => match st with
    | v :: st => some (none, ls, v :: v :: st, S)
    | _ => none
  | .dup2 => match st with
    | v :: w :: st => some (none, ls, v :: w :: v :: w :: st, S)
    | _ => none
  | .getfield _ => match st with
    | .inr (some k) :: st => some (some (xob S k a), ls, xget T a b k S.2.2.2 :: st, S)
    | _ => none
  | .putfield _ => match st with
    | v :: .inr (some k) :: st => match xput T a b S v with
      | some (some g, x) => some (some (0 < k ∧ xob S k a ∧ g), ls, st, (S.1, S.2.1, S.2.2.1, xup S.2.2.2 k (b : Int) x))
      | some (none, x) => some (some (0 < k ∧ xob S k a), ls, st, (S.1, S.2.1, S.2.2.1, xup S.2.2.2 k (b : Int) x))
      | none => none
    | _ => none
  | .iaload => match st with
    | .inl i :: .inr (some k) :: st => some (some (xin S k (if k = 0 then 5 else 1) i), ls, .inl (S.2.2.2 k (wr i)) :: st, S)
    | _ => none
  | .baload => match st with
    | .inl i :: .inr (some k) :: st => some (some (0 < k ∧ xin S k 2 i), ls, .inl (S.2.2.2 k (wr i)) :: st, S)
    | _ => none
  | .saload => match st with
    | .inl i :: .inr (some k) :: st => some (some (0 < k ∧ xin S k 3 i), ls, .inl (S.2.2.2 k (wr i)) :: st, S)
    | _ => none
  | .aaload => match st with
    | .inl i :: .inr (some k) :: st => some (some (0 < k ∧ xin S k 4 i), ls, .inr (xref (S.2.2.2 k (wr i))) :: st, S)
    | _ => none
  | .iastore => match st with
    | .inl x :: .inl i :: .inr (some k) :: st => some (some (0 < k ∧ xin S k 1 i), ls, st, (S.1, S.2.1, S.2.2.1, xup S.2.2.2 k (wr i) x))
    | _ => none
  | .bastore => match st with
    | .inl x :: .inl i :: .inr (some k) :: st => some (some (0 < k ∧ xin S k 2 i ∧ (x = 0 ∨ x = 1)), ls, st, (S.1, S.2.1, S.2.2.1, xup S.2.2.2 k (wr i) x))
    | _ => none
  | .sastore => match st with
    | .inl x :: .inl i :: .inr (some k) :: st => some (some (0 < k ∧ xin S k 3 i ∧ (-32768 ≤ x ∧ x ≤ 32767)), ls, st, (S.1, S.2.1, S.2.2.1, xup S.2.2.2 k (wr i) x))
    | _ => none
  | .aastore => match st with
    | .inr (some v) :: .inl i :: .inr (some k) :: st => some (some (0 < k ∧ xin S k 4 i ∧ 0 < v ∧ xob S v a), ls, st, (S.1, S.2.1, S.2.2.1, xup S.2.2.2 k (wr i) (v : Int)))
    | _ => none
  | .arraylength => match st with
    | .inr (some k) :: st => some (some (k < S.1 ∧ (S.2.2.1 k).1 = (if k = 0 then 5 else 1)), ls, .inl ((S.2.2.1 k).2 : Int) :: st, S)
    | _ => none
  | .newarray _ => match st with
    | .inl n :: st => some (some (0 ≤ n ∧ n ≤ 50000000), ls, .inr (some S.1) :: st, (S.1 + 1, S.2.1 + n.toNat, xnew S.2.2.1 S.1 (a, n.toNat), xnew S.2.2.2 S.1 (fun _ => 0)))
    | _ => none
  | .anewarray _ => match st with
    | .inl n :: st => some (some (0 ≤ n ∧ n ≤ 50000000), ls, .inr (some S.1) :: st, (S.1 + 1, S.2.1 + n.toNat, xnew S.2.2.1 S.1 (4, n.toNat), xnew S.2.2.2 S.1 (fun _ => -1)))
    | _ => none
  | .new _ => some (none, ls, .inr (some S.1) :: st, (S.1 + 1, S.2.1 + N a, xnew S.2.2.1 S.1 (10 + a, 0), xnew S.2.2.2 S.1 (xfresh T a)))
  | .invokespecial _ => match a, st with
    | 1000, .inr (some _) :: st => some (none, ls, st, S)
    | _, _ => none
  | .invokestatic _ => match a, st with
    | 1001, .inl n :: .inl dp :: .inr (some d) :: .inl sp :: .inr (some s) :: st => some (some ((0 < s ∧ s < S.1 ∧ (S.2.2.1 s).1 = 1) ∧ (0 < d ∧ d < S.1 ∧ (S.2.2.1 d).1 = 1) ∧ ¬ s = d ∧ (0 ≤ sp ∧ 0 ≤ dp ∧ 0 ≤ n ∧ sp + n ≤ ((S.2.2.1 s).2 : Int) ∧ dp + n ≤ ((S.2.2.1 d).2 : Int))), ls, st, (S.1, S.2.1, S.2.2.1, xcpy S.2.2.2 s sp d dp n))
    | _, _ => none
  | .nop => match a, ls with
    | 2, some (.inr (some k)) :: _ => some (some (0 < k ∧ xob S k (30 + b) ∧ xseal T N b k S.2.2.2), ls, st, (S.1, S.2.1, xnew S.2.2.1 k (10 + b, 0), S.2.2.2))
    | _, _ => none
  | _ => none
/-- a method by number: how many arguments (this one too), what it answers (0 nothing, 1 int, 2 boolean, 3 reference), its receiver's class code (1000: static), how many locals -/
abbrev xMt : Type := Nat → Nat × Nat × Nat × Nat
def xrecv (S : xS) (a : Nat) (as : List xV) : Prop := match a, as with
  | 1000, _ => True
  | a, .inr (some k) :: _ => 0 < k ∧ xob S k a
  | _, _ => False
/-- the instructions that have roads, calls or an end. go: on in this stretch, so many instructions passed over -/
def xctl (mt : xMt) (C : Nat → List xV → xS → (xV → xS → Prop) → Prop) (K : Nat → xL → List xV → xS → Prop) (Q : xV → xS → Prop) (go : Nat → xL → List xV → xS → Prop) (pc : Nat) (ins : Instr) (a b : Nat) (ls : xL) (st : List xV) (S : xS) : Prop := match ins, st with
  | .if_icmp c _, .inl y :: .inl x :: st' => (xc c (wr x) (wr y) → match a with
    | 0 => go b ls st' S
    | _ => K b ls st' S) ∧ (¬ xc c (wr x) (wr y) → go 0 ls st' S)
  | .ifCond c _, .inl x :: st' => (xc c (wr x) 0 → match a with
    | 0 => go b ls st' S
    | _ => K b ls st' S) ∧ (¬ xc c (wr x) 0 → go 0 ls st' S)
  | .goto _, st' => match a with
    | 0 => go b ls st' S
    | _ => K b ls st' S
  | .nop, st' => match a with
    | 1 => K pc ls st' S
    | _ => False
  | .tableswitch d lo hi offs, .inl x :: st' => ((wr x < lo ∨ hi < wr x) → K ((pc : Int) + d).toNat ls st' S) ∧ (¬ (wr x < lo ∨ hi < wr x) → K ((pc : Int) + offs.getD (wr x - lo).toNat 0).toNat ls st' S)
  | .ireturn, .inl x :: _ => match a with
    | 2 => (x = 0 ∨ x = 1) ∧ Q (.inl x) S
    | _ => Q (.inl x) S
  | .areturn, .inr r :: _ => Q (.inr r) S
  | .return_, _ => Q (.inl 0) S
  | .invokevirtual _, st' => ((mt a).1 ≤ st'.length ∧ xrecv S (mt a).2.2.1 (st'.take (mt a).1).reverse) ∧ C a (st'.take (mt a).1).reverse S (fun r S' => go 0 ls (match (mt a).2.1 with
    | 0 => st'.drop (mt a).1
    | _ => r :: st'.drop (mt a).1) S')
  | .invokespecial _, st' => ((mt a).1 ≤ st'.length ∧ xrecv S (mt a).2.2.1 (st'.take (mt a).1).reverse) ∧ C a (st'.take (mt a).1).reverse S (fun r S' => go 0 ls (match (mt a).2.1 with
    | 0 => st'.drop (mt a).1
    | _ => r :: st'.drop (mt a).1) S')
  | .invokestatic _, st' => ((mt a).1 ≤ st'.length ∧ xrecv S (mt a).2.2.1 (st'.take (mt a).1).reverse) ∧ C a (st'.take (mt a).1).reverse S (fun r S' => go 0 ls (match (mt a).2.1 with
    | 0 => st'.drop (mt a).1
    | _ => r :: st'.drop (mt a).1) S')
  | _, _ => False
/-- a stretch of code: sk instructions are passed over first. C: calls; K: roads to other stretches; Q: the end -/
def xgo (T : Nat → Nat → Nat × Nat) (N : Nat → Nat) (mt : xMt) (C : Nat → List xV → xS → (xV → xS → Prop) → Prop) (K : Nat → xL → List xV → xS → Prop) (Q : xV → xS → Prop) : List xI → Nat → xL → List xV → xS → Prop
  | [], _, _, _, _ => False
  | _ :: rest, sk + 1, ls, st, S => xgo T N mt C K Q rest sk ls st S
  | (pc, ins, a, b) :: rest, 0, ls, st, S => match xsim T N ins a b ls st S with
    | some (none, ls', st', S') => xgo T N mt C K Q rest 0 ls' st' S'
    | some (some g, ls', st', S') => g ∧ xgo T N mt C K Q rest 0 ls' st' S'
    | none => xctl mt C K Q (fun sk ls st S => xgo T N mt C K Q rest sk ls st S) pc ins a b ls st S
/-- a whole method, stretch by stretch -/
def xloop (T : Nat → Nat → Nat × Nat) (N : Nat → Nat) (mt : xMt) (tr : Nat → Nat → List xI) (C : Nat → List xV → xS → (xV → xS → Prop) → Prop) (mu : Nat) (Q : xV → xS → Prop) : Nat → Nat → xL → List xV → xS → Prop
  | 0, _, _, _, _ => False
  | n + 1, pc, ls, st, S => xgo T N mt C (fun pc ls st S => xloop T N mt tr C mu Q n pc ls st S) Q (tr mu pc) 0 ls st S
def xent (as : List xV) (n : Nat) : xL := as.map some ++ List.replicate (n - as.length) none
/-- a call with d frames below it -/
def xcall (T : Nat → Nat → Nat × Nat) (N : Nat → Nat) (mt : xMt) (tr : Nat → Nat → List xI) : Nat → Nat → List xV → xS → (xV → xS → Prop) → Prop
  | 0, _, _, _, _ => False
  | d + 1, mu, as, S, Q => ∃ n, xloop T N mt tr (xcall T N mt tr d) mu Q n 0 (xent as (mt mu).2.2.2) [] S
end
section
/-! ===== the small machine has one end: what holds behind it holds of one answer and one state; cells and slots only grow ===== -/
def xPt (S : xS) (T : (xV → xS → Prop) → Prop) : Prop := ∀ Q, T Q → ∃ r S', Q r S' ∧ S.1 ≤ S'.1 ∧ S.2.1 ≤ S'.2.1 ∧ ∀ Q' : xV → xS → Prop, Q' r S' → T Q'
theorem xPt.and {S : xS} {T : (xV → xS → Prop) → Prop} {g : Prop} (h : xPt S T) : xPt S (fun Q => g ∧ T Q) := by
  intro Q ⟨hg, ht⟩
  obtain ⟨r, S', a, b, c, d⟩ := h Q ht
  exact ⟨r, S', a, b, c, fun Q' q => ⟨hg, d Q' q⟩⟩
theorem xPt.br {S : xS} {A B : (xV → xS → Prop) → Prop} {c : Prop} (ha : xPt S A) (hb : xPt S B) : xPt S (fun Q => (c → A Q) ∧ (¬ c → B Q)) := by
  intro Q ⟨h1, h2⟩
  by_cases hc : c
  · obtain ⟨r, S', a, b, e, d⟩ := ha Q (h1 hc)
    exact ⟨r, S', a, b, e, fun Q' q => ⟨fun _ => d Q' q, fun h => absurd hc h⟩⟩
  · obtain ⟨r, S', a, b, e, d⟩ := hb Q (h2 hc)
    exact ⟨r, S', a, b, e, fun Q' q => ⟨fun h => absurd h hc, fun _ => d Q' q⟩⟩
theorem xPt.up {S S1 : xS} {T : (xV → xS → Prop) → Prop} (h : xPt S1 T) (h1 : S.1 ≤ S1.1) (h2 : S.2.1 ≤ S1.2.1) : xPt S T := by
  intro Q ht
  obtain ⟨r, S', a, b, c, d⟩ := h Q ht
  exact ⟨r, S', a, Nat.le_trans h1 b, Nat.le_trans h2 c, d⟩
theorem xPt.q {S : xS} {r : xV} : xPt S (fun Q => Q r S) := fun _ h => ⟨r, S, h, Nat.le_refl _, Nat.le_refl _, fun _ q => q⟩
theorem xPt.no {S : xS} : xPt S (fun _ => False) := fun _ h => h.elim
theorem xPt.bind {S : xS} {T : (xV → xS → Prop) → Prop} {K : xV → xS → (xV → xS → Prop) → Prop} (h : xPt S T) (hk : ∀ r S', xPt S' (K r S')) : xPt S (fun Q => T (fun r S' => K r S' Q)) := by
  intro Q ht
  obtain ⟨r, S', a, b, c, d⟩ := h _ ht
  obtain ⟨r2, S2, a2, b2, c2, d2⟩ := hk r S' Q a
  exact ⟨r2, S2, a2, Nat.le_trans b b2, Nat.le_trans c c2, fun Q' q => d _ (d2 Q' q)⟩
theorem xPt.ex {S : xS} {T : Nat → (xV → xS → Prop) → Prop} (h : ∀ n, xPt S (T n)) : xPt S (fun Q => ∃ n, T n Q) := by
  intro Q ⟨n, ht⟩
  obtain ⟨r, S', a, b, c, d⟩ := h n Q ht
  exact ⟨r, S', a, b, c, fun Q' q => ⟨n, d Q' q⟩⟩
theorem xsim_up {T : Nat → Nat → Nat × Nat} {N : Nat → Nat} {ins : Instr} {a b : Nat} {ls ls' : xL} {st st' : List xV} {S S' : xS} {g : Option Prop} (h : xsim T N ins a b ls st S = some (g, ls', st', S')) : S.1 ≤ S'.1 ∧ S.2.1 ≤ S'.2.1 := by
  unfold xsim at h
  split at h
  all_goals (try (split at h))
  all_goals (try (split at h))
  all_goals (first | (cases h; done) | (simp only [Option.some.injEq, Prod.mk.injEq] at h; obtain ⟨-, -, -, rfl⟩ := h; exact ⟨by simp, by simp⟩))
section PT
variable {T : Nat → Nat → Nat × Nat} {N : Nat → Nat} {mt : xMt} {C : Nat → List xV → xS → (xV → xS → Prop) → Prop} {K : (xV → xS → Prop) → Nat → xL → List xV → xS → Prop}
theorem xctl_pt {go : (xV → xS → Prop) → Nat → xL → List xV → xS → Prop} (hC : ∀ a as S, xPt S (C a as S)) (hK : ∀ pc ls st S, xPt S (fun Q => K Q pc ls st S)) (hg : ∀ sk ls st S, xPt S (fun Q => go Q sk ls st S)) (pc : Nat) (ins : Instr) (a b : Nat) (ls : xL) (st : List xV) (S : xS) :
    xPt S (fun Q => xctl mt C (K Q) Q (go Q) pc ins a b ls st S) := by
  cases ins with
  | if_icmp c o =>
    rcases st with _ | ⟨y | y, _ | ⟨x | x, st⟩⟩
    all_goals first | exact xPt.no | skip
    refine xPt.br ?_ (hg _ _ _ _)
    cases a with
    | zero => exact hg _ _ _ _
    | succ n => exact hK _ _ _ _
  | ifCond c o =>
    rcases st with _ | ⟨x | x, st⟩
    all_goals first | exact xPt.no | skip
    refine xPt.br ?_ (hg _ _ _ _)
    cases a with
    | zero => exact hg _ _ _ _
    | succ n => exact hK _ _ _ _
  | goto o =>
    cases a with
    | zero => exact hg _ _ _ _
    | succ n => exact hK _ _ _ _
  | nop =>
    rcases a with _ | _ | a
    · exact xPt.no
    · exact hK _ _ _ _
    · exact xPt.no
  | tableswitch d lo hi offs =>
    rcases st with _ | ⟨x | x, st⟩
    all_goals first | exact xPt.no | skip
    exact xPt.br (hK _ _ _ _) (hK _ _ _ _)
  | ireturn =>
    rcases st with _ | ⟨x | x, st⟩
    all_goals first | exact xPt.no | skip
    rcases a with _ | _ | _ | a
    · exact xPt.q
    · exact xPt.q
    · exact xPt.and xPt.q
    · exact xPt.q
  | areturn =>
    rcases st with _ | ⟨x | x, st⟩
    all_goals first | exact xPt.no | skip
    exact xPt.q
  | return_ => exact xPt.q
  | invokevirtual o => exact xPt.and (xPt.bind (hC _ _ _) (fun r S' => hg _ _ _ _))
  | invokespecial o => exact xPt.and (xPt.bind (hC _ _ _) (fun r S' => hg _ _ _ _))
  | invokestatic o => exact xPt.and (xPt.bind (hC _ _ _) (fun r S' => hg _ _ _ _))
  | _ => exact xPt.no
theorem xgo_pt (hC : ∀ a as S, xPt S (C a as S)) (hK : ∀ pc ls st S, xPt S (fun Q => K Q pc ls st S)) : ∀ (L : List xI) (sk : Nat) (ls : xL) (st : List xV) (S : xS), xPt S (fun Q => xgo T N mt C (K Q) Q L sk ls st S) := by
  intro L
  induction L with
  | nil => intro sk ls st S; simp only [xgo]; exact xPt.no
  | cons e rest ih =>
    intro sk ls st S
    cases sk with
    | succ sk => simp only [xgo]; exact ih sk ls st S
    | zero =>
      obtain ⟨pc, ins, a, b⟩ := e
      simp only [xgo]
      cases hx : xsim T N ins a b ls st S with
      | none => exact xctl_pt hC hK (fun sk ls st S => ih sk ls st S) pc ins a b ls st S
      | some q =>
        obtain ⟨g, ls', st', S'⟩ := q
        obtain ⟨h1, h2⟩ := xsim_up hx
        cases g with
        | none => exact (ih 0 ls' st' S').up h1 h2
        | some g => exact xPt.and ((ih 0 ls' st' S').up h1 h2)
end PT
section PT2
variable {T : Nat → Nat → Nat × Nat} {N : Nat → Nat} {mt : xMt} {tr : Nat → Nat → List xI} {C : Nat → List xV → xS → (xV → xS → Prop) → Prop}
theorem xloop_pt (hC : ∀ a as S, xPt S (C a as S)) (mu : Nat) : ∀ (n pc : Nat) (ls : xL) (st : List xV) (S : xS), xPt S (fun Q => xloop T N mt tr C mu Q n pc ls st S) := by
  intro n
  induction n with
  | zero => intro pc ls st S; exact xPt.no
  | succ n ih =>
    intro pc ls st S
    exact xgo_pt (K := fun Q pc ls st S => xloop T N mt tr C mu Q n pc ls st S) hC (fun pc ls st S => ih pc ls st S) _ _ _ _ _
theorem xcall_pt : ∀ (d mu : Nat) (as : List xV) (S : xS), xPt S (fun Q => xcall T N mt tr d mu as S Q) := by
  intro d
  induction d with
  | zero => intro mu as S; exact xPt.no
  | succ d ih =>
    intro mu as S
    exact xPt.ex (fun n => xloop_pt ih mu n 0 _ [] S)
/-- a method's road from a stretch on, with d frames below it: no fuel to be seen -/
def xGo (T : Nat → Nat → Nat × Nat) (N : Nat → Nat) (mt : xMt) (tr : Nat → Nat → List xI) (d mu pc : Nat) (ls : xL) (st : List xV) (S : xS) (Q : xV → xS → Prop) : Prop := ∃ n, xloop T N mt tr (xcall T N mt tr d) mu Q n pc ls st S
/-- more posts, other roads: monotone -/
theorem xctl_mono {K K' : Nat → xL → List xV → xS → Prop} {Q Q' : xV → xS → Prop} {C C' : Nat → List xV → xS → (xV → xS → Prop) → Prop} {go go' : Nat → xL → List xV → xS → Prop}
    (hC : ∀ a as S P P', (∀ r S', P r S' → P' r S') → C a as S P → C' a as S P') (hK : ∀ pc ls st S, K pc ls st S → K' pc ls st S) (hQ : ∀ r S, Q r S → Q' r S) (hg : ∀ sk ls st S, go sk ls st S → go' sk ls st S) (pc : Nat) (ins : Instr) (a b : Nat) (ls : xL) (st : List xV) (S : xS)
    (h : xctl mt C K Q go pc ins a b ls st S) : xctl mt C' K' Q' go' pc ins a b ls st S := by
  cases ins with
  | if_icmp c o =>
    rcases st with _ | ⟨y | y, _ | ⟨x | x, st⟩⟩
    all_goals first | exact h.elim | skip
    refine ⟨fun z => ?_, fun z => hg _ _ _ _ (h.2 z)⟩
    have h1 := h.1 z
    cases a with
    | zero => exact hg _ _ _ _ h1
    | succ n => exact hK _ _ _ _ h1
  | ifCond c o =>
    rcases st with _ | ⟨x | x, st⟩
    all_goals first | exact h.elim | skip
    refine ⟨fun z => ?_, fun z => hg _ _ _ _ (h.2 z)⟩
    have h1 := h.1 z
    cases a with
    | zero => exact hg _ _ _ _ h1
    | succ n => exact hK _ _ _ _ h1
  | goto o =>
    cases a with
    | zero => exact hg _ _ _ _ h
    | succ n => exact hK _ _ _ _ h
  | nop =>
    rcases a with _ | _ | a
    · exact h.elim
    · exact hK _ _ _ _ h
    · exact h.elim
  | tableswitch d lo hi offs =>
    rcases st with _ | ⟨x | x, st⟩
    all_goals first | exact h.elim | skip
    exact ⟨fun z => hK _ _ _ _ (h.1 z), fun z => hK _ _ _ _ (h.2 z)⟩
  | ireturn =>
    rcases st with _ | ⟨x | x, st⟩
    all_goals first | exact h.elim | skip
    rcases a with _ | _ | _ | a
    · exact hQ _ _ h
    · exact hQ _ _ h
    · exact ⟨h.1, hQ _ _ h.2⟩
    · exact hQ _ _ h
  | areturn =>
    rcases st with _ | ⟨x | x, st⟩
    all_goals first | exact h.elim | skip
    exact hQ _ _ h
  | return_ => exact hQ _ _ h
  | invokevirtual o => exact ⟨h.1, hC _ _ _ _ _ (fun r S' q => hg _ _ _ _ q) h.2⟩
  | invokespecial o => exact ⟨h.1, hC _ _ _ _ _ (fun r S' q => hg _ _ _ _ q) h.2⟩
  | invokestatic o => exact ⟨h.1, hC _ _ _ _ _ (fun r S' q => hg _ _ _ _ q) h.2⟩
  | _ => exact h.elim
theorem xgo_mono {K K' : Nat → xL → List xV → xS → Prop} {Q Q' : xV → xS → Prop} {C C' : Nat → List xV → xS → (xV → xS → Prop) → Prop}
    (hC : ∀ a as S P P', (∀ r S', P r S' → P' r S') → C a as S P → C' a as S P') (hK : ∀ pc ls st S, K pc ls st S → K' pc ls st S) (hQ : ∀ r S, Q r S → Q' r S) : ∀ (L : List xI) (sk : Nat) (ls : xL) (st : List xV) (S : xS), xgo T N mt C K Q L sk ls st S → xgo T N mt C' K' Q' L sk ls st S := by
  intro L
  induction L with
  | nil => intro sk ls st S h; simp only [xgo] at h
  | cons e rest ih =>
    intro sk ls st S h
    cases sk with
    | succ sk => simp only [xgo] at h ⊢; exact ih sk ls st S h
    | zero =>
      obtain ⟨pc, ins, a, b⟩ := e
      simp only [xgo] at h ⊢
      cases hx : xsim T N ins a b ls st S with
      | none => rw [hx] at h; exact xctl_mono hC hK hQ (fun sk ls st S => ih sk ls st S) pc ins a b ls st S h
      | some q =>
        obtain ⟨g, ls', st', S'⟩ := q
        rw [hx] at h
        cases g with
        | none => exact ih 0 ls' st' S' h
        | some g => exact ⟨h.1, ih 0 ls' st' S' h.2⟩
theorem xloop_mono {Q Q' : xV → xS → Prop} {C C' : Nat → List xV → xS → (xV → xS → Prop) → Prop} (hC : ∀ a as S P P', (∀ r S', P r S' → P' r S') → C a as S P → C' a as S P') (hQ : ∀ r S, Q r S → Q' r S) (mu : Nat) : ∀ (n k pc : Nat) (ls : xL) (st : List xV) (S : xS), n ≤ k → xloop T N mt tr C mu Q n pc ls st S → xloop T N mt tr C' mu Q' k pc ls st S := by
  intro n
  induction n with
  | zero => intro k pc ls st S _ h; exact h.elim
  | succ n ih =>
    intro k pc ls st S hk h
    obtain ⟨k, rfl⟩ : ∃ j, k = j + 1 := ⟨k - 1, by omega⟩
    exact xgo_mono hC (fun pc ls st S q => ih k pc ls st S (by omega) q) hQ _ _ _ _ _ h
theorem xcall_mono : ∀ (d k mu : Nat) (as : List xV) (S : xS) (P P' : xV → xS → Prop), d ≤ k → (∀ r S', P r S' → P' r S') → xcall T N mt tr d mu as S P → xcall T N mt tr k mu as S P' := by
  intro d
  induction d with
  | zero => intro k mu as S P P' _ _ h; exact h.elim
  | succ d ih =>
    intro k mu as S P P' hk hP h
    obtain ⟨k, rfl⟩ : ∃ j, k = j + 1 := ⟨k - 1, by omega⟩
    obtain ⟨n, h⟩ := h
    exact ⟨n, xloop_mono (fun a as S P P' hp q => ih k a as S P P' (by omega) hp q) hP mu n n 0 _ _ _ (Nat.le_refl _) h⟩
theorem xGo.mono {d k mu pc : Nat} {ls : xL} {st : List xV} {S : xS} {Q Q' : xV → xS → Prop} (h : xGo T N mt tr d mu pc ls st S Q) (hd : d ≤ k) (hQ : ∀ r S, Q r S → Q' r S) : xGo T N mt tr k mu pc ls st S Q' := by
  obtain ⟨n, h⟩ := h
  exact ⟨n, xloop_mono (fun a as S P P' hp q => xcall_mono d k a as S P P' hd hp q) hQ mu n n pc _ _ _ (Nat.le_refl _) h⟩
/-- on from a stretch: its own text, with the roads as xGo -/
theorem xGo.in {d mu pc : Nat} {ls : xL} {st : List xV} {S : xS} {Q : xV → xS → Prop} (h : xgo T N mt (xcall T N mt tr d) (fun pc ls st S => xGo T N mt tr d mu pc ls st S Q) Q (tr mu pc) 0 ls st S) : xGo T N mt tr d mu pc ls st S Q := by
  have hp : ∀ (L : List xI) (sk : Nat) (ls : xL) (st : List xV) (S : xS), xgo T N mt (xcall T N mt tr d) (fun pc ls st S => xGo T N mt tr d mu pc ls st S Q) Q L sk ls st S → ∃ n, xgo T N mt (xcall T N mt tr d) (fun pc ls st S => xloop T N mt tr (xcall T N mt tr d) mu Q n pc ls st S) Q L sk ls st S := by
    intro L sk ls st S h
    have h2 := xgo_pt (T := T) (N := N) (mt := mt) (C := xcall T N mt tr d) (K := fun Q' pc ls st S => xGo T N mt tr d mu pc ls st S Q') (xcall_pt d) (fun pc ls st S => xPt.ex (fun n => xloop_pt (xcall_pt d) mu n pc ls st S)) L sk ls st S Q h
    clear h2
    induction L generalizing sk ls st S with
    | nil => simp only [xgo] at h
    | cons e rest ih =>
      cases sk with
      | succ sk => simp only [xgo] at h ⊢; exact ih sk ls st S h
      | zero =>
        obtain ⟨pc, ins, a, b⟩ := e
        simp only [xgo] at h ⊢
        cases hx : xsim T N ins a b ls st S with
        | some q =>
          obtain ⟨g, ls', st', S'⟩ := q
          rw [hx] at h
          cases g with
          | none => exact ih 0 ls' st' S' h
          | some g => obtain ⟨n, q⟩ := ih 0 ls' st' S' h.2; exact ⟨n, h.1, q⟩
        | none =>
          rw [hx] at h
          have call : ∀ (m' : Nat) (as : List xV) (F : xV → xS → List xV), xcall T N mt tr d m' as S (fun r S' => xgo T N mt (xcall T N mt tr d) (fun pc ls st S => xGo T N mt tr d mu pc ls st S Q) Q rest 0 ls (F r S') S') → ∃ n, xcall T N mt tr d m' as S (fun r S' => xgo T N mt (xcall T N mt tr d) (fun pc ls st S => xloop T N mt tr (xcall T N mt tr d) mu Q n pc ls st S) Q rest 0 ls (F r S') S') := by
            intro m' as F hc
            obtain ⟨r, S', a1, -, -, a4⟩ := xcall_pt d m' as S _ hc
            obtain ⟨n, q⟩ := ih 0 _ _ _ a1
            exact ⟨n, a4 _ q⟩
          cases ins with
          | if_icmp c o =>
            rcases st with _ | ⟨y | y, _ | ⟨x | x, st⟩⟩
            all_goals first | exact h.elim | skip
            by_cases hc : xc c (wr x) (wr y)
            · have h1 := h.1 hc
              cases a with
              | zero => obtain ⟨n, q⟩ := ih _ _ _ _ h1; exact ⟨n, fun _ => q, fun z => absurd hc z⟩
              | succ k => obtain ⟨n, q⟩ := h1; exact ⟨n, fun _ => q, fun z => absurd hc z⟩
            · obtain ⟨n, q⟩ := ih _ _ _ _ (h.2 hc); exact ⟨n, fun z => absurd z hc, fun _ => q⟩
          | ifCond c o =>
            rcases st with _ | ⟨x | x, st⟩
            all_goals first | exact h.elim | skip
            by_cases hc : xc c (wr x) 0
            · have h1 := h.1 hc
              cases a with
              | zero => obtain ⟨n, q⟩ := ih _ _ _ _ h1; exact ⟨n, fun _ => q, fun z => absurd hc z⟩
              | succ k => obtain ⟨n, q⟩ := h1; exact ⟨n, fun _ => q, fun z => absurd hc z⟩
            · obtain ⟨n, q⟩ := ih _ _ _ _ (h.2 hc); exact ⟨n, fun z => absurd z hc, fun _ => q⟩
          | goto o =>
            cases a with
            | zero => obtain ⟨n, q⟩ := ih _ _ _ _ h; exact ⟨n, q⟩
            | succ k => obtain ⟨n, q⟩ := h; exact ⟨n, q⟩
          | nop =>
            rcases a with _ | _ | a
            · exact h.elim
            · obtain ⟨n, q⟩ := h; exact ⟨n, q⟩
            · exact h.elim
          | tableswitch d lo hi offs =>
            rcases st with _ | ⟨x | x, st⟩
            all_goals first | exact h.elim | skip
            by_cases hc : wr x < lo ∨ hi < wr x
            · obtain ⟨n, q⟩ := h.1 hc; exact ⟨n, fun _ => q, fun z => absurd hc z⟩
            · obtain ⟨n, q⟩ := h.2 hc; exact ⟨n, fun z => absurd z hc, fun _ => q⟩
          | ireturn =>
            rcases st with _ | ⟨x | x, st⟩
            all_goals first | exact h.elim | skip
            rcases a with _ | _ | _ | a
            all_goals exact ⟨0, h⟩
          | areturn =>
            rcases st with _ | ⟨x | x, st⟩
            all_goals first | exact h.elim | skip
            exact ⟨0, h⟩
          | return_ => exact ⟨0, h⟩
          | invokevirtual o => obtain ⟨n, q⟩ := call _ _ _ h.2; exact ⟨n, h.1, q⟩
          | invokespecial o => obtain ⟨n, q⟩ := call _ _ _ h.2; exact ⟨n, h.1, q⟩
          | invokestatic o => obtain ⟨n, q⟩ := call _ _ _ h.2; exact ⟨n, h.1, q⟩
          | _ => exact h.elim
  obtain ⟨n, q⟩ := hp _ _ _ _ _ h
  exact ⟨n + 1, q⟩
theorem xcall_of {d mu : Nat} {as : List xV} {S : xS} {Q : xV → xS → Prop} (h : xGo T N mt tr d mu 0 (xent as (mt mu).2.2.2) [] S Q) : xcall T N mt tr (d + 1) mu as S Q := h
end PT2
end
